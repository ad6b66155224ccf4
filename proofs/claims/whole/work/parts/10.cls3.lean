theorem m_X8_33 : Cond.fieldLink RX8 33 RX8 "log" "LHawkRidge$Log;" ∈ gW := gW_in 320 (by decide +kernel) (by decide +kernel)
theorem gC_X8_33 {X : XT} {l : Launch} {D : va_G} {ad : Nat → Nat} {T : TT} {cc : ByteArray} {nL fr lo : Nat} {σ : St} {pc : Nat} {lv : List (Nat × Value)} {st : List Value} (C : Cx X (KC l D ad T) cc RX8 nL fr lo) (d : decode cc pc = .ok (.getfield 33, 3)) (kk : At X nL (wC T ad σ) (pc + 3) lv (.ref (ad 12) :: st)) : At X nL (wC T ad σ) pc lv (.ref (ad 0) :: st) := at_get C ingX8 (ci := 8) rfl 0 (wC_g0 T ad σ) 3 (by decide) m_X8_33 rfl rfl d kk
theorem m_X8_73 : Cond.fieldLinkNest RX8 73 RX2 "size" "I" "HawkRidge" ∈ nW := nW_in 183 (by decide +kernel) (by decide +kernel)
theorem gC_X8_73 {X : XT} {l : Launch} {D : va_G} {ad : Nat → Nat} {T : TT} {cc : ByteArray} {nL fr lo : Nat} {σ : St} {pc : Nat} {lv : List (Nat × Value)} {st : List Value} (C : Cx X (KC l D ad T) cc RX8 nL fr lo) (d : decode cc pc = .ok (.getfield 73, 3)) (kk : At X nL (wC T ad σ) (pc + 3) lv (.int (σ 12 5) :: st)) : At X nL (wC T ad σ) pc lv (.ref (ad 12) :: st) := at_getN C ingX2 (ci := 2) rfl 12 (wC_g12 T ad σ) 5 (by decide) m_X8_73 rfl rfl d kk
theorem m_X8_10 : Cond.fieldLink RX8 10 RX8 "ridge" "LHawkRidge$Ridge;" ∈ gW := gW_in 317 (by decide +kernel) (by decide +kernel)
theorem gC_X8_10 {X : XT} {l : Launch} {D : va_G} {ad : Nat → Nat} {T : TT} {cc : ByteArray} {nL fr lo : Nat} {σ : St} {pc : Nat} {lv : List (Nat × Value)} {st : List Value} (C : Cx X (KC l D ad T) cc RX8 nL fr lo) (d : decode cc pc = .ok (.getfield 10, 3)) (kk : At X nL (wC T ad σ) (pc + 3) lv (.ref (ad 2) :: st)) : At X nL (wC T ad σ) pc lv (.ref (ad 0) :: st) := at_get C ingX8 (ci := 8) rfl 0 (wC_g0 T ad σ) 0 (by decide) m_X8_10 rfl rfl d kk
theorem m_X8_76 : Cond.methodLinkNest RX8 76 yX6_add "HawkRidge" ∈ nW := nW_in 352 (by decide +kernel) (by decide +kernel)
theorem mc_X6_add : Cond.code yX6_add cX6_add 2 (some .int) ∈ gW := gW_in 355 (by decide +kernel) (by decide +kernel)
theorem ok_X6_add : okM yX6_add cX6_add 2 (some .int) 1 := ⟨mc_X6_add, mz_RX6, by decide +kernel⟩
theorem mi_X6_add : Cond.instanceMethod yX6_add ∈ gW := gW_in 354 (by decide +kernel) (by decide +kernel)
theorem ml_X6_add : Cond.selects RX6 yX6_add yX6_add ∈ gW := gW_in 0 (by decide +kernel) (by decide +kernel)
def pX8_post (v1 : Int32) (σ : St) (Q : Int32 → St → Prop) : Prop := (((σ 12 5) ≤ 0 → (pX6_add v1 σ (fun r2 s1 => (Q r2 s1)))) ∧ (¬ (σ 12 5) ≤ 0 → (Q (-1) σ)))
set_option maxRecDepth 100000 in
set_option maxHeartbeats 4000000 in
theorem kX8_post (l : Launch) (D : va_G) (ad : Nat → Nat) (T : TT) (hI : injA 40 ad) (v1 : Int32) (σ : St) (Q : Int32 → St → Prop) (h : pX8_post v1 σ Q) : Ki (KC l D ad T) (wC T ad) yX8_post cX8_post 2 (some .int) { frames := 1, cells := 0, slots := 0, locals := 21 } [.ref (ad 0), .int v1] (wC T ad σ) Q := by
  refine st_MI (fr := 1) (lo := 21) (by decide) ⟨rfl, rfl⟩ rfl (Nat.le_of_ble_eq_true rfl) rfl (fun X C hD ret => ?_)
  replace hD : ∀ σ, DX X (wC T ad σ) := fun σ => hD _ (wC_D hI T σ)
  unfold pX8_post at h
  refine at_aload_n C dX8_post_0 0 rfl ?_
  refine gC_X8_33 C dX8_post_1 ?_
  refine gC_X8_73 C dX8_post_4 ?_
  refine at_if_le (tgt := 12) C dX8_post_7 (by decide) (fun hc => ?_) (fun hc => ?_)
  · replace h := h.1 hc
    refine at_aload_n C dX8_post_12 0 rfl ?_
    refine gC_X8_10 C dX8_post_13 ?_
    refine at_iload_n C dX8_post_16 1 rfl ?_
    refine at_callVNi C (kX6_add l D ad T hI _ _ _ h) ok_X6_add m_X8_76 mi_X6_add ml_X6_add (wC_g2 T ad _) rfl ⟨rfl, rfl, Nat.le_of_ble_eq_true rfl, Nat.le_of_ble_eq_true rfl⟩ rfl rfl (Nat.le_of_ble_eq_true rfl) dX8_post_17 (fun r2 s1 h => ?_)
    exact ret _ _ _ _ dX8_post_20 h
  · replace h := h.2 hc
    refine at_iconst (v := (-1)) C dX8_post_10 (by decide) ?_
    exact ret _ _ _ _ dX8_post_11 h
theorem m_X8_19 : Cond.fieldLink RX8 19 RX8 "kinds" "LHawkRidge$KindTree;" ∈ gW := gW_in 318 (by decide +kernel) (by decide +kernel)
theorem gC_X8_19 {X : XT} {l : Launch} {D : va_G} {ad : Nat → Nat} {T : TT} {cc : ByteArray} {nL fr lo : Nat} {σ : St} {pc : Nat} {lv : List (Nat × Value)} {st : List Value} (C : Cx X (KC l D ad T) cc RX8 nL fr lo) (d : decode cc pc = .ok (.getfield 19, 3)) (kk : At X nL (wC T ad σ) (pc + 3) lv (.ref (ad 4) :: st)) : At X nL (wC T ad σ) pc lv (.ref (ad 0) :: st) := at_get C ingX8 (ci := 8) rfl 0 (wC_g0 T ad σ) 1 (by decide) m_X8_19 rfl rfl d kk
theorem m_X8_80 : Cond.methodLinkNest RX8 80 yX1_add "HawkRidge" ∈ nW := nW_in 360 (by decide +kernel) (by decide +kernel)
theorem mc_X1_add : Cond.code yX1_add cX1_add 4 (some .int) ∈ gW := gW_in 363 (by decide +kernel) (by decide +kernel)
theorem ok_X1_add : okM yX1_add cX1_add 4 (some .int) 3 := ⟨mc_X1_add, mz_RX1, by decide +kernel⟩
theorem mi_X1_add : Cond.instanceMethod yX1_add ∈ gW := gW_in 362 (by decide +kernel) (by decide +kernel)
theorem ml_X1_add : Cond.selects RX1 yX1_add yX1_add ∈ gW := gW_in 1 (by decide +kernel) (by decide +kernel)
def pX8_kind (v1 : Int32) (v2 : Int32) (v3 : Int32) (σ : St) (Q : Int32 → St → Prop) : Prop := (((σ 12 5) ≤ 0 → (pX1_add v1 v2 v3 σ (fun r2 s1 => (Q r2 s1)))) ∧ (¬ (σ 12 5) ≤ 0 → (Q (-1) σ)))
set_option maxRecDepth 100000 in
set_option maxHeartbeats 4000000 in
theorem kX8_kind (l : Launch) (D : va_G) (ad : Nat → Nat) (T : TT) (hI : injA 40 ad) (v1 : Int32) (v2 : Int32) (v3 : Int32) (σ : St) (Q : Int32 → St → Prop) (h : pX8_kind v1 v2 v3 σ Q) : Ki (KC l D ad T) (wC T ad) yX8_kind cX8_kind 4 (some .int) { frames := 2, cells := 0, slots := 0, locals := 44 } [.ref (ad 0), .int v1, .int v2, .int v3] (wC T ad σ) Q := by
  refine st_MI (fr := 2) (lo := 44) (by decide) ⟨rfl, rfl⟩ rfl (Nat.le_of_ble_eq_true rfl) rfl (fun X C hD ret => ?_)
  replace hD : ∀ σ, DX X (wC T ad σ) := fun σ => hD _ (wC_D hI T σ)
  unfold pX8_kind at h
  refine at_aload_n C dX8_kind_0 0 rfl ?_
  refine gC_X8_33 C dX8_kind_1 ?_
  refine gC_X8_73 C dX8_kind_4 ?_
  refine at_if_le (tgt := 12) C dX8_kind_7 (by decide) (fun hc => ?_) (fun hc => ?_)
  · replace h := h.1 hc
    refine at_aload_n C dX8_kind_12 0 rfl ?_
    refine gC_X8_19 C dX8_kind_13 ?_
    refine at_iload_n C dX8_kind_16 1 rfl ?_
    refine at_iload_n C dX8_kind_17 2 rfl ?_
    refine at_iload_n C dX8_kind_18 3 rfl ?_
    refine at_callVNi C (kX1_add l D ad T hI _ _ _ _ _ h) ok_X1_add m_X8_80 mi_X1_add ml_X1_add (wC_g4 T ad _) rfl ⟨rfl, rfl, Nat.le_of_ble_eq_true rfl, Nat.le_of_ble_eq_true rfl⟩ rfl rfl (Nat.le_of_ble_eq_true rfl) dX8_kind_19 (fun r2 s1 h => ?_)
    exact ret _ _ _ _ dX8_kind_22 h
  · replace h := h.2 hc
    refine at_iconst (v := (-1)) C dX8_kind_10 (by decide) ?_
    exact ret _ _ _ _ dX8_kind_11 h
theorem m_X8_66 : Cond.fieldLink RX8 66 RX8 "now" "I" ∈ gW := gW_in 325 (by decide +kernel) (by decide +kernel)
theorem gC_X8_66 {X : XT} {l : Launch} {D : va_G} {ad : Nat → Nat} {T : TT} {cc : ByteArray} {nL fr lo : Nat} {σ : St} {pc : Nat} {lv : List (Nat × Value)} {st : List Value} (C : Cx X (KC l D ad T) cc RX8 nL fr lo) (d : decode cc pc = .ok (.getfield 66, 3)) (kk : At X nL (wC T ad σ) (pc + 3) lv (.int (σ 0 8) :: st)) : At X nL (wC T ad σ) pc lv (.ref (ad 0) :: st) := at_get C ingX8 (ci := 8) rfl 0 (wC_g0 T ad σ) 8 (by decide) m_X8_66 rfl rfl d kk
theorem pC_X8_66 {X : XT} {l : Launch} {D : va_G} {ad : Nat → Nat} {T : TT} {cc : ByteArray} {nL fr lo : Nat} {σ : St} {pc : Nat} {lv : List (Nat × Value)} {st : List Value} {x : Int32} (C : Cx X (KC l D ad T) cc RX8 nL fr lo) (hD : ∀ σ, DX X (wC T ad σ)) (d : decode cc pc = .ok (.putfield 66, 3)) (kk : ∀ u2 : St, u2 = (st_up σ 0 8 x) → At X nL (wC T ad u2) (pc + 3) lv st) : At X nL (wC T ad σ) pc lv (.int x :: .ref (ad 0) :: st) := at_puti C ingX8 tyX8 tyX8_ok nmX8 (ci := 8) rfl (hD σ) 0 (wC_g0 T ad σ) 8 (by decide) m_X8_66 rfl rfl (by decide +kernel) (Nat.le_of_ble_eq_true rfl) rfl d (kk _ rfl)
def pX8_later  (σ : St) (Q : Int32 → St → Prop) : Prop := (((σ 0 8) < 1000 → ∀ s1 : St, s1 = (st_up σ 0 8 ((σ 0 8) + 1)) → (Q (s1 0 8) s1)) ∧ (¬ (σ 0 8) < 1000 → (Q (-1) σ)))
set_option maxRecDepth 100000 in
set_option maxHeartbeats 4000000 in
theorem kX8_later (l : Launch) (D : va_G) (ad : Nat → Nat) (T : TT) (hI : injA 40 ad)  (σ : St) (Q : Int32 → St → Prop) (h : pX8_later  σ Q) : Ki (KC l D ad T) (wC T ad) yX8_later cX8_later 1 (some .int) { frames := 0, cells := 0, slots := 0, locals := 0 } [.ref (ad 0)] (wC T ad σ) Q := by
  refine st_MI (fr := 0) (lo := 0) (by decide) ⟨rfl, rfl⟩ rfl (Nat.le_of_ble_eq_true rfl) rfl (fun X C hD ret => ?_)
  replace hD : ∀ σ, DX X (wC T ad σ) := fun σ => hD _ (wC_D hI T σ)
  unfold pX8_later at h
  refine at_aload_n C dX8_later_0 0 rfl ?_
  refine gC_X8_66 C dX8_later_1 ?_
  refine at_sipush (v := 1000) C dX8_later_4 (by decide) ?_
  refine at_icmp_lt (tgt := 12) C dX8_later_7 (by decide) (fun hc => ?_) (fun hc => ?_)
  · replace h := h.1 hc
    refine at_aload_n C dX8_later_12 0 rfl ?_
    refine at_dup C dX8_later_13 rfl ?_
    refine gC_X8_66 C dX8_later_14 ?_
    refine at_iconst (v := 1) C dX8_later_17 (by decide) ?_
    refine at_iadd C dX8_later_18 ?_
    refine pC_X8_66 C hD dX8_later_19 (fun s1 es1 => ?_)
    replace h := h s1 es1
    refine at_aload_n C dX8_later_22 0 rfl ?_
    refine gC_X8_66 C dX8_later_23 ?_
    exact ret _ _ _ _ dX8_later_26 h
  · replace h := h.2 hc
    refine at_iconst (v := (-1)) C dX8_later_10 (by decide) ?_
    exact ret _ _ _ _ dX8_later_11 h
def pX8_isYear (v0 : Int32) (σ : St) (Q : Int32 → St → Prop) : Prop := ((v0 < 0 → (Q 0 σ)) ∧ (¬ v0 < 0 → ((6 ≤ v0 → (Q 0 σ)) ∧ (¬ 6 ≤ v0 → (Q 1 σ)))))
set_option maxRecDepth 100000 in
set_option maxHeartbeats 4000000 in
theorem kX8_isYear (l : Launch) (D : va_G) (ad : Nat → Nat) (T : TT) (hI : injA 40 ad) (v0 : Int32) (σ : St) (Q : Int32 → St → Prop) (h : pX8_isYear v0 σ Q) : Ki (KC l D ad T) (wC T ad) yX8_isYear cX8_isYear 1 (some .boolean) { frames := 0, cells := 0, slots := 0, locals := 0 } [.int v0] (wC T ad σ) Q := by
  refine st_MZ (fr := 0) (lo := 0) (by decide) ⟨rfl, rfl⟩ rfl (Nat.le_of_ble_eq_true rfl) rfl (fun X C hD ret => ?_)
  replace hD : ∀ σ, DX X (wC T ad σ) := fun σ => hD _ (wC_D hI T σ)
  unfold pX8_isYear at h
  refine at_iload_n C dX8_isYear_0 0 rfl ?_
  refine at_if_lt (tgt := 14) C dX8_isYear_1 (by decide) (fun hc => ?_) (fun hc => ?_)
  · replace h := h.1 hc
    refine at_iconst (v := 0) C dX8_isYear_14 (by decide) ?_
    exact ret _ _ _ _ dX8_isYear_15 rfl h
  · replace h := h.2 hc
    refine at_iload_n C dX8_isYear_4 0 rfl ?_
    refine at_bipush (v := 6) C dX8_isYear_5 (by decide) ?_
    refine at_icmp_ge (tgt := 14) C dX8_isYear_7 (by decide) (fun hc => ?_) (fun hc => ?_)
    · replace h := h.1 hc
      refine at_iconst (v := 0) C dX8_isYear_14 (by decide) ?_
      exact ret _ _ _ _ dX8_isYear_15 rfl h
    · replace h := h.2 hc
      refine at_iconst (v := 1) C dX8_isYear_10 (by decide) ?_
      refine at_goto (tgt := 15) C dX8_isYear_11 (by decide) ?_
      exact ret _ _ _ _ dX8_isYear_15 rfl h
theorem m_X8_143 : Cond.methodLink RX8 143 yX8_isYear ∈ gW := gW_in 379 (by decide +kernel) (by decide +kernel)
theorem mc_X8_isYear : Cond.code yX8_isYear cX8_isYear 1 (some .boolean) ∈ gW := gW_in 381 (by decide +kernel) (by decide +kernel)
theorem mz_RX8 : Cond.initialized RX8 ∈ gW := gW_in 82 (by decide +kernel) (by decide +kernel)
theorem ok_X8_isYear : okM yX8_isYear cX8_isYear 1 (some .boolean) 1 := ⟨mc_X8_isYear, mz_RX8, by decide +kernel⟩
theorem ms_X8_isYear : Cond.static yX8_isYear ∈ gW := gW_in 380 (by decide +kernel) (by decide +kernel)
def pX8_isDay (v0 : Int32) (v1 : Int32) (σ : St) (Q : Int32 → St → Prop) : Prop := (pX8_isYear v0 σ (fun r2 s1 => ((r2 = 0 → (Q 0 s1)) ∧ (¬ r2 = 0 → ((v1 < 0 → (Q 0 s1)) ∧ (¬ v1 < 0 → ((30 ≤ v1 → (Q 0 s1)) ∧ (¬ 30 ≤ v1 → (Q 1 s1)))))))))
set_option maxRecDepth 100000 in
set_option maxHeartbeats 4000000 in
theorem kX8_isDay (l : Launch) (D : va_G) (ad : Nat → Nat) (T : TT) (hI : injA 40 ad) (v0 : Int32) (v1 : Int32) (σ : St) (Q : Int32 → St → Prop) (h : pX8_isDay v0 v1 σ Q) : Ki (KC l D ad T) (wC T ad) yX8_isDay cX8_isDay 2 (some .boolean) { frames := 1, cells := 0, slots := 0, locals := 20 } [.int v0, .int v1] (wC T ad σ) Q := by
  refine st_MZ (fr := 1) (lo := 20) (by decide) ⟨rfl, rfl⟩ rfl (Nat.le_of_ble_eq_true rfl) rfl (fun X C hD ret => ?_)
  replace hD : ∀ σ, DX X (wC T ad σ) := fun σ => hD _ (wC_D hI T σ)
  unfold pX8_isDay at h
  refine at_iload_n C dX8_isDay_0 0 rfl ?_
  refine at_callSi C (kX8_isYear l D ad T hI _ _ _ h) ok_X8_isYear m_X8_143 ms_X8_isYear ⟨rfl, rfl, Nat.le_of_ble_eq_true rfl, Nat.le_of_ble_eq_true rfl⟩ rfl rfl (Nat.le_of_ble_eq_true rfl) dX8_isDay_1 (fun r2 s1 h => ?_)
  refine at_if_eq (tgt := 21) C dX8_isDay_4 (by decide) (fun hc => ?_) (fun hc => ?_)
  · replace h := h.1 hc
    refine at_iconst (v := 0) C dX8_isDay_21 (by decide) ?_
    exact ret _ _ _ _ dX8_isDay_22 rfl h
  · replace h := h.2 hc
    refine at_iload_n C dX8_isDay_7 1 rfl ?_
    refine at_if_lt (tgt := 21) C dX8_isDay_8 (by decide) (fun hc => ?_) (fun hc => ?_)
    · replace h := h.1 hc
      refine at_iconst (v := 0) C dX8_isDay_21 (by decide) ?_
      exact ret _ _ _ _ dX8_isDay_22 rfl h
    · replace h := h.2 hc
      refine at_iload_n C dX8_isDay_11 1 rfl ?_
      refine at_bipush (v := 30) C dX8_isDay_12 (by decide) ?_
      refine at_icmp_ge (tgt := 21) C dX8_isDay_14 (by decide) (fun hc => ?_) (fun hc => ?_)
      · replace h := h.1 hc
        refine at_iconst (v := 0) C dX8_isDay_21 (by decide) ?_
        exact ret _ _ _ _ dX8_isDay_22 rfl h
      · replace h := h.2 hc
        refine at_iconst (v := 1) C dX8_isDay_17 (by decide) ?_
        refine at_goto (tgt := 22) C dX8_isDay_18 (by decide) ?_
        exact ret _ _ _ _ dX8_isDay_22 rfl h
theorem m_X8_83 : Cond.methodLink RX8 83 yX8_isDay ∈ gW := gW_in 376 (by decide +kernel) (by decide +kernel)
theorem mc_X8_isDay : Cond.code yX8_isDay cX8_isDay 2 (some .boolean) ∈ gW := gW_in 378 (by decide +kernel) (by decide +kernel)
theorem ok_X8_isDay : okM yX8_isDay cX8_isDay 2 (some .boolean) 2 := ⟨mc_X8_isDay, mz_RX8, by decide +kernel⟩
theorem ms_X8_isDay : Cond.static yX8_isDay ∈ gW := gW_in 377 (by decide +kernel) (by decide +kernel)
theorem m_X8_87 : Cond.methodLinkNest RX8 87 yX6_has "HawkRidge" ∈ nW := nW_in 382 (by decide +kernel) (by decide +kernel)
theorem mc_X6_has : Cond.code yX6_has cX6_has 2 (some .boolean) ∈ gW := gW_in 385 (by decide +kernel) (by decide +kernel)
theorem ok_X6_has : okM yX6_has cX6_has 2 (some .boolean) 1 := ⟨mc_X6_has, mz_RX6, by decide +kernel⟩
theorem mi_X6_has : Cond.instanceMethod yX6_has ∈ gW := gW_in 384 (by decide +kernel) (by decide +kernel)
theorem ml_X6_has : Cond.selects RX6 yX6_has yX6_has ∈ gW := gW_in 3 (by decide +kernel) (by decide +kernel)
theorem m_X8_91 : Cond.methodLinkNest RX8 91 yX1_has "HawkRidge" ∈ nW := nW_in 386 (by decide +kernel) (by decide +kernel)
def pX8_dateOf (v0 : Int32) (v1 : Int32) (σ : St) (Q : Int32 → St → Prop) : Prop := (Q ((v0 * 30) + v1) σ)
set_option maxRecDepth 100000 in
set_option maxHeartbeats 4000000 in
theorem kX8_dateOf (l : Launch) (D : va_G) (ad : Nat → Nat) (T : TT) (hI : injA 40 ad) (v0 : Int32) (v1 : Int32) (σ : St) (Q : Int32 → St → Prop) (h : pX8_dateOf v0 v1 σ Q) : Ki (KC l D ad T) (wC T ad) yX8_dateOf cX8_dateOf 2 (some .int) { frames := 0, cells := 0, slots := 0, locals := 0 } [.int v0, .int v1] (wC T ad σ) Q := by
  refine st_MI (fr := 0) (lo := 0) (by decide) ⟨rfl, rfl⟩ rfl (Nat.le_of_ble_eq_true rfl) rfl (fun X C hD ret => ?_)
  replace hD : ∀ σ, DX X (wC T ad σ) := fun σ => hD _ (wC_D hI T σ)
  unfold pX8_dateOf at h
  refine at_iload_n C dX8_dateOf_0 0 rfl ?_
  refine at_bipush (v := 30) C dX8_dateOf_1 (by decide) ?_
  refine at_imul C dX8_dateOf_3 ?_
  refine at_iload_n C dX8_dateOf_4 1 rfl ?_
  refine at_iadd C dX8_dateOf_5 ?_
  exact ret _ _ _ _ dX8_dateOf_6 h
theorem m_X8_92 : Cond.methodLink RX8 92 yX8_dateOf ∈ gW := gW_in 387 (by decide +kernel) (by decide +kernel)
theorem mc_X8_dateOf : Cond.code yX8_dateOf cX8_dateOf 2 (some .int) ∈ gW := gW_in 389 (by decide +kernel) (by decide +kernel)
theorem ok_X8_dateOf : okM yX8_dateOf cX8_dateOf 2 (some .int) 2 := ⟨mc_X8_dateOf, mz_RX8, by decide +kernel⟩
theorem ms_X8_dateOf : Cond.static yX8_dateOf ∈ gW := gW_in 388 (by decide +kernel) (by decide +kernel)
theorem m_X8_26 : Cond.fieldLink RX8 26 RX8 "season" "LHawkRidge$Season;" ∈ gW := gW_in 319 (by decide +kernel) (by decide +kernel)
theorem gC_X8_26 {X : XT} {l : Launch} {D : va_G} {ad : Nat → Nat} {T : TT} {cc : ByteArray} {nL fr lo : Nat} {σ : St} {pc : Nat} {lv : List (Nat × Value)} {st : List Value} (C : Cx X (KC l D ad T) cc RX8 nL fr lo) (d : decode cc pc = .ok (.getfield 26, 3)) (kk : At X nL (wC T ad σ) (pc + 3) lv (.ref (ad 9) :: st)) : At X nL (wC T ad σ) pc lv (.ref (ad 0) :: st) := at_get C ingX8 (ci := 8) rfl 0 (wC_g0 T ad σ) 2 (by decide) m_X8_26 rfl rfl d kk
theorem m_X7_15 : Cond.fieldLink RX7 15 RX7 "shutHours" "[I" ∈ gW := gW_in 157 (by decide +kernel) (by decide +kernel)
theorem gC_X7_15 {X : XT} {l : Launch} {D : va_G} {ad : Nat → Nat} {T : TT} {cc : ByteArray} {nL fr lo : Nat} {σ : St} {pc : Nat} {lv : List (Nat × Value)} {st : List Value} (C : Cx X (KC l D ad T) cc RX7 nL fr lo) (d : decode cc pc = .ok (.getfield 15, 3)) (kk : At X nL (wC T ad σ) (pc + 3) lv (.ref (ad 11) :: st)) : At X nL (wC T ad σ) pc lv (.ref (ad 9) :: st) := at_get C ingX7 (ci := 7) rfl 9 (wC_g9 T ad σ) 1 (by decide) m_X7_15 rfl rfl d kk
def pX7_isOff (v1 : Int32) (v2 : Int32) (σ : St) (Q : Int32 → St → Prop) : Prop := (vp_in v1 180 ∧ ((((σ 11 (Int32.toNatClampNeg v1)) &&& (1 <<< (v2 &&& 31))) = 0 → (Q 0 σ)) ∧ (¬ ((σ 11 (Int32.toNatClampNeg v1)) &&& (1 <<< (v2 &&& 31))) = 0 → (Q 1 σ))))
set_option maxRecDepth 100000 in
set_option maxHeartbeats 4000000 in
theorem kX7_isOff (l : Launch) (D : va_G) (ad : Nat → Nat) (T : TT) (hI : injA 40 ad) (v1 : Int32) (v2 : Int32) (σ : St) (Q : Int32 → St → Prop) (h : pX7_isOff v1 v2 σ Q) : Ki (KC l D ad T) (wC T ad) yX7_isOff cX7_isOff 3 (some .boolean) { frames := 0, cells := 0, slots := 0, locals := 0 } [.ref (ad 9), .int v1, .int v2] (wC T ad σ) Q := by
  refine st_MZ (fr := 0) (lo := 0) (by decide) ⟨rfl, rfl⟩ rfl (Nat.le_of_ble_eq_true rfl) rfl (fun X C hD ret => ?_)
  replace hD : ∀ σ, DX X (wC T ad σ) := fun σ => hD _ (wC_D hI T σ)
  unfold pX7_isOff at h
  refine at_aload_n C dX7_isOff_0 0 rfl ?_
  refine gC_X7_15 C dX7_isOff_1 ?_
  refine at_iload_n C dX7_isOff_4 1 rfl ?_
  obtain ⟨hi, h⟩ := h
  refine rC_11 C hi dX7_isOff_5 ?_
  refine at_iconst (v := 1) C dX7_isOff_6 (by decide) ?_
  refine at_iload_n C dX7_isOff_7 2 rfl ?_
  refine at_ishl C dX7_isOff_8 ?_
  refine at_iand C dX7_isOff_9 ?_
  refine at_if_eq (tgt := 17) C dX7_isOff_10 (by decide) (fun hc => ?_) (fun hc => ?_)
  · replace h := h.1 hc
    refine at_iconst (v := 0) C dX7_isOff_17 (by decide) ?_
    exact ret _ _ _ _ dX7_isOff_18 rfl h
  · replace h := h.2 hc
    refine at_iconst (v := 1) C dX7_isOff_13 (by decide) ?_
    refine at_goto (tgt := 18) C dX7_isOff_14 (by decide) ?_
    exact ret _ _ _ _ dX7_isOff_18 rfl h
theorem m_X8_96 : Cond.methodLinkNest RX8 96 yX7_isOff "HawkRidge" ∈ nW := nW_in 390 (by decide +kernel) (by decide +kernel)
theorem mc_X7_isOff : Cond.code yX7_isOff cX7_isOff 3 (some .boolean) ∈ gW := gW_in 393 (by decide +kernel) (by decide +kernel)
theorem mz_RX7 : Cond.initialized RX7 ∈ gW := gW_in 85 (by decide +kernel) (by decide +kernel)
theorem ok_X7_isOff : okM yX7_isOff cX7_isOff 3 (some .boolean) 2 := ⟨mc_X7_isOff, mz_RX7, by decide +kernel⟩
theorem mi_X7_isOff : Cond.instanceMethod yX7_isOff ∈ gW := gW_in 392 (by decide +kernel) (by decide +kernel)
theorem ml_X7_isOff : Cond.selects RX7 yX7_isOff yX7_isOff ∈ gW := gW_in 4 (by decide +kernel) (by decide +kernel)
theorem m_X2_27 : Cond.fieldLink RX2 27 RX2 "size" "I" ∈ gW := gW_in 182 (by decide +kernel) (by decide +kernel)
theorem gC_X2_27 {X : XT} {l : Launch} {D : va_G} {ad : Nat → Nat} {T : TT} {cc : ByteArray} {nL fr lo : Nat} {σ : St} {pc : Nat} {lv : List (Nat × Value)} {st : List Value} (C : Cx X (KC l D ad T) cc RX2 nL fr lo) (d : decode cc pc = .ok (.getfield 27, 3)) (kk : At X nL (wC T ad σ) (pc + 3) lv (.int (σ 12 5) :: st)) : At X nL (wC T ad σ) pc lv (.ref (ad 12) :: st) := at_get C ingX2 (ci := 2) rfl 12 (wC_g12 T ad σ) 5 (by decide) m_X2_27 rfl rfl d kk
def qX2_toldAt_39 (R5 : Int32 → Int32 → Int32 → Int32 → St → Prop) (Q : Int32 → St → Prop) (v1 : Int32) (v2 : Int32) (v3 : Int32) (v4 : Int32) (σ : St) : Prop := ∀ x2 : Int32, x2 = v4 + 1 → R5 v1 v2 v3 x2 σ
def qX2_toldAt_5 (R5 : Int32 → Int32 → Int32 → Int32 → St → Prop) (Q : Int32 → St → Prop) (v1 : Int32) (v2 : Int32) (v3 : Int32) (v4 : Int32) (σ : St) : Prop := (((σ 12 5) ≤ v4 → (Q v3 σ)) ∧ (¬ (σ 12 5) ≤ v4 → (vp_in v4 300 ∧ ((¬ (σ 13 (Int32.toNatClampNeg v4)) = v1 → (qX2_toldAt_39 R5 Q v1 v2 v3 v4 σ)) ∧ ((σ 13 (Int32.toNatClampNeg v4)) = v1 → (vp_in v4 300 ∧ ((¬ (σ 15 (Int32.toNatClampNeg v4)) = v2 → (qX2_toldAt_39 R5 Q v1 v2 v3 v4 σ)) ∧ ((σ 15 (Int32.toNatClampNeg v4)) = v2 → ∀ x1 : Int32, x1 = v3 + 1 → (qX2_toldAt_39 R5 Q v1 v2 x1 v4 σ)))))))))
def qX2_toldAt_l5  (Q : Int32 → St → Prop) : Nat → Int32 → Int32 → Int32 → Int32 → St → Prop
  | 0 => fun _ _ _ _ _ => False
  | n + 1 => qX2_toldAt_5 (qX2_toldAt_l5  Q n) Q
def pX2_toldAt (v1 : Int32) (v2 : Int32) (σ : St) (Q : Int32 → St → Prop) : Prop := (∃ n, qX2_toldAt_l5  Q n v1 v2 0 0 σ)
set_option maxRecDepth 100000 in
set_option maxHeartbeats 4000000 in
theorem kX2_toldAt (l : Launch) (D : va_G) (ad : Nat → Nat) (T : TT) (hI : injA 40 ad) (v1 : Int32) (v2 : Int32) (σ : St) (Q : Int32 → St → Prop) (h : pX2_toldAt v1 v2 σ Q) : Ki (KC l D ad T) (wC T ad) yX2_toldAt cX2_toldAt 5 (some .int) { frames := 0, cells := 0, slots := 0, locals := 0 } [.ref (ad 12), .int v1, .int v2] (wC T ad σ) Q := by
  refine st_MI (fr := 0) (lo := 0) (by decide) ⟨rfl, rfl⟩ rfl (Nat.le_of_ble_eq_true rfl) rfl (fun X C hD ret => ?_)
  replace hD : ∀ σ, DX X (wC T ad σ) := fun σ => hD _ (wC_D hI T σ)
  have t39 : ∀ (R5 : Int32 → Int32 → Int32 → Int32 → St → Prop) (hR5 : ∀ (v1 : Int32) (v2 : Int32) (v3 : Int32) (v4 : Int32) (σ : St), R5 v1 v2 v3 v4 σ → At X 5 (wC T ad σ) 5 [(0, .ref (ad 12)), (1, .int v1), (2, .int v2), (3, .int v3), (4, .int v4)] []) (v1 : Int32) (v2 : Int32) (v3 : Int32) (v4 : Int32) (σ : St), qX2_toldAt_39 R5 Q v1 v2 v3 v4 σ → At X 5 (wC T ad σ) 39 [(0, .ref (ad 12)), (1, .int v1), (2, .int v2), (3, .int v3), (4, .int v4)] [] := by
    intro R5 hR5 v1 v2 v3 v4 σ h
    unfold qX2_toldAt_39 at h
    obtain ⟨x2, ex2⟩ : ∃ y : Int32, y = v4 + 1 := ⟨_, rfl⟩
    replace h := h x2 ex2
    refine at_iinc (v := x2) (lv' := [(0, .ref (ad 12)), (1, .int v1), (2, .int v2), (3, .int v3), (4, .int x2)]) C dX2_toldAt_39 4 rfl (by rw [ex2]; rfl) (by decide) [1, 2, 3, 4, 0] rfl ?_
    refine at_goto (tgt := 5) C dX2_toldAt_42 (by decide) ?_
    exact hR5 _ _ _ _ _ h
  have tb5 : ∀ (R5 : Int32 → Int32 → Int32 → Int32 → St → Prop) (hR5 : ∀ (v1 : Int32) (v2 : Int32) (v3 : Int32) (v4 : Int32) (σ : St), R5 v1 v2 v3 v4 σ → At X 5 (wC T ad σ) 5 [(0, .ref (ad 12)), (1, .int v1), (2, .int v2), (3, .int v3), (4, .int v4)] []) (v1 : Int32) (v2 : Int32) (v3 : Int32) (v4 : Int32) (σ : St), qX2_toldAt_5 R5 Q v1 v2 v3 v4 σ → At X 5 (wC T ad σ) 5 [(0, .ref (ad 12)), (1, .int v1), (2, .int v2), (3, .int v3), (4, .int v4)] [] := by
    intro R5 hR5 v1 v2 v3 v4 σ h
    unfold qX2_toldAt_5 at h
    refine at_iload C dX2_toldAt_5 4 rfl ?_
    refine at_aload_n C dX2_toldAt_7 0 rfl ?_
    refine gC_X2_27 C dX2_toldAt_8 ?_
    refine at_icmp_ge (tgt := 45) C dX2_toldAt_11 (by decide) (fun hc => ?_) (fun hc => ?_)
    · replace h := h.1 hc
      refine at_iload_n C dX2_toldAt_45 3 rfl ?_
      exact ret _ _ _ _ dX2_toldAt_46 h
    · replace h := h.2 hc
      refine at_aload_n C dX2_toldAt_14 0 rfl ?_
      refine gC_X2_9 C dX2_toldAt_15 ?_
      refine at_iload C dX2_toldAt_18 4 rfl ?_
      obtain ⟨hi, h⟩ := h
      refine rC_13 C hi dX2_toldAt_20 ?_
      refine at_iload_n C dX2_toldAt_21 1 rfl ?_
      refine at_icmp_ne (tgt := 39) C dX2_toldAt_22 (by decide) (fun hc => ?_) (fun hc => ?_)
      · replace h := h.1 hc
        exact t39 R5 hR5 _ _ _ _ _ h
      · replace h := h.2 hc
        refine at_aload_n C dX2_toldAt_25 0 rfl ?_
        refine gC_X2_18 C dX2_toldAt_26 ?_
        refine at_iload C dX2_toldAt_29 4 rfl ?_
        obtain ⟨hi, h⟩ := h
        refine rC_15 C hi dX2_toldAt_31 ?_
        refine at_iload_n C dX2_toldAt_32 2 rfl ?_
        refine at_icmp_ne (tgt := 39) C dX2_toldAt_33 (by decide) (fun hc => ?_) (fun hc => ?_)
        · replace h := h.1 hc
          exact t39 R5 hR5 _ _ _ _ _ h
        · replace h := h.2 hc
          obtain ⟨x1, ex1⟩ : ∃ y : Int32, y = v3 + 1 := ⟨_, rfl⟩
          replace h := h x1 ex1
          refine at_iinc (v := x1) (lv' := [(0, .ref (ad 12)), (1, .int v1), (2, .int v2), (3, .int x1), (4, .int v4)]) C dX2_toldAt_36 3 rfl (by rw [ex1]; rfl) (by decide) [1, 2, 3, 0, 4] rfl ?_
          exact t39 R5 hR5 _ _ _ _ _ h
  have t5 : ∀ (n : Nat) (v1 : Int32) (v2 : Int32) (v3 : Int32) (v4 : Int32) (σ : St), qX2_toldAt_l5  Q n v1 v2 v3 v4 σ → At X 5 (wC T ad σ) 5 [(0, .ref (ad 12)), (1, .int v1), (2, .int v2), (3, .int v3), (4, .int v4)] [] := by
    intro  n
    induction n with
    | zero => intro v1 v2 v3 v4 σ h; exact False.elim h
    | succ n ih => intro v1 v2 v3 v4 σ h; exact tb5 (qX2_toldAt_l5  Q n) ih v1 v2 v3 v4 σ h
  unfold pX2_toldAt at h
  refine at_iconst (v := 0) C dX2_toldAt_0 (by decide) ?_
  refine at_istore_n (lv' := [(0, .ref (ad 12)), (1, .int v1), (2, .int v2), (3, .int 0)]) C dX2_toldAt_1 (by decide) [1, 2, 3, 0] rfl ?_
  refine at_iconst (v := 0) C dX2_toldAt_2 (by decide) ?_
  refine at_istore (lv' := [(0, .ref (ad 12)), (1, .int v1), (2, .int v2), (3, .int 0), (4, .int 0)]) C dX2_toldAt_3 (by decide) [1, 2, 3, 4, 0] rfl ?_
  obtain ⟨n, h⟩ := h
  exact t5  n _ _ _ _ _ h
theorem m_X8_99 : Cond.methodLinkNest RX8 99 yX2_toldAt "HawkRidge" ∈ nW := nW_in 394 (by decide +kernel) (by decide +kernel)
theorem mc_X2_toldAt : Cond.code yX2_toldAt cX2_toldAt 5 (some .int) ∈ gW := gW_in 397 (by decide +kernel) (by decide +kernel)
theorem ok_X2_toldAt : okM yX2_toldAt cX2_toldAt 5 (some .int) 2 := ⟨mc_X2_toldAt, mz_RX2, by decide +kernel⟩
theorem mi_X2_toldAt : Cond.instanceMethod yX2_toldAt ∈ gW := gW_in 396 (by decide +kernel) (by decide +kernel)
theorem ml_X2_toldAt : Cond.selects RX2 yX2_toldAt yX2_toldAt ∈ gW := gW_in 5 (by decide +kernel) (by decide +kernel)
theorem m_X2_15 : Cond.fieldLink RX2 15 RX2 "minuteOf" "[I" ∈ gW := gW_in 172 (by decide +kernel) (by decide +kernel)
theorem gC_X2_15 {X : XT} {l : Launch} {D : va_G} {ad : Nat → Nat} {T : TT} {cc : ByteArray} {nL fr lo : Nat} {σ : St} {pc : Nat} {lv : List (Nat × Value)} {st : List Value} (C : Cx X (KC l D ad T) cc RX2 nL fr lo) (d : decode cc pc = .ok (.getfield 15, 3)) (kk : At X nL (wC T ad σ) (pc + 3) lv (.ref (ad 14) :: st)) : At X nL (wC T ad σ) pc lv (.ref (ad 12) :: st) := at_get C ingX2 (ci := 2) rfl 12 (wC_g12 T ad σ) 1 (by decide) m_X2_15 rfl rfl d kk
theorem m_X2_21 : Cond.fieldLink RX2 21 RX2 "kindOf" "[I" ∈ gW := gW_in 177 (by decide +kernel) (by decide +kernel)
theorem gC_X2_21 {X : XT} {l : Launch} {D : va_G} {ad : Nat → Nat} {T : TT} {cc : ByteArray} {nL fr lo : Nat} {σ : St} {pc : Nat} {lv : List (Nat × Value)} {st : List Value} (C : Cx X (KC l D ad T) cc RX2 nL fr lo) (d : decode cc pc = .ok (.getfield 21, 3)) (kk : At X nL (wC T ad σ) (pc + 3) lv (.ref (ad 16) :: st)) : At X nL (wC T ad σ) pc lv (.ref (ad 12) :: st) := at_get C ingX2 (ci := 2) rfl 12 (wC_g12 T ad σ) 3 (by decide) m_X2_21 rfl rfl d kk
theorem m_X2_24 : Cond.fieldLink RX2 24 RX2 "since" "[I" ∈ gW := gW_in 180 (by decide +kernel) (by decide +kernel)
theorem gC_X2_24 {X : XT} {l : Launch} {D : va_G} {ad : Nat → Nat} {T : TT} {cc : ByteArray} {nL fr lo : Nat} {σ : St} {pc : Nat} {lv : List (Nat × Value)} {st : List Value} (C : Cx X (KC l D ad T) cc RX2 nL fr lo) (d : decode cc pc = .ok (.getfield 24, 3)) (kk : At X nL (wC T ad σ) (pc + 3) lv (.ref (ad 17) :: st)) : At X nL (wC T ad σ) pc lv (.ref (ad 12) :: st) := at_get C ingX2 (ci := 2) rfl 12 (wC_g12 T ad σ) 4 (by decide) m_X2_24 rfl rfl d kk
theorem pC_X2_27 {X : XT} {l : Launch} {D : va_G} {ad : Nat → Nat} {T : TT} {cc : ByteArray} {nL fr lo : Nat} {σ : St} {pc : Nat} {lv : List (Nat × Value)} {st : List Value} {x : Int32} (C : Cx X (KC l D ad T) cc RX2 nL fr lo) (hD : ∀ σ, DX X (wC T ad σ)) (d : decode cc pc = .ok (.putfield 27, 3)) (kk : ∀ u2 : St, u2 = (st_up σ 12 5 x) → At X nL (wC T ad u2) (pc + 3) lv st) : At X nL (wC T ad σ) pc lv (.int x :: .ref (ad 12) :: st) := at_puti C ingX2 tyX2 tyX2_ok nmX2 (ci := 2) rfl (hD σ) 12 (wC_g12 T ad σ) 5 (by decide) m_X2_27 rfl rfl (by decide +kernel) (Nat.le_of_ble_eq_true rfl) rfl d (kk _ rfl)
def pX2_add (v1 : Int32) (v2 : Int32) (v3 : Int32) (v4 : Int32) (v5 : Int32) (σ : St) (Q : Int32 → St → Prop) : Prop := (((σ 12 5) < 300 → (vp_in (σ 12 5) 300 ∧ ∀ s1 : St, s1 = (st_up σ 13 (Int32.toNatClampNeg (σ 12 5)) v1) → (vp_in (s1 12 5) 300 ∧ ∀ s2 : St, s2 = (st_up s1 14 (Int32.toNatClampNeg (s1 12 5)) v2) → (vp_in (s2 12 5) 300 ∧ ∀ s3 : St, s3 = (st_up s2 15 (Int32.toNatClampNeg (s2 12 5)) v3) → (vp_in (s3 12 5) 300 ∧ ∀ s4 : St, s4 = (st_up s3 16 (Int32.toNatClampNeg (s3 12 5)) v4) → (vp_in (s4 12 5) 300 ∧ ∀ s5 : St, s5 = (st_up s4 17 (Int32.toNatClampNeg (s4 12 5)) v5) → ∀ s6 : St, s6 = (st_up s5 12 5 ((s5 12 5) + 1)) → (Q ((s6 12 5) - 1) s6))))))) ∧ (¬ (σ 12 5) < 300 → (Q (-1) σ)))
set_option maxRecDepth 100000 in
set_option maxHeartbeats 4000000 in
theorem kX2_add (l : Launch) (D : va_G) (ad : Nat → Nat) (T : TT) (hI : injA 40 ad) (v1 : Int32) (v2 : Int32) (v3 : Int32) (v4 : Int32) (v5 : Int32) (σ : St) (Q : Int32 → St → Prop) (h : pX2_add v1 v2 v3 v4 v5 σ Q) : Ki (KC l D ad T) (wC T ad) yX2_add cX2_add 6 (some .int) { frames := 0, cells := 0, slots := 0, locals := 0 } [.ref (ad 12), .int v1, .int v2, .int v3, .int v4, .int v5] (wC T ad σ) Q := by
  refine st_MI (fr := 0) (lo := 0) (by decide) ⟨rfl, rfl⟩ rfl (Nat.le_of_ble_eq_true rfl) rfl (fun X C hD ret => ?_)
  replace hD : ∀ σ, DX X (wC T ad σ) := fun σ => hD _ (wC_D hI T σ)
  unfold pX2_add at h
  refine at_aload_n C dX2_add_0 0 rfl ?_
  refine gC_X2_27 C dX2_add_1 ?_
  refine at_sipush (v := 300) C dX2_add_4 (by decide) ?_
  refine at_icmp_lt (tgt := 12) C dX2_add_7 (by decide) (fun hc => ?_) (fun hc => ?_)
  · replace h := h.1 hc
    refine at_aload_n C dX2_add_12 0 rfl ?_
    refine gC_X2_9 C dX2_add_13 ?_
    refine at_aload_n C dX2_add_16 0 rfl ?_
    refine gC_X2_27 C dX2_add_17 ?_
    refine at_iload_n C dX2_add_20 1 rfl ?_
    obtain ⟨hi, h⟩ := h
    refine sC_13 C hD hi dX2_add_21 (fun s1 es1 => ?_)
    replace h := h s1 es1
    refine at_aload_n C dX2_add_22 0 rfl ?_
    refine gC_X2_15 C dX2_add_23 ?_
    refine at_aload_n C dX2_add_26 0 rfl ?_
    refine gC_X2_27 C dX2_add_27 ?_
    refine at_iload_n C dX2_add_30 2 rfl ?_
    obtain ⟨hi, h⟩ := h
    refine sC_14 C hD hi dX2_add_31 (fun s2 es2 => ?_)
    replace h := h s2 es2
    refine at_aload_n C dX2_add_32 0 rfl ?_
    refine gC_X2_18 C dX2_add_33 ?_
    refine at_aload_n C dX2_add_36 0 rfl ?_
    refine gC_X2_27 C dX2_add_37 ?_
    refine at_iload_n C dX2_add_40 3 rfl ?_
    obtain ⟨hi, h⟩ := h
    refine sC_15 C hD hi dX2_add_41 (fun s3 es3 => ?_)
    replace h := h s3 es3
    refine at_aload_n C dX2_add_42 0 rfl ?_
    refine gC_X2_21 C dX2_add_43 ?_
    refine at_aload_n C dX2_add_46 0 rfl ?_
    refine gC_X2_27 C dX2_add_47 ?_
    refine at_iload C dX2_add_50 4 rfl ?_
    obtain ⟨hi, h⟩ := h
    refine sC_16 C hD hi dX2_add_52 (fun s4 es4 => ?_)
    replace h := h s4 es4
    refine at_aload_n C dX2_add_53 0 rfl ?_
    refine gC_X2_24 C dX2_add_54 ?_
    refine at_aload_n C dX2_add_57 0 rfl ?_
    refine gC_X2_27 C dX2_add_58 ?_
    refine at_iload C dX2_add_61 5 rfl ?_
    obtain ⟨hi, h⟩ := h
    refine sC_17 C hD hi dX2_add_63 (fun s5 es5 => ?_)
    replace h := h s5 es5
    refine at_aload_n C dX2_add_64 0 rfl ?_
    refine at_dup C dX2_add_65 rfl ?_
    refine gC_X2_27 C dX2_add_66 ?_
    refine at_iconst (v := 1) C dX2_add_69 (by decide) ?_
    refine at_iadd C dX2_add_70 ?_
    refine pC_X2_27 C hD dX2_add_71 (fun s6 es6 => ?_)
    replace h := h s6 es6
    refine at_aload_n C dX2_add_74 0 rfl ?_
    refine gC_X2_27 C dX2_add_75 ?_
    refine at_iconst (v := 1) C dX2_add_78 (by decide) ?_
    refine at_isub C dX2_add_79 ?_
    exact ret _ _ _ _ dX2_add_80 h
  · replace h := h.2 hc
    refine at_iconst (v := (-1)) C dX2_add_10 (by decide) ?_
    exact ret _ _ _ _ dX2_add_11 h
theorem m_X8_102 : Cond.methodLinkNest RX8 102 yX2_add "HawkRidge" ∈ nW := nW_in 398 (by decide +kernel) (by decide +kernel)
theorem mc_X2_add : Cond.code yX2_add cX2_add 6 (some .int) ∈ gW := gW_in 401 (by decide +kernel) (by decide +kernel)
theorem ok_X2_add : okM yX2_add cX2_add 6 (some .int) 5 := ⟨mc_X2_add, mz_RX2, by decide +kernel⟩
theorem mi_X2_add : Cond.instanceMethod yX2_add ∈ gW := gW_in 400 (by decide +kernel) (by decide +kernel)
theorem ml_X2_add : Cond.selects RX2 yX2_add yX2_add ∈ gW := gW_in 6 (by decide +kernel) (by decide +kernel)
theorem m_X8_70 : Cond.fieldLink RX8 70 RX8 "asKnown" "I" ∈ gW := gW_in 326 (by decide +kernel) (by decide +kernel)
theorem gC_X8_70 {X : XT} {l : Launch} {D : va_G} {ad : Nat → Nat} {T : TT} {cc : ByteArray} {nL fr lo : Nat} {σ : St} {pc : Nat} {lv : List (Nat × Value)} {st : List Value} (C : Cx X (KC l D ad T) cc RX8 nL fr lo) (d : decode cc pc = .ok (.getfield 70, 3)) (kk : At X nL (wC T ad σ) (pc + 3) lv (.int (σ 0 9) :: st)) : At X nL (wC T ad σ) pc lv (.ref (ad 0) :: st) := at_get C ingX8 (ci := 8) rfl 0 (wC_g0 T ad σ) 9 (by decide) m_X8_70 rfl rfl d kk
def pX8_knownDay  (σ : St) (Q : Int32 → St → Prop) : Prop := ((¬ (σ 0 9) = (-1) → (Q (σ 0 9) σ)) ∧ ((σ 0 9) = (-1) → (Q (σ 0 8) σ)))
set_option maxRecDepth 100000 in
set_option maxHeartbeats 4000000 in
theorem kX8_knownDay (l : Launch) (D : va_G) (ad : Nat → Nat) (T : TT) (hI : injA 40 ad)  (σ : St) (Q : Int32 → St → Prop) (h : pX8_knownDay  σ Q) : Ki (KC l D ad T) (wC T ad) yX8_knownDay cX8_knownDay 1 (some .int) { frames := 0, cells := 0, slots := 0, locals := 0 } [.ref (ad 0)] (wC T ad σ) Q := by
  refine st_MI (fr := 0) (lo := 0) (by decide) ⟨rfl, rfl⟩ rfl (Nat.le_of_ble_eq_true rfl) rfl (fun X C hD ret => ?_)
  replace hD : ∀ σ, DX X (wC T ad σ) := fun σ => hD _ (wC_D hI T σ)
  unfold pX8_knownDay at h
  refine at_aload_n C dX8_knownDay_0 0 rfl ?_
  refine gC_X8_70 C dX8_knownDay_1 ?_
  refine at_iconst (v := (-1)) C dX8_knownDay_4 (by decide) ?_
  refine at_icmp_ne (tgt := 15) C dX8_knownDay_5 (by decide) (fun hc => ?_) (fun hc => ?_)
  · replace h := h.1 hc
    refine at_aload_n C dX8_knownDay_15 0 rfl ?_
    refine gC_X8_70 C dX8_knownDay_16 ?_
    exact ret _ _ _ _ dX8_knownDay_19 h
  · replace h := h.2 hc
    refine at_aload_n C dX8_knownDay_8 0 rfl ?_
    refine gC_X8_66 C dX8_knownDay_9 ?_
    refine at_goto (tgt := 19) C dX8_knownDay_12 (by decide) ?_
    exact ret _ _ _ _ dX8_knownDay_19 h
theorem m_X8_105 : Cond.methodLink RX8 105 yX8_knownDay ∈ gW := gW_in 402 (by decide +kernel) (by decide +kernel)
theorem mc_X8_knownDay : Cond.code yX8_knownDay cX8_knownDay 1 (some .int) ∈ gW := gW_in 405 (by decide +kernel) (by decide +kernel)
theorem ok_X8_knownDay : okM yX8_knownDay cX8_knownDay 1 (some .int) 0 := ⟨mc_X8_knownDay, mz_RX8, by decide +kernel⟩
theorem mi_X8_knownDay : Cond.instanceMethod yX8_knownDay ∈ gW := gW_in 404 (by decide +kernel) (by decide +kernel)
theorem ml_X8_knownDay : Cond.selects RX8 yX8_knownDay yX8_knownDay ∈ gW := gW_in 7 (by decide +kernel) (by decide +kernel)
theorem pC_X2_31 {X : XT} {l : Launch} {D : va_G} {ad : Nat → Nat} {T : TT} {cc : ByteArray} {nL fr lo : Nat} {σ : St} {pc : Nat} {lv : List (Nat × Value)} {st : List Value} {x : Int32} (C : Cx X (KC l D ad T) cc RX2 nL fr lo) (hD : ∀ σ, DX X (wC T ad σ)) (d : decode cc pc = .ok (.putfield 31, 3)) (kk : ∀ u2 : St, u2 = (st_up σ 12 6 x) → At X nL (wC T ad u2) (pc + 3) lv st) : At X nL (wC T ad σ) pc lv (.int x :: .ref (ad 12) :: st) := at_puti C ingX2 tyX2 tyX2_ok nmX2 (ci := 2) rfl (hD σ) 12 (wC_g12 T ad σ) 6 (by decide) m_X2_31 rfl rfl (by decide +kernel) (Nat.le_of_ble_eq_true rfl) rfl d (kk _ rfl)
def qX2_showUpTo_35 (R7 : Int32 → Int32 → St → Prop) (Q : St → Prop) (v1 : Int32) (v2 : Int32) (σ : St) : Prop := ∀ x3 : Int32, x3 = v2 + 1 → R7 v1 x3 σ
def qX2_showUpTo_7 (R7 : Int32 → Int32 → St → Prop) (Q : St → Prop) (v1 : Int32) (v2 : Int32) (σ : St) : Prop := (((σ 12 5) ≤ v2 → (Q σ)) ∧ (¬ (σ 12 5) ≤ v2 → (vp_in v2 300 ∧ ((v1 < (σ 17 (Int32.toNatClampNeg v2)) → (qX2_showUpTo_35 R7 Q v1 v2 σ)) ∧ (¬ v1 < (σ 17 (Int32.toNatClampNeg v2)) → ∀ s2 : St, s2 = (st_up σ 12 6 ((σ 12 6) + 1)) → (qX2_showUpTo_35 R7 Q v1 v2 s2))))))
def qX2_showUpTo_l7  (Q : St → Prop) : Nat → Int32 → Int32 → St → Prop
  | 0 => fun _ _ _ => False
  | n + 1 => qX2_showUpTo_7 (qX2_showUpTo_l7  Q n) Q
def pX2_showUpTo (v1 : Int32) (σ : St) (Q : St → Prop) : Prop := ∀ s1 : St, s1 = (st_up σ 12 6 0) → (∃ n, qX2_showUpTo_l7  Q n v1 0 s1)
set_option maxRecDepth 100000 in
set_option maxHeartbeats 4000000 in
theorem kX2_showUpTo (l : Launch) (D : va_G) (ad : Nat → Nat) (T : TT) (hI : injA 40 ad) (v1 : Int32) (σ : St) (Q : St → Prop) (h : pX2_showUpTo v1 σ Q) : Kv (KC l D ad T) (wC T ad) yX2_showUpTo cX2_showUpTo 3 none { frames := 0, cells := 0, slots := 0, locals := 0 } [.ref (ad 12), .int v1] (wC T ad σ) Q := by
  refine st_MV (fr := 0) (lo := 0) (by decide) ⟨rfl, rfl⟩ rfl (Nat.le_of_ble_eq_true rfl) rfl (fun X C hD ret => ?_)
  replace hD : ∀ σ, DX X (wC T ad σ) := fun σ => hD _ (wC_D hI T σ)
  have t35 : ∀ (R7 : Int32 → Int32 → St → Prop) (hR7 : ∀ (v1 : Int32) (v2 : Int32) (σ : St), R7 v1 v2 σ → At X 3 (wC T ad σ) 7 [(0, .ref (ad 12)), (1, .int v1), (2, .int v2)] []) (v1 : Int32) (v2 : Int32) (σ : St), qX2_showUpTo_35 R7 Q v1 v2 σ → At X 3 (wC T ad σ) 35 [(0, .ref (ad 12)), (1, .int v1), (2, .int v2)] [] := by
    intro R7 hR7 v1 v2 σ h
    unfold qX2_showUpTo_35 at h
    obtain ⟨x3, ex3⟩ : ∃ y : Int32, y = v2 + 1 := ⟨_, rfl⟩
    replace h := h x3 ex3
    refine at_iinc (v := x3) (lv' := [(0, .ref (ad 12)), (1, .int v1), (2, .int x3)]) C dX2_showUpTo_35 2 rfl (by rw [ex3]; rfl) (by decide) [1, 2, 0] rfl ?_
    refine at_goto (tgt := 7) C dX2_showUpTo_38 (by decide) ?_
    exact hR7 _ _ _ h
  have tb7 : ∀ (R7 : Int32 → Int32 → St → Prop) (hR7 : ∀ (v1 : Int32) (v2 : Int32) (σ : St), R7 v1 v2 σ → At X 3 (wC T ad σ) 7 [(0, .ref (ad 12)), (1, .int v1), (2, .int v2)] []) (v1 : Int32) (v2 : Int32) (σ : St), qX2_showUpTo_7 R7 Q v1 v2 σ → At X 3 (wC T ad σ) 7 [(0, .ref (ad 12)), (1, .int v1), (2, .int v2)] [] := by
    intro R7 hR7 v1 v2 σ h
    unfold qX2_showUpTo_7 at h
    refine at_iload_n C dX2_showUpTo_7 2 rfl ?_
    refine at_aload_n C dX2_showUpTo_8 0 rfl ?_
    refine gC_X2_27 C dX2_showUpTo_9 ?_
    refine at_icmp_ge (tgt := 41) C dX2_showUpTo_12 (by decide) (fun hc => ?_) (fun hc => ?_)
    · replace h := h.1 hc
      exact ret _ _ _ dX2_showUpTo_41 h
    · replace h := h.2 hc
      refine at_aload_n C dX2_showUpTo_15 0 rfl ?_
      refine gC_X2_24 C dX2_showUpTo_16 ?_
      refine at_iload_n C dX2_showUpTo_19 2 rfl ?_
      obtain ⟨hi, h⟩ := h
      refine rC_17 C hi dX2_showUpTo_20 ?_
      refine at_iload_n C dX2_showUpTo_21 1 rfl ?_
      refine at_icmp_gt (tgt := 35) C dX2_showUpTo_22 (by decide) (fun hc => ?_) (fun hc => ?_)
      · replace h := h.1 hc
        exact t35 R7 hR7 _ _ _ h
      · replace h := h.2 hc
        refine at_aload_n C dX2_showUpTo_25 0 rfl ?_
        refine at_dup C dX2_showUpTo_26 rfl ?_
        refine gC_X2_31 C dX2_showUpTo_27 ?_
        refine at_iconst (v := 1) C dX2_showUpTo_30 (by decide) ?_
        refine at_iadd C dX2_showUpTo_31 ?_
        refine pC_X2_31 C hD dX2_showUpTo_32 (fun s2 es2 => ?_)
        replace h := h s2 es2
        exact t35 R7 hR7 _ _ _ h
  have t7 : ∀ (n : Nat) (v1 : Int32) (v2 : Int32) (σ : St), qX2_showUpTo_l7  Q n v1 v2 σ → At X 3 (wC T ad σ) 7 [(0, .ref (ad 12)), (1, .int v1), (2, .int v2)] [] := by
    intro  n
    induction n with
    | zero => intro v1 v2 σ h; exact False.elim h
    | succ n ih => intro v1 v2 σ h; exact tb7 (qX2_showUpTo_l7  Q n) ih v1 v2 σ h
  unfold pX2_showUpTo at h
  refine at_aload_n C dX2_showUpTo_0 0 rfl ?_
  refine at_iconst (v := 0) C dX2_showUpTo_1 (by decide) ?_
  refine pC_X2_31 C hD dX2_showUpTo_2 (fun s1 es1 => ?_)
  replace h := h s1 es1
  refine at_iconst (v := 0) C dX2_showUpTo_5 (by decide) ?_
  refine at_istore_n (lv' := [(0, .ref (ad 12)), (1, .int v1), (2, .int 0)]) C dX2_showUpTo_6 (by decide) [1, 2, 0] rfl ?_
  obtain ⟨n, h⟩ := h
  exact t7  n _ _ _ h
theorem m_X8_109 : Cond.methodLinkNest RX8 109 yX2_showUpTo "HawkRidge" ∈ nW := nW_in 406 (by decide +kernel) (by decide +kernel)
theorem mc_X2_showUpTo : Cond.code yX2_showUpTo cX2_showUpTo 3 none ∈ gW := gW_in 409 (by decide +kernel) (by decide +kernel)
theorem ok_X2_showUpTo : okM yX2_showUpTo cX2_showUpTo 3 none 1 := ⟨mc_X2_showUpTo, mz_RX2, by decide +kernel⟩
theorem mi_X2_showUpTo : Cond.instanceMethod yX2_showUpTo ∈ gW := gW_in 408 (by decide +kernel) (by decide +kernel)
theorem ml_X2_showUpTo : Cond.selects RX2 yX2_showUpTo yX2_showUpTo ∈ gW := gW_in 8 (by decide +kernel) (by decide +kernel)
theorem m_X8_42 : Cond.fieldLink RX8 42 RX8 "flock" "LHawkRidge$Flock;" ∈ gW := gW_in 321 (by decide +kernel) (by decide +kernel)
theorem gC_X8_42 {X : XT} {l : Launch} {D : va_G} {ad : Nat → Nat} {T : TT} {cc : ByteArray} {nL fr lo : Nat} {σ : St} {pc : Nat} {lv : List (Nat × Value)} {st : List Value} (C : Cx X (KC l D ad T) cc RX8 nL fr lo) (d : decode cc pc = .ok (.getfield 42, 3)) (kk : At X nL (wC T ad σ) (pc + 3) lv (.ref (ad 18) :: st)) : At X nL (wC T ad σ) pc lv (.ref (ad 0) :: st) := at_get C ingX8 (ci := 8) rfl 0 (wC_g0 T ad σ) 4 (by decide) m_X8_42 rfl rfl d kk
def pX0_forget (v1 : Int32) (σ : St) (Q : St → Prop) : Prop := (vp_in v1 180 ∧ ∀ s1 : St, s1 = (st_up σ 19 (Int32.toNatClampNeg v1) (vp_nar .boolean 0)) → (Q s1))
set_option maxRecDepth 100000 in
set_option maxHeartbeats 4000000 in
theorem kX0_forget (l : Launch) (D : va_G) (ad : Nat → Nat) (T : TT) (hI : injA 40 ad) (v1 : Int32) (σ : St) (Q : St → Prop) (h : pX0_forget v1 σ Q) : Kv (KC l D ad T) (wC T ad) yX0_forget cX0_forget 2 none { frames := 0, cells := 0, slots := 0, locals := 0 } [.ref (ad 18), .int v1] (wC T ad σ) Q := by
  refine st_MV (fr := 0) (lo := 0) (by decide) ⟨rfl, rfl⟩ rfl (Nat.le_of_ble_eq_true rfl) rfl (fun X C hD ret => ?_)
  replace hD : ∀ σ, DX X (wC T ad σ) := fun σ => hD _ (wC_D hI T σ)
  unfold pX0_forget at h
  refine at_aload_n C dX0_forget_0 0 rfl ?_
  refine gC_X0_18 C dX0_forget_1 ?_
  refine at_iload_n C dX0_forget_4 1 rfl ?_
  refine at_iconst (v := 0) C dX0_forget_5 (by decide) ?_
  obtain ⟨hi, h⟩ := h
  refine sC_19 C hD hi dX0_forget_6 (fun s1 es1 => ?_)
  replace h := h s1 es1
  exact ret _ _ _ dX0_forget_7 h
theorem m_X8_113 : Cond.methodLinkNest RX8 113 yX0_forget "HawkRidge" ∈ nW := nW_in 410 (by decide +kernel) (by decide +kernel)
theorem mc_X0_forget : Cond.code yX0_forget cX0_forget 2 none ∈ gW := gW_in 413 (by decide +kernel) (by decide +kernel)
theorem ok_X0_forget : okM yX0_forget cX0_forget 2 none 1 := ⟨mc_X0_forget, mz_RX0, by decide +kernel⟩
theorem mi_X0_forget : Cond.instanceMethod yX0_forget ∈ gW := gW_in 412 (by decide +kernel) (by decide +kernel)
theorem ml_X0_forget : Cond.selects RX0 yX0_forget yX0_forget ∈ gW := gW_in 9 (by decide +kernel) (by decide +kernel)
def pX8_tell (v1 : Int32) (v2 : Int32) (v3 : Int32) (v4 : Int32) (v5 : Int32) (σ : St) (Q : Int32 → St → Prop) : Prop := (pX8_isDay v1 v2 σ (fun r2 s1 => ((r2 = 0 → (Q (-1) s1)) ∧ (¬ r2 = 0 → ((v3 < 0 → (Q (-1) s1)) ∧ (¬ v3 < 0 → ((v3 < 600 → (pX6_has v4 s1 (fun r4 s3 => ((r4 = 0 → (Q (-1) s3)) ∧ (¬ r4 = 0 → (pX1_has v5 s3 (fun r6 s5 => ((¬ r6 = 0 → (pX8_dateOf v1 v2 s5 (fun r8 s7 => (pX7_isOff r8 (v3 / 60) s7 (fun r10 s9 => ((r10 = 0 → ((300 ≤ (s9 12 5) → (Q (-1) s9)) ∧ (¬ 300 ≤ (s9 12 5) → (pX2_toldAt r8 v4 s9 (fun r12 s11 => ((r12 < 12 → (pX2_add r8 v3 v4 v5 (s11 0 8) s11 (fun r14 s13 => (pX8_knownDay s13 (fun r16 s15 => (pX2_showUpTo r16 s15 (fun s17 => (pX0_forget r8 s17 (fun s19 => (Q r14 s19)))))))))) ∧ (¬ r12 < 12 → (Q (-1) s11)))))))) ∧ (¬ r10 = 0 → (Q (-1) s9)))))))) ∧ (r6 = 0 → (Q (-1) s5)))))))))) ∧ (¬ v3 < 600 → (Q (-1) s1)))))))))
set_option maxRecDepth 100000 in
set_option maxHeartbeats 4000000 in
theorem kX8_tell (l : Launch) (D : va_G) (ad : Nat → Nat) (T : TT) (hI : injA 40 ad) (v1 : Int32) (v2 : Int32) (v3 : Int32) (v4 : Int32) (v5 : Int32) (σ : St) (Q : Int32 → St → Prop) (h : pX8_tell v1 v2 v3 v4 v5 σ Q) : Ki (KC l D ad T) (wC T ad) yX8_tell cX8_tell 8 (some .int) { frames := 2, cells := 0, slots := 0, locals := 41 } [.ref (ad 0), .int v1, .int v2, .int v3, .int v4, .int v5] (wC T ad σ) Q := by
  refine st_MI (fr := 2) (lo := 41) (by decide) ⟨rfl, rfl⟩ rfl (Nat.le_of_ble_eq_true rfl) rfl (fun X C hD ret => ?_)
  replace hD : ∀ σ, DX X (wC T ad σ) := fun σ => hD _ (wC_D hI T σ)
  unfold pX8_tell at h
  refine at_iload_n C dX8_tell_0 1 rfl ?_
  refine at_iload_n C dX8_tell_1 2 rfl ?_
  refine at_callSi C (kX8_isDay l D ad T hI _ _ _ _ h) ok_X8_isDay m_X8_83 ms_X8_isDay ⟨rfl, rfl, Nat.le_of_ble_eq_true rfl, Nat.le_of_ble_eq_true rfl⟩ rfl rfl (Nat.le_of_ble_eq_true rfl) dX8_tell_2 (fun r2 s1 h => ?_)
  refine at_if_eq (tgt := 19) C dX8_tell_5 (by decide) (fun hc => ?_) (fun hc => ?_)
  · replace h := h.1 hc
    refine at_iconst (v := (-1)) C dX8_tell_19 (by decide) ?_
    exact ret _ _ _ _ dX8_tell_20 h
  · replace h := h.2 hc
    refine at_iload_n C dX8_tell_8 3 rfl ?_
    refine at_if_lt (tgt := 19) C dX8_tell_9 (by decide) (fun hc => ?_) (fun hc => ?_)
    · replace h := h.1 hc
      refine at_iconst (v := (-1)) C dX8_tell_19 (by decide) ?_
      exact ret _ _ _ _ dX8_tell_20 h
    · replace h := h.2 hc
      refine at_iload_n C dX8_tell_12 3 rfl ?_
      refine at_sipush (v := 600) C dX8_tell_13 (by decide) ?_
      refine at_icmp_lt (tgt := 21) C dX8_tell_16 (by decide) (fun hc => ?_) (fun hc => ?_)
      · replace h := h.1 hc
        refine at_aload_n C dX8_tell_21 0 rfl ?_
        refine gC_X8_10 C dX8_tell_22 ?_
        refine at_iload C dX8_tell_25 4 rfl ?_
        refine at_callVNi C (kX6_has l D ad T hI _ _ _ h) ok_X6_has m_X8_87 mi_X6_has ml_X6_has (wC_g2 T ad _) rfl ⟨rfl, rfl, Nat.le_of_ble_eq_true rfl, Nat.le_of_ble_eq_true rfl⟩ rfl rfl (Nat.le_of_ble_eq_true rfl) dX8_tell_27 (fun r4 s3 h => ?_)
        refine at_if_eq (tgt := 45) C dX8_tell_30 (by decide) (fun hc => ?_) (fun hc => ?_)
        · replace h := h.1 hc
          refine at_iconst (v := (-1)) C dX8_tell_45 (by decide) ?_
          exact ret _ _ _ _ dX8_tell_46 h
        · replace h := h.2 hc
          refine at_aload_n C dX8_tell_33 0 rfl ?_
          refine gC_X8_19 C dX8_tell_34 ?_
          refine at_iload C dX8_tell_37 5 rfl ?_
          refine at_callVNi C (kX1_has l D ad T hI _ _ _ h) ok_X1_has m_X8_91 mi_X1_has ml_X1_has (wC_g4 T ad _) rfl ⟨rfl, rfl, Nat.le_of_ble_eq_true rfl, Nat.le_of_ble_eq_true rfl⟩ rfl rfl (Nat.le_of_ble_eq_true rfl) dX8_tell_39 (fun r6 s5 h => ?_)
          refine at_if_ne (tgt := 47) C dX8_tell_42 (by decide) (fun hc => ?_) (fun hc => ?_)
          · replace h := h.1 hc
            refine at_iload_n C dX8_tell_47 1 rfl ?_
            refine at_iload_n C dX8_tell_48 2 rfl ?_
            refine at_callSi C (kX8_dateOf l D ad T hI _ _ _ _ h) ok_X8_dateOf m_X8_92 ms_X8_dateOf ⟨rfl, rfl, Nat.le_of_ble_eq_true rfl, Nat.le_of_ble_eq_true rfl⟩ rfl rfl (Nat.le_of_ble_eq_true rfl) dX8_tell_49 (fun r8 s7 h => ?_)
            refine at_istore (lv' := [(0, .ref (ad 0)), (1, .int v1), (2, .int v2), (3, .int v3), (4, .int v4), (5, .int v5), (6, .int r8)]) C dX8_tell_52 (by decide) [1, 2, 3, 4, 5, 6, 0] rfl ?_
            refine at_aload_n C dX8_tell_54 0 rfl ?_
            refine gC_X8_26 C dX8_tell_55 ?_
            refine at_iload C dX8_tell_58 6 rfl ?_
            refine at_iload_n C dX8_tell_60 3 rfl ?_
            refine at_bipush (v := 60) C dX8_tell_61 (by decide) ?_
            refine at_idiv C dX8_tell_63 (by decide) ?_
            refine at_callVNi C (kX7_isOff l D ad T hI _ _ _ _ h) ok_X7_isOff m_X8_96 mi_X7_isOff ml_X7_isOff (wC_g9 T ad _) rfl ⟨rfl, rfl, Nat.le_of_ble_eq_true rfl, Nat.le_of_ble_eq_true rfl⟩ rfl rfl (Nat.le_of_ble_eq_true rfl) dX8_tell_64 (fun r10 s9 h => ?_)
            refine at_if_eq (tgt := 72) C dX8_tell_67 (by decide) (fun hc => ?_) (fun hc => ?_)
            · replace h := h.1 hc
              refine at_aload_n C dX8_tell_72 0 rfl ?_
              refine gC_X8_33 C dX8_tell_73 ?_
              refine gC_X8_73 C dX8_tell_76 ?_
              refine at_sipush (v := 300) C dX8_tell_79 (by decide) ?_
              refine at_icmp_ge (tgt := 101) C dX8_tell_82 (by decide) (fun hc => ?_) (fun hc => ?_)
              · replace h := h.1 hc
                refine at_iconst (v := (-1)) C dX8_tell_101 (by decide) ?_
                exact ret _ _ _ _ dX8_tell_102 h
              · replace h := h.2 hc
                refine at_aload_n C dX8_tell_85 0 rfl ?_
                refine gC_X8_33 C dX8_tell_86 ?_
                refine at_iload C dX8_tell_89 6 rfl ?_
                refine at_iload C dX8_tell_91 4 rfl ?_
                refine at_callVNi C (kX2_toldAt l D ad T hI _ _ _ _ h) ok_X2_toldAt m_X8_99 mi_X2_toldAt ml_X2_toldAt (wC_g12 T ad _) rfl ⟨rfl, rfl, Nat.le_of_ble_eq_true rfl, Nat.le_of_ble_eq_true rfl⟩ rfl rfl (Nat.le_of_ble_eq_true rfl) dX8_tell_93 (fun r12 s11 h => ?_)
                refine at_bipush (v := 12) C dX8_tell_96 (by decide) ?_
                refine at_icmp_lt (tgt := 103) C dX8_tell_98 (by decide) (fun hc => ?_) (fun hc => ?_)
                · replace h := h.1 hc
                  refine at_aload_n C dX8_tell_103 0 rfl ?_
                  refine gC_X8_33 C dX8_tell_104 ?_
                  refine at_iload C dX8_tell_107 6 rfl ?_
                  refine at_iload_n C dX8_tell_109 3 rfl ?_
                  refine at_iload C dX8_tell_110 4 rfl ?_
                  refine at_iload C dX8_tell_112 5 rfl ?_
                  refine at_aload_n C dX8_tell_114 0 rfl ?_
                  refine gC_X8_66 C dX8_tell_115 ?_
                  refine at_callVNi C (kX2_add l D ad T hI _ _ _ _ _ _ _ h) ok_X2_add m_X8_102 mi_X2_add ml_X2_add (wC_g12 T ad _) rfl ⟨rfl, rfl, Nat.le_of_ble_eq_true rfl, Nat.le_of_ble_eq_true rfl⟩ rfl rfl (Nat.le_of_ble_eq_true rfl) dX8_tell_118 (fun r14 s13 h => ?_)
                  refine at_istore (lv' := [(0, .ref (ad 0)), (1, .int v1), (2, .int v2), (3, .int v3), (4, .int v4), (5, .int v5), (6, .int r8), (7, .int r14)]) C dX8_tell_121 (by decide) [1, 2, 3, 4, 5, 6, 7, 0] rfl ?_
                  refine at_aload_n C dX8_tell_123 0 rfl ?_
                  refine gC_X8_33 C dX8_tell_124 ?_
                  refine at_aload_n C dX8_tell_127 0 rfl ?_
                  refine at_callVi C (kX8_knownDay l D ad T hI  _ _ h) ok_X8_knownDay m_X8_105 mi_X8_knownDay ml_X8_knownDay (wC_g0 T ad _) rfl ⟨rfl, rfl, Nat.le_of_ble_eq_true rfl, Nat.le_of_ble_eq_true rfl⟩ rfl rfl (Nat.le_of_ble_eq_true rfl) dX8_tell_128 (fun r16 s15 h => ?_)
                  refine at_callVNv C (kX2_showUpTo l D ad T hI _ _ _ h) ok_X2_showUpTo m_X8_109 mi_X2_showUpTo ml_X2_showUpTo (wC_g12 T ad _) rfl ⟨rfl, rfl, Nat.le_of_ble_eq_true rfl, Nat.le_of_ble_eq_true rfl⟩ rfl rfl (Nat.le_of_ble_eq_true rfl) dX8_tell_131 (fun s17 h => ?_)
                  refine at_aload_n C dX8_tell_134 0 rfl ?_
                  refine gC_X8_42 C dX8_tell_135 ?_
                  refine at_iload C dX8_tell_138 6 rfl ?_
                  refine at_callVNv C (kX0_forget l D ad T hI _ _ _ h) ok_X0_forget m_X8_113 mi_X0_forget ml_X0_forget (wC_g18 T ad _) rfl ⟨rfl, rfl, Nat.le_of_ble_eq_true rfl, Nat.le_of_ble_eq_true rfl⟩ rfl rfl (Nat.le_of_ble_eq_true rfl) dX8_tell_140 (fun s19 h => ?_)
                  refine at_iload C dX8_tell_143 7 rfl ?_
                  exact ret _ _ _ _ dX8_tell_145 h
                · replace h := h.2 hc
                  refine at_iconst (v := (-1)) C dX8_tell_101 (by decide) ?_
                  exact ret _ _ _ _ dX8_tell_102 h
            · replace h := h.2 hc
              refine at_iconst (v := (-1)) C dX8_tell_70 (by decide) ?_
              exact ret _ _ _ _ dX8_tell_71 h
          · replace h := h.2 hc
            refine at_iconst (v := (-1)) C dX8_tell_45 (by decide) ?_
            exact ret _ _ _ _ dX8_tell_46 h
      · replace h := h.2 hc
        refine at_iconst (v := (-1)) C dX8_tell_19 (by decide) ?_
        exact ret _ _ _ _ dX8_tell_20 h
def pX2_hour (v1 : Int32) (σ : St) (Q : Int32 → St → Prop) : Prop := (vp_in v1 300 ∧ (Q ((σ 14 (Int32.toNatClampNeg v1)) / 60) σ))
set_option maxRecDepth 100000 in
set_option maxHeartbeats 4000000 in
theorem kX2_hour (l : Launch) (D : va_G) (ad : Nat → Nat) (T : TT) (hI : injA 40 ad) (v1 : Int32) (σ : St) (Q : Int32 → St → Prop) (h : pX2_hour v1 σ Q) : Ki (KC l D ad T) (wC T ad) yX2_hour cX2_hour 2 (some .int) { frames := 0, cells := 0, slots := 0, locals := 0 } [.ref (ad 12), .int v1] (wC T ad σ) Q := by
  refine st_MI (fr := 0) (lo := 0) (by decide) ⟨rfl, rfl⟩ rfl (Nat.le_of_ble_eq_true rfl) rfl (fun X C hD ret => ?_)
  replace hD : ∀ σ, DX X (wC T ad σ) := fun σ => hD _ (wC_D hI T σ)
  unfold pX2_hour at h
  refine at_aload_n C dX2_hour_0 0 rfl ?_
  refine gC_X2_15 C dX2_hour_1 ?_
  refine at_iload_n C dX2_hour_4 1 rfl ?_
  obtain ⟨hi, h⟩ := h
  refine rC_14 C hi dX2_hour_5 ?_
  refine at_bipush (v := 60) C dX2_hour_6 (by decide) ?_
  refine at_idiv C dX2_hour_8 (by decide) ?_
  exact ret _ _ _ _ dX2_hour_9 h
theorem m_X2_34 : Cond.methodLink RX2 34 yX2_hour ∈ gW := gW_in 422 (by decide +kernel) (by decide +kernel)
theorem mc_X2_hour : Cond.code yX2_hour cX2_hour 2 (some .int) ∈ gW := gW_in 425 (by decide +kernel) (by decide +kernel)
theorem ok_X2_hour : okM yX2_hour cX2_hour 2 (some .int) 1 := ⟨mc_X2_hour, mz_RX2, by decide +kernel⟩
theorem mi_X2_hour : Cond.instanceMethod yX2_hour ∈ gW := gW_in 424 (by decide +kernel) (by decide +kernel)
theorem ml_X2_hour : Cond.selects RX2 yX2_hour yX2_hour ∈ gW := gW_in 11 (by decide +kernel) (by decide +kernel)
def qX2_hasIn_31 (R2 : Int32 → Int32 → Int32 → St → Prop) (Q : Int32 → St → Prop) (v1 : Int32) (v2 : Int32) (v3 : Int32) (σ : St) : Prop := ∀ x3 : Int32, x3 = v3 + 1 → R2 v1 v2 x3 σ
def qX2_hasIn_2 (R2 : Int32 → Int32 → Int32 → St → Prop) (Q : Int32 → St → Prop) (v1 : Int32) (v2 : Int32) (v3 : Int32) (σ : St) : Prop := (((σ 12 5) ≤ v3 → (Q 0 σ)) ∧ (¬ (σ 12 5) ≤ v3 → (vp_in v3 300 ∧ ((¬ (σ 13 (Int32.toNatClampNeg v3)) = v1 → (qX2_hasIn_31 R2 Q v1 v2 v3 σ)) ∧ ((σ 13 (Int32.toNatClampNeg v3)) = v1 → (pX2_hour v3 σ (fun r2 s1 => ((¬ r2 = v2 → (qX2_hasIn_31 R2 Q v1 v2 v3 s1)) ∧ (r2 = v2 → (Q 1 s1))))))))))
def qX2_hasIn_l2  (Q : Int32 → St → Prop) : Nat → Int32 → Int32 → Int32 → St → Prop
  | 0 => fun _ _ _ _ => False
  | n + 1 => qX2_hasIn_2 (qX2_hasIn_l2  Q n) Q
def pX2_hasIn (v1 : Int32) (v2 : Int32) (σ : St) (Q : Int32 → St → Prop) : Prop := (∃ n, qX2_hasIn_l2  Q n v1 v2 0 σ)
set_option maxRecDepth 100000 in
set_option maxHeartbeats 4000000 in
theorem kX2_hasIn (l : Launch) (D : va_G) (ad : Nat → Nat) (T : TT) (hI : injA 40 ad) (v1 : Int32) (v2 : Int32) (σ : St) (Q : Int32 → St → Prop) (h : pX2_hasIn v1 v2 σ Q) : Ki (KC l D ad T) (wC T ad) yX2_hasIn cX2_hasIn 4 (some .boolean) { frames := 1, cells := 0, slots := 0, locals := 21 } [.ref (ad 12), .int v1, .int v2] (wC T ad σ) Q := by
  refine st_MZ (fr := 1) (lo := 21) (by decide) ⟨rfl, rfl⟩ rfl (Nat.le_of_ble_eq_true rfl) rfl (fun X C hD ret => ?_)
  replace hD : ∀ σ, DX X (wC T ad σ) := fun σ => hD _ (wC_D hI T σ)
  have t31 : ∀ (R2 : Int32 → Int32 → Int32 → St → Prop) (hR2 : ∀ (v1 : Int32) (v2 : Int32) (v3 : Int32) (σ : St), R2 v1 v2 v3 σ → At X 4 (wC T ad σ) 2 [(0, .ref (ad 12)), (1, .int v1), (2, .int v2), (3, .int v3)] []) (v1 : Int32) (v2 : Int32) (v3 : Int32) (σ : St), qX2_hasIn_31 R2 Q v1 v2 v3 σ → At X 4 (wC T ad σ) 31 [(0, .ref (ad 12)), (1, .int v1), (2, .int v2), (3, .int v3)] [] := by
    intro R2 hR2 v1 v2 v3 σ h
    unfold qX2_hasIn_31 at h
    obtain ⟨x3, ex3⟩ : ∃ y : Int32, y = v3 + 1 := ⟨_, rfl⟩
    replace h := h x3 ex3
    refine at_iinc (v := x3) (lv' := [(0, .ref (ad 12)), (1, .int v1), (2, .int v2), (3, .int x3)]) C dX2_hasIn_31 3 rfl (by rw [ex3]; rfl) (by decide) [1, 2, 3, 0] rfl ?_
    refine at_goto (tgt := 2) C dX2_hasIn_34 (by decide) ?_
    exact hR2 _ _ _ _ h
  have tb2 : ∀ (R2 : Int32 → Int32 → Int32 → St → Prop) (hR2 : ∀ (v1 : Int32) (v2 : Int32) (v3 : Int32) (σ : St), R2 v1 v2 v3 σ → At X 4 (wC T ad σ) 2 [(0, .ref (ad 12)), (1, .int v1), (2, .int v2), (3, .int v3)] []) (v1 : Int32) (v2 : Int32) (v3 : Int32) (σ : St), qX2_hasIn_2 R2 Q v1 v2 v3 σ → At X 4 (wC T ad σ) 2 [(0, .ref (ad 12)), (1, .int v1), (2, .int v2), (3, .int v3)] [] := by
    intro R2 hR2 v1 v2 v3 σ h
    unfold qX2_hasIn_2 at h
    refine at_iload_n C dX2_hasIn_2 3 rfl ?_
    refine at_aload_n C dX2_hasIn_3 0 rfl ?_
    refine gC_X2_27 C dX2_hasIn_4 ?_
    refine at_icmp_ge (tgt := 37) C dX2_hasIn_7 (by decide) (fun hc => ?_) (fun hc => ?_)
    · replace h := h.1 hc
      refine at_iconst (v := 0) C dX2_hasIn_37 (by decide) ?_
      exact ret _ _ _ _ dX2_hasIn_38 rfl h
    · replace h := h.2 hc
      refine at_aload_n C dX2_hasIn_10 0 rfl ?_
      refine gC_X2_9 C dX2_hasIn_11 ?_
      refine at_iload_n C dX2_hasIn_14 3 rfl ?_
      obtain ⟨hi, h⟩ := h
      refine rC_13 C hi dX2_hasIn_15 ?_
      refine at_iload_n C dX2_hasIn_16 1 rfl ?_
      refine at_icmp_ne (tgt := 31) C dX2_hasIn_17 (by decide) (fun hc => ?_) (fun hc => ?_)
      · replace h := h.1 hc
        exact t31 R2 hR2 _ _ _ _ h
      · replace h := h.2 hc
        refine at_aload_n C dX2_hasIn_20 0 rfl ?_
        refine at_iload_n C dX2_hasIn_21 3 rfl ?_
        refine at_callVi C (kX2_hour l D ad T hI _ _ _ h) ok_X2_hour m_X2_34 mi_X2_hour ml_X2_hour (wC_g12 T ad _) rfl ⟨rfl, rfl, Nat.le_of_ble_eq_true rfl, Nat.le_of_ble_eq_true rfl⟩ rfl rfl (Nat.le_of_ble_eq_true rfl) dX2_hasIn_22 (fun r2 s1 h => ?_)
        refine at_iload_n C dX2_hasIn_25 2 rfl ?_
        refine at_icmp_ne (tgt := 31) C dX2_hasIn_26 (by decide) (fun hc => ?_) (fun hc => ?_)
        · replace h := h.1 hc
          exact t31 R2 hR2 _ _ _ _ h
        · replace h := h.2 hc
          refine at_iconst (v := 1) C dX2_hasIn_29 (by decide) ?_
          exact ret _ _ _ _ dX2_hasIn_30 rfl h
  have t2 : ∀ (n : Nat) (v1 : Int32) (v2 : Int32) (v3 : Int32) (σ : St), qX2_hasIn_l2  Q n v1 v2 v3 σ → At X 4 (wC T ad σ) 2 [(0, .ref (ad 12)), (1, .int v1), (2, .int v2), (3, .int v3)] [] := by
    intro  n
    induction n with
    | zero => intro v1 v2 v3 σ h; exact False.elim h
    | succ n ih => intro v1 v2 v3 σ h; exact tb2 (qX2_hasIn_l2  Q n) ih v1 v2 v3 σ h
  unfold pX2_hasIn at h
  refine at_iconst (v := 0) C dX2_hasIn_0 (by decide) ?_
  refine at_istore_n (lv' := [(0, .ref (ad 12)), (1, .int v1), (2, .int v2), (3, .int 0)]) C dX2_hasIn_1 (by decide) [1, 2, 3, 0] rfl ?_
  obtain ⟨n, h⟩ := h
  exact t2  n _ _ _ _ h
theorem m_X8_116 : Cond.methodLinkNest RX8 116 yX2_hasIn "HawkRidge" ∈ nW := nW_in 418 (by decide +kernel) (by decide +kernel)
theorem mc_X2_hasIn : Cond.code yX2_hasIn cX2_hasIn 4 (some .boolean) ∈ gW := gW_in 421 (by decide +kernel) (by decide +kernel)
theorem ok_X2_hasIn : okM yX2_hasIn cX2_hasIn 4 (some .boolean) 2 := ⟨mc_X2_hasIn, mz_RX2, by decide +kernel⟩
theorem mi_X2_hasIn : Cond.instanceMethod yX2_hasIn ∈ gW := gW_in 420 (by decide +kernel) (by decide +kernel)
theorem ml_X2_hasIn : Cond.selects RX2 yX2_hasIn yX2_hasIn ∈ gW := gW_in 10 (by decide +kernel) (by decide +kernel)
def pX7_turn (v1 : Int32) (v2 : Int32) (σ : St) (Q : St → Prop) : Prop := (vp_in v1 180 ∧ (vp_in v1 180 ∧ ∀ s1 : St, s1 = (st_up σ 11 (Int32.toNatClampNeg v1) ((σ 11 (Int32.toNatClampNeg v1)) ^^^ (1 <<< (v2 &&& 31)))) → (Q s1)))
set_option maxRecDepth 100000 in
set_option maxHeartbeats 4000000 in
theorem kX7_turn (l : Launch) (D : va_G) (ad : Nat → Nat) (T : TT) (hI : injA 40 ad) (v1 : Int32) (v2 : Int32) (σ : St) (Q : St → Prop) (h : pX7_turn v1 v2 σ Q) : Kv (KC l D ad T) (wC T ad) yX7_turn cX7_turn 3 none { frames := 0, cells := 0, slots := 0, locals := 0 } [.ref (ad 9), .int v1, .int v2] (wC T ad σ) Q := by
  refine st_MV (fr := 0) (lo := 0) (by decide) ⟨rfl, rfl⟩ rfl (Nat.le_of_ble_eq_true rfl) rfl (fun X C hD ret => ?_)
  replace hD : ∀ σ, DX X (wC T ad σ) := fun σ => hD _ (wC_D hI T σ)
  unfold pX7_turn at h
  refine at_aload_n C dX7_turn_0 0 rfl ?_
  refine gC_X7_15 C dX7_turn_1 ?_
  refine at_iload_n C dX7_turn_4 1 rfl ?_
  refine at_dup2 C dX7_turn_5 rfl rfl ?_
  obtain ⟨hi, h⟩ := h
  refine rC_11 C hi dX7_turn_6 ?_
  refine at_iconst (v := 1) C dX7_turn_7 (by decide) ?_
  refine at_iload_n C dX7_turn_8 2 rfl ?_
  refine at_ishl C dX7_turn_9 ?_
  refine at_ixor C dX7_turn_10 ?_
  obtain ⟨hi, h⟩ := h
  refine sC_11 C hD hi dX7_turn_11 (fun s1 es1 => ?_)
  replace h := h s1 es1
  exact ret _ _ _ dX7_turn_12 h
theorem m_X8_119 : Cond.methodLinkNest RX8 119 yX7_turn "HawkRidge" ∈ nW := nW_in 426 (by decide +kernel) (by decide +kernel)
theorem mc_X7_turn : Cond.code yX7_turn cX7_turn 3 none ∈ gW := gW_in 429 (by decide +kernel) (by decide +kernel)
theorem ok_X7_turn : okM yX7_turn cX7_turn 3 none 2 := ⟨mc_X7_turn, mz_RX7, by decide +kernel⟩
theorem mi_X7_turn : Cond.instanceMethod yX7_turn ∈ gW := gW_in 428 (by decide +kernel) (by decide +kernel)
theorem ml_X7_turn : Cond.selects RX7 yX7_turn yX7_turn ∈ gW := gW_in 12 (by decide +kernel) (by decide +kernel)
def qX8_off_64  (Q : Int32 → St → Prop) (v3 : Int32) (v5 : Int32) (σ : St) : Prop := (pX7_turn v5 v3 σ (fun s9 => (Q 1 s9)))
def pX8_off (v1 : Int32) (v2 : Int32) (v3 : Int32) (v4 : Int32) (σ : St) (Q : Int32 → St → Prop) : Prop := (pX8_isDay v1 v2 σ (fun r2 s1 => ((r2 = 0 → (Q 0 s1)) ∧ (¬ r2 = 0 → ((v3 < 0 → (Q 0 s1)) ∧ (¬ v3 < 0 → ((v3 < 10 → (pX8_dateOf v1 v2 s1 (fun r4 s3 => (pX7_isOff r4 v3 s3 (fun r6 s5 => ((¬ r6 = v4 → ((v4 = 0 → (qX8_off_64  Q v3 r4 s5)) ∧ (¬ v4 = 0 → (pX2_hasIn r4 v3 s5 (fun r8 s7 => ((r8 = 0 → (qX8_off_64  Q v3 r4 s7)) ∧ (¬ r8 = 0 → (Q 0 s7)))))))) ∧ (r6 = v4 → (Q 0 s5)))))))) ∧ (¬ v3 < 10 → (Q 0 s1)))))))))
set_option maxRecDepth 100000 in
set_option maxHeartbeats 4000000 in
theorem kX8_off (l : Launch) (D : va_G) (ad : Nat → Nat) (T : TT) (hI : injA 40 ad) (v1 : Int32) (v2 : Int32) (v3 : Int32) (v4 : Int32) (σ : St) (Q : Int32 → St → Prop) (h : pX8_off v1 v2 v3 v4 σ Q) : Ki (KC l D ad T) (wC T ad) yX8_off cX8_off 6 (some .boolean) { frames := 2, cells := 0, slots := 0, locals := 44 } [.ref (ad 0), .int v1, .int v2, .int v3, .int v4] (wC T ad σ) Q := by
  refine st_MZ (fr := 2) (lo := 44) (by decide) ⟨rfl, rfl⟩ rfl (Nat.le_of_ble_eq_true rfl) rfl (fun X C hD ret => ?_)
  replace hD : ∀ σ, DX X (wC T ad σ) := fun σ => hD _ (wC_D hI T σ)
  have t64 : ∀ (v3 : Int32) (v5 : Int32) (σ : St), qX8_off_64  Q v3 v5 σ → At X 6 (wC T ad σ) 64 [(0, .ref (ad 0)), (3, .int v3), (5, .int v5)] [] := by
    intro v3 v5 σ h
    unfold qX8_off_64 at h
    refine at_aload_n C dX8_off_64 0 rfl ?_
    refine gC_X8_26 C dX8_off_65 ?_
    refine at_iload C dX8_off_68 2 rfl ?_
    refine at_iload_n C dX8_off_70 1 rfl ?_
    refine at_callVNv C (kX7_turn l D ad T hI _ _ _ _ h) ok_X7_turn m_X8_119 mi_X7_turn ml_X7_turn (wC_g9 T ad _) rfl ⟨rfl, rfl, Nat.le_of_ble_eq_true rfl, Nat.le_of_ble_eq_true rfl⟩ rfl rfl (Nat.le_of_ble_eq_true rfl) dX8_off_71 (fun s9 h => ?_)
    refine at_iconst (v := 1) C dX8_off_74 (by decide) ?_
    exact ret _ _ _ _ dX8_off_75 rfl h
  unfold pX8_off at h
  refine at_iload_n C dX8_off_0 1 rfl ?_
  refine at_iload_n C dX8_off_1 2 rfl ?_
  refine at_callSi C (kX8_isDay l D ad T hI _ _ _ _ h) ok_X8_isDay m_X8_83 ms_X8_isDay ⟨rfl, rfl, Nat.le_of_ble_eq_true rfl, Nat.le_of_ble_eq_true rfl⟩ rfl rfl (Nat.le_of_ble_eq_true rfl) dX8_off_2 (fun r2 s1 h => ?_)
  refine at_if_eq (tgt := 18) C dX8_off_5 (by decide) (fun hc => ?_) (fun hc => ?_)
  · replace h := h.1 hc
    refine at_iconst (v := 0) C dX8_off_18 (by decide) ?_
    exact ret _ _ _ _ dX8_off_19 rfl h
  · replace h := h.2 hc
    refine at_iload_n C dX8_off_8 3 rfl ?_
    refine at_if_lt (tgt := 18) C dX8_off_9 (by decide) (fun hc => ?_) (fun hc => ?_)
    · replace h := h.1 hc
      refine at_iconst (v := 0) C dX8_off_18 (by decide) ?_
      exact ret _ _ _ _ dX8_off_19 rfl h
    · replace h := h.2 hc
      refine at_iload_n C dX8_off_12 3 rfl ?_
      refine at_bipush (v := 10) C dX8_off_13 (by decide) ?_
      refine at_icmp_lt (tgt := 20) C dX8_off_15 (by decide) (fun hc => ?_) (fun hc => ?_)
      · replace h := h.1 hc
        refine at_iload_n C dX8_off_20 1 rfl ?_
        refine at_iload_n C dX8_off_21 2 rfl ?_
        refine at_callSi C (kX8_dateOf l D ad T hI _ _ _ _ h) ok_X8_dateOf m_X8_92 ms_X8_dateOf ⟨rfl, rfl, Nat.le_of_ble_eq_true rfl, Nat.le_of_ble_eq_true rfl⟩ rfl rfl (Nat.le_of_ble_eq_true rfl) dX8_off_22 (fun r4 s3 h => ?_)
        refine at_istore (lv' := [(0, .ref (ad 0)), (1, .int v1), (2, .int v2), (3, .int v3), (4, .int v4), (5, .int r4)]) C dX8_off_25 (by decide) [1, 2, 3, 4, 5, 0] rfl ?_
        refine at_aload_n C dX8_off_27 0 rfl ?_
        refine gC_X8_26 C dX8_off_28 ?_
        refine at_iload C dX8_off_31 5 rfl ?_
        refine at_iload_n C dX8_off_33 3 rfl ?_
        refine at_callVNi C (kX7_isOff l D ad T hI _ _ _ _ h) ok_X7_isOff m_X8_96 mi_X7_isOff ml_X7_isOff (wC_g9 T ad _) rfl ⟨rfl, rfl, Nat.le_of_ble_eq_true rfl, Nat.le_of_ble_eq_true rfl⟩ rfl rfl (Nat.le_of_ble_eq_true rfl) dX8_off_34 (fun r6 s5 h => ?_)
        refine at_iload C dX8_off_37 4 rfl ?_
        refine at_icmp_ne (tgt := 44) C dX8_off_39 (by decide) (fun hc => ?_) (fun hc => ?_)
        · replace h := h.1 hc
          refine at_iload C dX8_off_44 4 rfl ?_
          refine at_if_eq (tgt := 64) C dX8_off_46 (by decide) (fun hc => ?_) (fun hc => ?_)
          · replace h := h.1 hc
            refine at_sub [0, 3, 5] rfl ?_
            exact t64  _ _ _ h
          · replace h := h.2 hc
            refine at_aload_n C dX8_off_49 0 rfl ?_
            refine gC_X8_33 C dX8_off_50 ?_
            refine at_iload C dX8_off_53 5 rfl ?_
            refine at_iload_n C dX8_off_55 3 rfl ?_
            refine at_callVNi C (kX2_hasIn l D ad T hI _ _ _ _ h) ok_X2_hasIn m_X8_116 mi_X2_hasIn ml_X2_hasIn (wC_g12 T ad _) rfl ⟨rfl, rfl, Nat.le_of_ble_eq_true rfl, Nat.le_of_ble_eq_true rfl⟩ rfl rfl (Nat.le_of_ble_eq_true rfl) dX8_off_56 (fun r8 s7 h => ?_)
            refine at_if_eq (tgt := 64) C dX8_off_59 (by decide) (fun hc => ?_) (fun hc => ?_)
            · replace h := h.1 hc
              refine at_sub [0, 3, 5] rfl ?_
              exact t64  _ _ _ h
            · replace h := h.2 hc
              refine at_iconst (v := 0) C dX8_off_62 (by decide) ?_
              exact ret _ _ _ _ dX8_off_63 rfl h
        · replace h := h.2 hc
          refine at_iconst (v := 0) C dX8_off_42 (by decide) ?_
          exact ret _ _ _ _ dX8_off_43 rfl h
      · replace h := h.2 hc
        refine at_iconst (v := 0) C dX8_off_18 (by decide) ?_
        exact ret _ _ _ _ dX8_off_19 rfl h
theorem m_X8_123 : Cond.fieldLinkNest RX8 123 RX7 "windOf" "[I" "HawkRidge" ∈ nW := nW_in 155 (by decide +kernel) (by decide +kernel)
theorem gC_X8_123 {X : XT} {l : Launch} {D : va_G} {ad : Nat → Nat} {T : TT} {cc : ByteArray} {nL fr lo : Nat} {σ : St} {pc : Nat} {lv : List (Nat × Value)} {st : List Value} (C : Cx X (KC l D ad T) cc RX8 nL fr lo) (d : decode cc pc = .ok (.getfield 123, 3)) (kk : At X nL (wC T ad σ) (pc + 3) lv (.ref (ad 10) :: st)) : At X nL (wC T ad σ) pc lv (.ref (ad 9) :: st) := at_getN C ingX7 (ci := 7) rfl 9 (wC_g9 T ad σ) 0 (by decide) m_X8_123 rfl rfl d kk
def pX8_wind (v1 : Int32) (v2 : Int32) (v3 : Int32) (σ : St) (Q : Int32 → St → Prop) : Prop := (pX8_isDay v1 v2 σ (fun r2 s1 => ((r2 = 0 → (Q 0 s1)) ∧ (¬ r2 = 0 → ((v3 < 0 → (Q 0 s1)) ∧ (¬ v3 < 0 → ((v3 < 4 → (pX8_dateOf v1 v2 s1 (fun r4 s3 => (vp_in r4 180 ∧ ∀ s5 : St, s5 = (st_up s3 10 (Int32.toNatClampNeg r4) v3) → (Q 1 s5))))) ∧ (¬ v3 < 4 → (Q 0 s1)))))))))
set_option maxRecDepth 100000 in
set_option maxHeartbeats 4000000 in
theorem kX8_wind (l : Launch) (D : va_G) (ad : Nat → Nat) (T : TT) (hI : injA 40 ad) (v1 : Int32) (v2 : Int32) (v3 : Int32) (σ : St) (Q : Int32 → St → Prop) (h : pX8_wind v1 v2 v3 σ Q) : Ki (KC l D ad T) (wC T ad) yX8_wind cX8_wind 4 (some .boolean) { frames := 2, cells := 0, slots := 0, locals := 41 } [.ref (ad 0), .int v1, .int v2, .int v3] (wC T ad σ) Q := by
  refine st_MZ (fr := 2) (lo := 41) (by decide) ⟨rfl, rfl⟩ rfl (Nat.le_of_ble_eq_true rfl) rfl (fun X C hD ret => ?_)
  replace hD : ∀ σ, DX X (wC T ad σ) := fun σ => hD _ (wC_D hI T σ)
  unfold pX8_wind at h
  refine at_iload_n C dX8_wind_0 1 rfl ?_
  refine at_iload_n C dX8_wind_1 2 rfl ?_
  refine at_callSi C (kX8_isDay l D ad T hI _ _ _ _ h) ok_X8_isDay m_X8_83 ms_X8_isDay ⟨rfl, rfl, Nat.le_of_ble_eq_true rfl, Nat.le_of_ble_eq_true rfl⟩ rfl rfl (Nat.le_of_ble_eq_true rfl) dX8_wind_2 (fun r2 s1 h => ?_)
  refine at_if_eq (tgt := 17) C dX8_wind_5 (by decide) (fun hc => ?_) (fun hc => ?_)
  · replace h := h.1 hc
    refine at_iconst (v := 0) C dX8_wind_17 (by decide) ?_
    exact ret _ _ _ _ dX8_wind_18 rfl h
  · replace h := h.2 hc
    refine at_iload_n C dX8_wind_8 3 rfl ?_
    refine at_if_lt (tgt := 17) C dX8_wind_9 (by decide) (fun hc => ?_) (fun hc => ?_)
    · replace h := h.1 hc
      refine at_iconst (v := 0) C dX8_wind_17 (by decide) ?_
      exact ret _ _ _ _ dX8_wind_18 rfl h
    · replace h := h.2 hc
      refine at_iload_n C dX8_wind_12 3 rfl ?_
      refine at_iconst (v := 4) C dX8_wind_13 (by decide) ?_
      refine at_icmp_lt (tgt := 19) C dX8_wind_14 (by decide) (fun hc => ?_) (fun hc => ?_)
      · replace h := h.1 hc
        refine at_aload_n C dX8_wind_19 0 rfl ?_
        refine gC_X8_26 C dX8_wind_20 ?_
        refine gC_X8_123 C dX8_wind_23 ?_
        refine at_iload_n C dX8_wind_26 1 rfl ?_
        refine at_iload_n C dX8_wind_27 2 rfl ?_
        refine at_callSi C (kX8_dateOf l D ad T hI _ _ _ _ h) ok_X8_dateOf m_X8_92 ms_X8_dateOf ⟨rfl, rfl, Nat.le_of_ble_eq_true rfl, Nat.le_of_ble_eq_true rfl⟩ rfl rfl (Nat.le_of_ble_eq_true rfl) dX8_wind_28 (fun r4 s3 h => ?_)
        refine at_iload_n C dX8_wind_31 3 rfl ?_
        obtain ⟨hi, h⟩ := h
        refine sC_10 C hD hi dX8_wind_32 (fun s5 es5 => ?_)
        replace h := h s5 es5
        refine at_iconst (v := 1) C dX8_wind_33 (by decide) ?_
        exact ret _ _ _ _ dX8_wind_34 rfl h
      · replace h := h.2 hc
        refine at_iconst (v := 0) C dX8_wind_17 (by decide) ?_
        exact ret _ _ _ _ dX8_wind_18 rfl h
theorem pC_X8_70 {X : XT} {l : Launch} {D : va_G} {ad : Nat → Nat} {T : TT} {cc : ByteArray} {nL fr lo : Nat} {σ : St} {pc : Nat} {lv : List (Nat × Value)} {st : List Value} {x : Int32} (C : Cx X (KC l D ad T) cc RX8 nL fr lo) (hD : ∀ σ, DX X (wC T ad σ)) (d : decode cc pc = .ok (.putfield 70, 3)) (kk : ∀ u2 : St, u2 = (st_up σ 0 9 x) → At X nL (wC T ad u2) (pc + 3) lv st) : At X nL (wC T ad σ) pc lv (.int x :: .ref (ad 0) :: st) := at_puti C ingX8 tyX8 tyX8_ok nmX8 (ci := 8) rfl (hD σ) 0 (wC_g0 T ad σ) 9 (by decide) m_X8_70 rfl rfl (by decide +kernel) (Nat.le_of_ble_eq_true rfl) rfl d (kk _ rfl)
def qX0_forgetAll_2 (R2 : Int32 → St → Prop) (Q : St → Prop) (v1 : Int32) (σ : St) : Prop := ((180 ≤ v1 → (Q σ)) ∧ (¬ 180 ≤ v1 → (vp_in v1 180 ∧ ∀ s1 : St, s1 = (st_up σ 19 (Int32.toNatClampNeg v1) (vp_nar .boolean 0)) → ∀ x2 : Int32, x2 = v1 + 1 → R2 x2 s1)))
def qX0_forgetAll_l2  (Q : St → Prop) : Nat → Int32 → St → Prop
  | 0 => fun _ _ => False
  | n + 1 => qX0_forgetAll_2 (qX0_forgetAll_l2  Q n) Q
def pX0_forgetAll  (σ : St) (Q : St → Prop) : Prop := (∃ n, qX0_forgetAll_l2  Q n 0 σ)
set_option maxRecDepth 100000 in
set_option maxHeartbeats 4000000 in
theorem kX0_forgetAll (l : Launch) (D : va_G) (ad : Nat → Nat) (T : TT) (hI : injA 40 ad)  (σ : St) (Q : St → Prop) (h : pX0_forgetAll  σ Q) : Kv (KC l D ad T) (wC T ad) yX0_forgetAll cX0_forgetAll 2 none { frames := 0, cells := 0, slots := 0, locals := 0 } [.ref (ad 18)] (wC T ad σ) Q := by
  refine st_MV (fr := 0) (lo := 0) (by decide) ⟨rfl, rfl⟩ rfl (Nat.le_of_ble_eq_true rfl) rfl (fun X C hD ret => ?_)
  replace hD : ∀ σ, DX X (wC T ad σ) := fun σ => hD _ (wC_D hI T σ)
  have tb2 : ∀ (R2 : Int32 → St → Prop) (hR2 : ∀ (v1 : Int32) (σ : St), R2 v1 σ → At X 2 (wC T ad σ) 2 [(0, .ref (ad 18)), (1, .int v1)] []) (v1 : Int32) (σ : St), qX0_forgetAll_2 R2 Q v1 σ → At X 2 (wC T ad σ) 2 [(0, .ref (ad 18)), (1, .int v1)] [] := by
    intro R2 hR2 v1 σ h
    unfold qX0_forgetAll_2 at h
    refine at_iload_n C dX0_forgetAll_2 1 rfl ?_
    refine at_sipush (v := 180) C dX0_forgetAll_3 (by decide) ?_
    refine at_icmp_ge (tgt := 22) C dX0_forgetAll_6 (by decide) (fun hc => ?_) (fun hc => ?_)
    · replace h := h.1 hc
      exact ret _ _ _ dX0_forgetAll_22 h
    · replace h := h.2 hc
      refine at_aload_n C dX0_forgetAll_9 0 rfl ?_
      refine gC_X0_18 C dX0_forgetAll_10 ?_
      refine at_iload_n C dX0_forgetAll_13 1 rfl ?_
      refine at_iconst (v := 0) C dX0_forgetAll_14 (by decide) ?_
      obtain ⟨hi, h⟩ := h
      refine sC_19 C hD hi dX0_forgetAll_15 (fun s1 es1 => ?_)
      replace h := h s1 es1
      obtain ⟨x2, ex2⟩ : ∃ y : Int32, y = v1 + 1 := ⟨_, rfl⟩
      replace h := h x2 ex2
      refine at_iinc (v := x2) (lv' := [(0, .ref (ad 18)), (1, .int x2)]) C dX0_forgetAll_16 1 rfl (by rw [ex2]; rfl) (by decide) [1, 0] rfl ?_
      refine at_goto (tgt := 2) C dX0_forgetAll_19 (by decide) ?_
      exact hR2 _ _ h
  have t2 : ∀ (n : Nat) (v1 : Int32) (σ : St), qX0_forgetAll_l2  Q n v1 σ → At X 2 (wC T ad σ) 2 [(0, .ref (ad 18)), (1, .int v1)] [] := by
    intro  n
    induction n with
    | zero => intro v1 σ h; exact False.elim h
    | succ n ih => intro v1 σ h; exact tb2 (qX0_forgetAll_l2  Q n) ih v1 σ h
  unfold pX0_forgetAll at h
  refine at_iconst (v := 0) C dX0_forgetAll_0 (by decide) ?_
  refine at_istore_n (lv' := [(0, .ref (ad 18)), (1, .int 0)]) C dX0_forgetAll_1 (by decide) [1, 0] rfl ?_
  obtain ⟨n, h⟩ := h
  exact t2  n _ _ h
theorem m_X8_126 : Cond.methodLinkNest RX8 126 yX0_forgetAll "HawkRidge" ∈ nW := nW_in 438 (by decide +kernel) (by decide +kernel)
theorem mc_X0_forgetAll : Cond.code yX0_forgetAll cX0_forgetAll 2 none ∈ gW := gW_in 441 (by decide +kernel) (by decide +kernel)
theorem ok_X0_forgetAll : okM yX0_forgetAll cX0_forgetAll 2 none 0 := ⟨mc_X0_forgetAll, mz_RX0, by decide +kernel⟩
theorem mi_X0_forgetAll : Cond.instanceMethod yX0_forgetAll ∈ gW := gW_in 440 (by decide +kernel) (by decide +kernel)
theorem ml_X0_forgetAll : Cond.selects RX0 yX0_forgetAll yX0_forgetAll ∈ gW := gW_in 13 (by decide +kernel) (by decide +kernel)
def qX8_known_19  (Q : Int32 → St → Prop) (v1 : Int32) (σ : St) : Prop := ∀ s1 : St, s1 = (st_up σ 0 9 v1) → (pX8_knownDay s1 (fun r3 s2 => (pX2_showUpTo r3 s2 (fun s4 => (pX0_forgetAll s4 (fun s6 => (Q 1 s6)))))))
def pX8_known (v1 : Int32) (σ : St) (Q : Int32 → St → Prop) : Prop := ((v1 = (-1) → (qX8_known_19  Q v1 σ)) ∧ (¬ v1 = (-1) → ((v1 < 0 → (Q 0 σ)) ∧ (¬ v1 < 0 → ((v1 ≤ (σ 0 8) → (qX8_known_19  Q v1 σ)) ∧ (¬ v1 ≤ (σ 0 8) → (Q 0 σ)))))))
set_option maxRecDepth 100000 in
set_option maxHeartbeats 4000000 in
theorem kX8_known (l : Launch) (D : va_G) (ad : Nat → Nat) (T : TT) (hI : injA 40 ad) (v1 : Int32) (σ : St) (Q : Int32 → St → Prop) (h : pX8_known v1 σ Q) : Ki (KC l D ad T) (wC T ad) yX8_known cX8_known 2 (some .boolean) { frames := 1, cells := 0, slots := 0, locals := 22 } [.ref (ad 0), .int v1] (wC T ad σ) Q := by
  refine st_MZ (fr := 1) (lo := 22) (by decide) ⟨rfl, rfl⟩ rfl (Nat.le_of_ble_eq_true rfl) rfl (fun X C hD ret => ?_)
  replace hD : ∀ σ, DX X (wC T ad σ) := fun σ => hD _ (wC_D hI T σ)
  have t19 : ∀ (v1 : Int32) (σ : St), qX8_known_19  Q v1 σ → At X 2 (wC T ad σ) 19 [(0, .ref (ad 0)), (1, .int v1)] [] := by
    intro v1 σ h
    unfold qX8_known_19 at h
    refine at_aload_n C dX8_known_19 0 rfl ?_
    refine at_iload_n C dX8_known_20 1 rfl ?_
    refine pC_X8_70 C hD dX8_known_21 (fun s1 es1 => ?_)
    replace h := h s1 es1
    refine at_aload_n C dX8_known_24 0 rfl ?_
    refine gC_X8_33 C dX8_known_25 ?_
    refine at_aload_n C dX8_known_28 0 rfl ?_
    refine at_callVi C (kX8_knownDay l D ad T hI  _ _ h) ok_X8_knownDay m_X8_105 mi_X8_knownDay ml_X8_knownDay (wC_g0 T ad _) rfl ⟨rfl, rfl, Nat.le_of_ble_eq_true rfl, Nat.le_of_ble_eq_true rfl⟩ rfl rfl (Nat.le_of_ble_eq_true rfl) dX8_known_29 (fun r3 s2 h => ?_)
    refine at_callVNv C (kX2_showUpTo l D ad T hI _ _ _ h) ok_X2_showUpTo m_X8_109 mi_X2_showUpTo ml_X2_showUpTo (wC_g12 T ad _) rfl ⟨rfl, rfl, Nat.le_of_ble_eq_true rfl, Nat.le_of_ble_eq_true rfl⟩ rfl rfl (Nat.le_of_ble_eq_true rfl) dX8_known_32 (fun s4 h => ?_)
    refine at_aload_n C dX8_known_35 0 rfl ?_
    refine gC_X8_42 C dX8_known_36 ?_
    refine at_callVNv C (kX0_forgetAll l D ad T hI  _ _ h) ok_X0_forgetAll m_X8_126 mi_X0_forgetAll ml_X0_forgetAll (wC_g18 T ad _) rfl ⟨rfl, rfl, Nat.le_of_ble_eq_true rfl, Nat.le_of_ble_eq_true rfl⟩ rfl rfl (Nat.le_of_ble_eq_true rfl) dX8_known_39 (fun s6 h => ?_)
    refine at_iconst (v := 1) C dX8_known_42 (by decide) ?_
    exact ret _ _ _ _ dX8_known_43 rfl h
  unfold pX8_known at h
  refine at_iload_n C dX8_known_0 1 rfl ?_
  refine at_iconst (v := (-1)) C dX8_known_1 (by decide) ?_
  refine at_icmp_eq (tgt := 19) C dX8_known_2 (by decide) (fun hc => ?_) (fun hc => ?_)
  · replace h := h.1 hc
    exact t19  _ _ h
  · replace h := h.2 hc
    refine at_iload_n C dX8_known_5 1 rfl ?_
    refine at_if_lt (tgt := 17) C dX8_known_6 (by decide) (fun hc => ?_) (fun hc => ?_)
    · replace h := h.1 hc
      refine at_iconst (v := 0) C dX8_known_17 (by decide) ?_
      exact ret _ _ _ _ dX8_known_18 rfl h
    · replace h := h.2 hc
      refine at_iload_n C dX8_known_9 1 rfl ?_
      refine at_aload_n C dX8_known_10 0 rfl ?_
      refine gC_X8_66 C dX8_known_11 ?_
      refine at_icmp_le (tgt := 19) C dX8_known_14 (by decide) (fun hc => ?_) (fun hc => ?_)
      · replace h := h.1 hc
        exact t19  _ _ h
      · replace h := h.2 hc
        refine at_iconst (v := 0) C dX8_known_17 (by decide) ?_
        exact ret _ _ _ _ dX8_known_18 rfl h
def pX2_shows (v1 : Int32) (σ : St) (Q : Int32 → St → Prop) : Prop := ((v1 < 0 → (Q 0 σ)) ∧ (¬ v1 < 0 → (((σ 12 6) ≤ v1 → (Q 0 σ)) ∧ (¬ (σ 12 6) ≤ v1 → (Q 1 σ)))))
set_option maxRecDepth 100000 in
set_option maxHeartbeats 4000000 in
theorem kX2_shows (l : Launch) (D : va_G) (ad : Nat → Nat) (T : TT) (hI : injA 40 ad) (v1 : Int32) (σ : St) (Q : Int32 → St → Prop) (h : pX2_shows v1 σ Q) : Ki (KC l D ad T) (wC T ad) yX2_shows cX2_shows 2 (some .boolean) { frames := 0, cells := 0, slots := 0, locals := 0 } [.ref (ad 12), .int v1] (wC T ad σ) Q := by
  refine st_MZ (fr := 0) (lo := 0) (by decide) ⟨rfl, rfl⟩ rfl (Nat.le_of_ble_eq_true rfl) rfl (fun X C hD ret => ?_)
  replace hD : ∀ σ, DX X (wC T ad σ) := fun σ => hD _ (wC_D hI T σ)
  unfold pX2_shows at h
  refine at_iload_n C dX2_shows_0 1 rfl ?_
  refine at_if_lt (tgt := 16) C dX2_shows_1 (by decide) (fun hc => ?_) (fun hc => ?_)
  · replace h := h.1 hc
    refine at_iconst (v := 0) C dX2_shows_16 (by decide) ?_
    exact ret _ _ _ _ dX2_shows_17 rfl h
  · replace h := h.2 hc
    refine at_iload_n C dX2_shows_4 1 rfl ?_
    refine at_aload_n C dX2_shows_5 0 rfl ?_
    refine gC_X2_31 C dX2_shows_6 ?_
    refine at_icmp_ge (tgt := 16) C dX2_shows_9 (by decide) (fun hc => ?_) (fun hc => ?_)
    · replace h := h.1 hc
      refine at_iconst (v := 0) C dX2_shows_16 (by decide) ?_
      exact ret _ _ _ _ dX2_shows_17 rfl h
    · replace h := h.2 hc
      refine at_iconst (v := 1) C dX2_shows_12 (by decide) ?_
      refine at_goto (tgt := 17) C dX2_shows_13 (by decide) ?_
      exact ret _ _ _ _ dX2_shows_17 rfl h
theorem m_X8_129 : Cond.methodLinkNest RX8 129 yX2_shows "HawkRidge" ∈ nW := nW_in 446 (by decide +kernel) (by decide +kernel)
theorem mc_X2_shows : Cond.code yX2_shows cX2_shows 2 (some .boolean) ∈ gW := gW_in 449 (by decide +kernel) (by decide +kernel)
theorem ok_X2_shows : okM yX2_shows cX2_shows 2 (some .boolean) 1 := ⟨mc_X2_shows, mz_RX2, by decide +kernel⟩
theorem mi_X2_shows : Cond.instanceMethod yX2_shows ∈ gW := gW_in 448 (by decide +kernel) (by decide +kernel)
theorem ml_X2_shows : Cond.selects RX2 yX2_shows yX2_shows ∈ gW := gW_in 14 (by decide +kernel) (by decide +kernel)
theorem m_X8_132 : Cond.fieldLinkNest RX8 132 RX2 "dateOf" "[I" "HawkRidge" ∈ nW := nW_in 171 (by decide +kernel) (by decide +kernel)
theorem gC_X8_132 {X : XT} {l : Launch} {D : va_G} {ad : Nat → Nat} {T : TT} {cc : ByteArray} {nL fr lo : Nat} {σ : St} {pc : Nat} {lv : List (Nat × Value)} {st : List Value} (C : Cx X (KC l D ad T) cc RX8 nL fr lo) (d : decode cc pc = .ok (.getfield 132, 3)) (kk : At X nL (wC T ad σ) (pc + 3) lv (.ref (ad 13) :: st)) : At X nL (wC T ad σ) pc lv (.ref (ad 12) :: st) := at_getN C ingX2 (ci := 2) rfl 12 (wC_g12 T ad σ) 0 (by decide) m_X8_132 rfl rfl d kk
theorem m_X8_134 : Cond.methodLinkNest RX8 134 yX0_pairDate "HawkRidge" ∈ nW := nW_in 450 (by decide +kernel) (by decide +kernel)
theorem m_X8_137 : Cond.fieldLinkNest RX8 137 RX0 "above" "[I" "HawkRidge" ∈ nW := nW_in 248 (by decide +kernel) (by decide +kernel)
theorem gC_X8_137 {X : XT} {l : Launch} {D : va_G} {ad : Nat → Nat} {T : TT} {cc : ByteArray} {nL fr lo : Nat} {σ : St} {pc : Nat} {lv : List (Nat × Value)} {st : List Value} (C : Cx X (KC l D ad T) cc RX8 nL fr lo) (d : decode cc pc = .ok (.getfield 137, 3)) (kk : At X nL (wC T ad σ) (pc + 3) lv (.ref (ad 20) :: st)) : At X nL (wC T ad σ) pc lv (.ref (ad 18) :: st) := at_getN C ingX0 (ci := 0) rfl 18 (wC_g18 T ad σ) 5 (by decide) m_X8_137 rfl rfl d kk
def pX8_partner (v1 : Int32) (σ : St) (Q : Int32 → St → Prop) : Prop := (pX2_shows v1 σ (fun r2 s1 => ((¬ r2 = 0 → (vp_in v1 300 ∧ (pX0_pairDate (s1 13 (Int32.toNatClampNeg v1)) s1 (fun s3 => (vp_in v1 300 ∧ (Q (s3 20 (Int32.toNatClampNeg v1)) s3)))))) ∧ (r2 = 0 → (Q (-2) s1)))))
set_option maxRecDepth 100000 in
set_option maxHeartbeats 4000000 in
theorem kX8_partner (l : Launch) (D : va_G) (ad : Nat → Nat) (T : TT) (hI : injA 40 ad) (v1 : Int32) (σ : St) (Q : Int32 → St → Prop) (h : pX8_partner v1 σ Q) : Ki (KC l D ad T) (wC T ad) yX8_partner cX8_partner 2 (some .int) { frames := 19, cells := 0, slots := 0, locals := 458 } [.ref (ad 0), .int v1] (wC T ad σ) Q := by
  refine st_MI (fr := 19) (lo := 458) (by decide) ⟨rfl, rfl⟩ rfl (Nat.le_of_ble_eq_true rfl) rfl (fun X C hD ret => ?_)
  replace hD : ∀ σ, DX X (wC T ad σ) := fun σ => hD _ (wC_D hI T σ)
  unfold pX8_partner at h
  refine at_aload_n C dX8_partner_0 0 rfl ?_
  refine gC_X8_33 C dX8_partner_1 ?_
  refine at_iload_n C dX8_partner_4 1 rfl ?_
  refine at_callVNi C (kX2_shows l D ad T hI _ _ _ h) ok_X2_shows m_X8_129 mi_X2_shows ml_X2_shows (wC_g12 T ad _) rfl ⟨rfl, rfl, Nat.le_of_ble_eq_true rfl, Nat.le_of_ble_eq_true rfl⟩ rfl rfl (Nat.le_of_ble_eq_true rfl) dX8_partner_5 (fun r2 s1 h => ?_)
  refine at_if_ne (tgt := 14) C dX8_partner_8 (by decide) (fun hc => ?_) (fun hc => ?_)
  · replace h := h.1 hc
    refine at_aload_n C dX8_partner_14 0 rfl ?_
    refine gC_X8_42 C dX8_partner_15 ?_
    refine at_aload_n C dX8_partner_18 0 rfl ?_
    refine gC_X8_33 C dX8_partner_19 ?_
    refine gC_X8_132 C dX8_partner_22 ?_
    refine at_iload_n C dX8_partner_25 1 rfl ?_
    obtain ⟨hi, h⟩ := h
    refine rC_13 C hi dX8_partner_26 ?_
    refine at_callVNv C (kX0_pairDate l D ad T hI _ _ _ h) ok_X0_pairDate m_X8_134 mi_X0_pairDate ml_X0_pairDate (wC_g18 T ad _) rfl ⟨rfl, rfl, Nat.le_of_ble_eq_true rfl, Nat.le_of_ble_eq_true rfl⟩ rfl rfl (Nat.le_of_ble_eq_true rfl) dX8_partner_27 (fun s3 h => ?_)
    refine at_aload_n C dX8_partner_30 0 rfl ?_
    refine gC_X8_42 C dX8_partner_31 ?_
    refine gC_X8_137 C dX8_partner_34 ?_
    refine at_iload_n C dX8_partner_37 1 rfl ?_
    obtain ⟨hi, h⟩ := h
    refine rC_20 C hi dX8_partner_38 ?_
    exact ret _ _ _ _ dX8_partner_39 h
  · replace h := h.2 hc
    refine at_bipush (v := (-2)) C dX8_partner_11 (by decide) ?_
    exact ret _ _ _ _ dX8_partner_13 h
theorem m_X8_140 : Cond.fieldLinkNest RX8 140 RX0 "first" "[I" "HawkRidge" ∈ nW := nW_in 251 (by decide +kernel) (by decide +kernel)
theorem gC_X8_140 {X : XT} {l : Launch} {D : va_G} {ad : Nat → Nat} {T : TT} {cc : ByteArray} {nL fr lo : Nat} {σ : St} {pc : Nat} {lv : List (Nat × Value)} {st : List Value} (C : Cx X (KC l D ad T) cc RX8 nL fr lo) (d : decode cc pc = .ok (.getfield 140, 3)) (kk : At X nL (wC T ad σ) (pc + 3) lv (.ref (ad 22) :: st)) : At X nL (wC T ad σ) pc lv (.ref (ad 18) :: st) := at_getN C ingX0 (ci := 0) rfl 18 (wC_g18 T ad σ) 7 (by decide) m_X8_140 rfl rfl d kk
def pX8_bird (v1 : Int32) (σ : St) (Q : Int32 → St → Prop) : Prop := (pX2_shows v1 σ (fun r2 s1 => ((¬ r2 = 0 → (vp_in v1 300 ∧ (pX0_pairDate (s1 13 (Int32.toNatClampNeg v1)) s1 (fun s3 => (vp_in v1 300 ∧ (Q (s3 22 (Int32.toNatClampNeg v1)) s3)))))) ∧ (r2 = 0 → (Q (-2) s1)))))
set_option maxRecDepth 100000 in
set_option maxHeartbeats 4000000 in
theorem kX8_bird (l : Launch) (D : va_G) (ad : Nat → Nat) (T : TT) (hI : injA 40 ad) (v1 : Int32) (σ : St) (Q : Int32 → St → Prop) (h : pX8_bird v1 σ Q) : Ki (KC l D ad T) (wC T ad) yX8_bird cX8_bird 2 (some .int) { frames := 19, cells := 0, slots := 0, locals := 458 } [.ref (ad 0), .int v1] (wC T ad σ) Q := by
  refine st_MI (fr := 19) (lo := 458) (by decide) ⟨rfl, rfl⟩ rfl (Nat.le_of_ble_eq_true rfl) rfl (fun X C hD ret => ?_)
  replace hD : ∀ σ, DX X (wC T ad σ) := fun σ => hD _ (wC_D hI T σ)
  unfold pX8_bird at h
  refine at_aload_n C dX8_bird_0 0 rfl ?_
  refine gC_X8_33 C dX8_bird_1 ?_
  refine at_iload_n C dX8_bird_4 1 rfl ?_
  refine at_callVNi C (kX2_shows l D ad T hI _ _ _ h) ok_X2_shows m_X8_129 mi_X2_shows ml_X2_shows (wC_g12 T ad _) rfl ⟨rfl, rfl, Nat.le_of_ble_eq_true rfl, Nat.le_of_ble_eq_true rfl⟩ rfl rfl (Nat.le_of_ble_eq_true rfl) dX8_bird_5 (fun r2 s1 h => ?_)
  refine at_if_ne (tgt := 14) C dX8_bird_8 (by decide) (fun hc => ?_) (fun hc => ?_)
  · replace h := h.1 hc
    refine at_aload_n C dX8_bird_14 0 rfl ?_
    refine gC_X8_42 C dX8_bird_15 ?_
    refine at_aload_n C dX8_bird_18 0 rfl ?_
    refine gC_X8_33 C dX8_bird_19 ?_
    refine gC_X8_132 C dX8_bird_22 ?_
    refine at_iload_n C dX8_bird_25 1 rfl ?_
    obtain ⟨hi, h⟩ := h
    refine rC_13 C hi dX8_bird_26 ?_
    refine at_callVNv C (kX0_pairDate l D ad T hI _ _ _ h) ok_X0_pairDate m_X8_134 mi_X0_pairDate ml_X0_pairDate (wC_g18 T ad _) rfl ⟨rfl, rfl, Nat.le_of_ble_eq_true rfl, Nat.le_of_ble_eq_true rfl⟩ rfl rfl (Nat.le_of_ble_eq_true rfl) dX8_bird_27 (fun s3 h => ?_)
    refine at_aload_n C dX8_bird_30 0 rfl ?_
    refine gC_X8_42 C dX8_bird_31 ?_
    refine gC_X8_140 C dX8_bird_34 ?_
    refine at_iload_n C dX8_bird_37 1 rfl ?_
    obtain ⟨hi, h⟩ := h
    refine rC_22 C hi dX8_bird_38 ?_
    exact ret _ _ _ _ dX8_bird_39 h
  · replace h := h.2 hc
    refine at_bipush (v := (-2)) C dX8_bird_11 (by decide) ?_
    exact ret _ _ _ _ dX8_bird_13 h
theorem m_X8_209 : Cond.fieldLinkNest RX8 209 RX6 "size" "I" "HawkRidge" ∈ nW := nW_in 115 (by decide +kernel) (by decide +kernel)
theorem gC_X8_209 {X : XT} {l : Launch} {D : va_G} {ad : Nat → Nat} {T : TT} {cc : ByteArray} {nL fr lo : Nat} {σ : St} {pc : Nat} {lv : List (Nat × Value)} {st : List Value} (C : Cx X (KC l D ad T) cc RX8 nL fr lo) (d : decode cc pc = .ok (.getfield 209, 3)) (kk : At X nL (wC T ad σ) (pc + 3) lv (.int (σ 2 1) :: st)) : At X nL (wC T ad σ) pc lv (.ref (ad 2) :: st) := at_getN C ingX6 (ci := 6) rfl 2 (wC_g2 T ad σ) 1 (by decide) m_X8_209 rfl rfl d kk
theorem m_X8_210 : Cond.fieldLinkNest RX8 210 RX1 "size" "I" "HawkRidge" ∈ nW := nW_in 135 (by decide +kernel) (by decide +kernel)
theorem gC_X8_210 {X : XT} {l : Launch} {D : va_G} {ad : Nat → Nat} {T : TT} {cc : ByteArray} {nL fr lo : Nat} {σ : St} {pc : Nat} {lv : List (Nat × Value)} {st : List Value} (C : Cx X (KC l D ad T) cc RX8 nL fr lo) (d : decode cc pc = .ok (.getfield 210, 3)) (kk : At X nL (wC T ad σ) (pc + 3) lv (.int (σ 4 4) :: st)) : At X nL (wC T ad σ) pc lv (.ref (ad 4) :: st) := at_getN C ingX1 (ci := 1) rfl 4 (wC_g4 T ad σ) 4 (by decide) m_X8_210 rfl rfl d kk
theorem m_X8_211 : Cond.methodLinkNest RX8 211 yX1_leaves "HawkRidge" ∈ nW := nW_in 620 (by decide +kernel) (by decide +kernel)
theorem mc_X1_leaves : Cond.code yX1_leaves cX1_leaves 3 (some .int) ∈ gW := gW_in 623 (by decide +kernel) (by decide +kernel)
theorem ok_X1_leaves : okM yX1_leaves cX1_leaves 3 (some .int) 0 := ⟨mc_X1_leaves, mz_RX1, by decide +kernel⟩
theorem mi_X1_leaves : Cond.instanceMethod yX1_leaves ∈ gW := gW_in 622 (by decide +kernel) (by decide +kernel)
theorem ml_X1_leaves : Cond.selects RX1 yX1_leaves yX1_leaves ∈ gW := gW_in 47 (by decide +kernel) (by decide +kernel)
def pX8_count (v1 : Int32) (σ : St) (Q : Int32 → St → Prop) : Prop := ((v1 = 0 → (Q (σ 2 1) σ)) ∧ (¬ v1 = 0 → ((v1 = 1 → (Q (σ 4 4) σ)) ∧ (¬ v1 = 1 → ((v1 = 2 → (Q (σ 0 8) σ)) ∧ (¬ v1 = 2 → ((v1 = 3 → (Q (σ 12 5) σ)) ∧ (¬ v1 = 3 → ((v1 = 4 → (pX1_leaves σ (fun r2 s1 => (Q r2 s1)))) ∧ (¬ v1 = 4 → ((v1 = 5 → (Q (σ 0 9) σ)) ∧ (¬ v1 = 5 → (Q (-1) σ)))))))))))))
set_option maxRecDepth 100000 in
set_option maxHeartbeats 4000000 in
theorem kX8_count (l : Launch) (D : va_G) (ad : Nat → Nat) (T : TT) (hI : injA 40 ad) (v1 : Int32) (σ : St) (Q : Int32 → St → Prop) (h : pX8_count v1 σ Q) : Ki (KC l D ad T) (wC T ad) yX8_count cX8_count 2 (some .int) { frames := 1, cells := 0, slots := 0, locals := 22 } [.ref (ad 0), .int v1] (wC T ad σ) Q := by
  refine st_MI (fr := 1) (lo := 22) (by decide) ⟨rfl, rfl⟩ rfl (Nat.le_of_ble_eq_true rfl) rfl (fun X C hD ret => ?_)
  replace hD : ∀ σ, DX X (wC T ad σ) := fun σ => hD _ (wC_D hI T σ)
  unfold pX8_count at h
  refine at_iload_n C dX8_count_0 1 rfl ?_
  by_cases hc0 : v1 = 0
  · replace h := h.1 hc0
    refine at_tabIn (off := 39) (tgt := 40) C dX8_count_1 (by rw [hc0]; decide) (by rw [hc0]; decide) (by rw [hc0]; rfl) (by decide) ?_
    refine at_aload_n C dX8_count_40 0 rfl ?_
    refine gC_X8_10 C dX8_count_41 ?_
    refine gC_X8_209 C dX8_count_44 ?_
    exact ret _ _ _ _ dX8_count_47 h
  · replace h := h.2 hc0
    by_cases hc1 : v1 = 1
    · replace h := h.1 hc1
      refine at_tabIn (off := 47) (tgt := 48) C dX8_count_1 (by rw [hc1]; decide) (by rw [hc1]; decide) (by rw [hc1]; rfl) (by decide) ?_
      refine at_aload_n C dX8_count_48 0 rfl ?_
      refine gC_X8_19 C dX8_count_49 ?_
      refine gC_X8_210 C dX8_count_52 ?_
      exact ret _ _ _ _ dX8_count_55 h
    · replace h := h.2 hc1
      by_cases hc2 : v1 = 2
      · replace h := h.1 hc2
        refine at_tabIn (off := 55) (tgt := 56) C dX8_count_1 (by rw [hc2]; decide) (by rw [hc2]; decide) (by rw [hc2]; rfl) (by decide) ?_
        refine at_aload_n C dX8_count_56 0 rfl ?_
        refine gC_X8_66 C dX8_count_57 ?_
        exact ret _ _ _ _ dX8_count_60 h
      · replace h := h.2 hc2
        by_cases hc3 : v1 = 3
        · replace h := h.1 hc3
          refine at_tabIn (off := 60) (tgt := 61) C dX8_count_1 (by rw [hc3]; decide) (by rw [hc3]; decide) (by rw [hc3]; rfl) (by decide) ?_
          refine at_aload_n C dX8_count_61 0 rfl ?_
          refine gC_X8_33 C dX8_count_62 ?_
          refine gC_X8_73 C dX8_count_65 ?_
          exact ret _ _ _ _ dX8_count_68 h
        · replace h := h.2 hc3
          by_cases hc4 : v1 = 4
          · replace h := h.1 hc4
            refine at_tabIn (off := 68) (tgt := 69) C dX8_count_1 (by rw [hc4]; decide) (by rw [hc4]; decide) (by rw [hc4]; rfl) (by decide) ?_
            refine at_aload_n C dX8_count_69 0 rfl ?_
            refine gC_X8_19 C dX8_count_70 ?_
            refine at_callVNi C (kX1_leaves l D ad T hI  _ _ h) ok_X1_leaves m_X8_211 mi_X1_leaves ml_X1_leaves (wC_g4 T ad _) rfl ⟨rfl, rfl, Nat.le_of_ble_eq_true rfl, Nat.le_of_ble_eq_true rfl⟩ rfl rfl (Nat.le_of_ble_eq_true rfl) dX8_count_73 (fun r2 s1 h => ?_)
            exact ret _ _ _ _ dX8_count_76 h
          · replace h := h.2 hc4
            by_cases hc5 : v1 = 5
            · replace h := h.1 hc5
              refine at_tabIn (off := 76) (tgt := 77) C dX8_count_1 (by rw [hc5]; decide) (by rw [hc5]; decide) (by rw [hc5]; rfl) (by decide) ?_
              refine at_aload_n C dX8_count_77 0 rfl ?_
              refine gC_X8_70 C dX8_count_78 ?_
              exact ret _ _ _ _ dX8_count_81 h
            · replace h := h.2 hc5
              refine at_tabOut (tgt := 82) C dX8_count_1 (by have q0 := lv_neT hc0 (a := 0) (by decide); have q1 := lv_neT hc1 (a := 1) (by decide); have q2 := lv_neT hc2 (a := 2) (by decide); have q3 := lv_neT hc3 (a := 3) (by decide); have q4 := lv_neT hc4 (a := 4) (by decide); have q5 := lv_neT hc5 (a := 5) (by decide); omega) (by decide) ?_
              refine at_iconst (v := (-1)) C dX8_count_82 (by decide) ?_
              exact ret _ _ _ _ dX8_count_83 h
theorem m_X5_9 : Cond.fieldLink RX5 9 RX5 "own" "[I" ∈ gW := gW_in 285 (by decide +kernel) (by decide +kernel)
theorem gC_X5_9 {X : XT} {l : Launch} {D : va_G} {ad : Nat → Nat} {T : TT} {cc : ByteArray} {nL fr lo : Nat} {σ : St} {pc : Nat} {lv : List (Nat × Value)} {st : List Value} (C : Cx X (KC l D ad T) cc RX5 nL fr lo) (d : decode cc pc = .ok (.getfield 9, 3)) (kk : At X nL (wC T ad σ) (pc + 3) lv (.ref (ad 33) :: st)) : At X nL (wC T ad σ) pc lv (.ref (ad 32) :: st) := at_get C ingX5 (ci := 5) rfl 32 (wC_g32 T ad σ) 1 (by decide) m_X5_9 rfl rfl d kk
theorem m_X5_15 : Cond.fieldLink RX5 15 RX5 "number" "[I" ∈ gW := gW_in 287 (by decide +kernel) (by decide +kernel)
theorem gC_X5_15 {X : XT} {l : Launch} {D : va_G} {ad : Nat → Nat} {T : TT} {cc : ByteArray} {nL fr lo : Nat} {σ : St} {pc : Nat} {lv : List (Nat × Value)} {st : List Value} (C : Cx X (KC l D ad T) cc RX5 nL fr lo) (d : decode cc pc = .ok (.getfield 15, 3)) (kk : At X nL (wC T ad σ) (pc + 3) lv (.ref (ad 34) :: st)) : At X nL (wC T ad σ) pc lv (.ref (ad 32) :: st) := at_get C ingX5 (ci := 5) rfl 32 (wC_g32 T ad σ) 2 (by decide) m_X5_15 rfl rfl d kk
def qX5_clear_2 (R2 : Int32 → St → Prop) (Q : St → Prop) (v1 : Int32) (σ : St) : Prop := ((20 ≤ v1 → (Q σ)) ∧ (¬ 20 ≤ v1 → (vp_in v1 20 ∧ ∀ s1 : St, s1 = (st_up σ 33 (Int32.toNatClampNeg v1) 0) → (vp_in v1 20 ∧ ∀ s2 : St, s2 = (st_up s1 34 (Int32.toNatClampNeg v1) 0) → ∀ x3 : Int32, x3 = v1 + 1 → R2 x3 s2))))
def qX5_clear_l2  (Q : St → Prop) : Nat → Int32 → St → Prop
  | 0 => fun _ _ => False
  | n + 1 => qX5_clear_2 (qX5_clear_l2  Q n) Q
def pX5_clear  (σ : St) (Q : St → Prop) : Prop := (∃ n, qX5_clear_l2  Q n 0 σ)
set_option maxRecDepth 100000 in
set_option maxHeartbeats 4000000 in
theorem kX5_clear (l : Launch) (D : va_G) (ad : Nat → Nat) (T : TT) (hI : injA 40 ad)  (σ : St) (Q : St → Prop) (h : pX5_clear  σ Q) : Kv (KC l D ad T) (wC T ad) yX5_clear cX5_clear 2 none { frames := 0, cells := 0, slots := 0, locals := 0 } [.ref (ad 32)] (wC T ad σ) Q := by
  refine st_MV (fr := 0) (lo := 0) (by decide) ⟨rfl, rfl⟩ rfl (Nat.le_of_ble_eq_true rfl) rfl (fun X C hD ret => ?_)
  replace hD : ∀ σ, DX X (wC T ad σ) := fun σ => hD _ (wC_D hI T σ)
  have tb2 : ∀ (R2 : Int32 → St → Prop) (hR2 : ∀ (v1 : Int32) (σ : St), R2 v1 σ → At X 2 (wC T ad σ) 2 [(0, .ref (ad 32)), (1, .int v1)] []) (v1 : Int32) (σ : St), qX5_clear_2 R2 Q v1 σ → At X 2 (wC T ad σ) 2 [(0, .ref (ad 32)), (1, .int v1)] [] := by
    intro R2 hR2 v1 σ h
    unfold qX5_clear_2 at h
    refine at_iload_n C dX5_clear_2 1 rfl ?_
    refine at_bipush (v := 20) C dX5_clear_3 (by decide) ?_
    refine at_icmp_ge (tgt := 28) C dX5_clear_5 (by decide) (fun hc => ?_) (fun hc => ?_)
    · replace h := h.1 hc
      exact ret _ _ _ dX5_clear_28 h
    · replace h := h.2 hc
      refine at_aload_n C dX5_clear_8 0 rfl ?_
      refine gC_X5_9 C dX5_clear_9 ?_
      refine at_iload_n C dX5_clear_12 1 rfl ?_
      refine at_iconst (v := 0) C dX5_clear_13 (by decide) ?_
      obtain ⟨hi, h⟩ := h
      refine sC_33 C hD hi dX5_clear_14 (fun s1 es1 => ?_)
      replace h := h s1 es1
      refine at_aload_n C dX5_clear_15 0 rfl ?_
      refine gC_X5_15 C dX5_clear_16 ?_
      refine at_iload_n C dX5_clear_19 1 rfl ?_
      refine at_iconst (v := 0) C dX5_clear_20 (by decide) ?_
      obtain ⟨hi, h⟩ := h
      refine sC_34 C hD hi dX5_clear_21 (fun s2 es2 => ?_)
      replace h := h s2 es2
      obtain ⟨x3, ex3⟩ : ∃ y : Int32, y = v1 + 1 := ⟨_, rfl⟩
      replace h := h x3 ex3
      refine at_iinc (v := x3) (lv' := [(0, .ref (ad 32)), (1, .int x3)]) C dX5_clear_22 1 rfl (by rw [ex3]; rfl) (by decide) [1, 0] rfl ?_
      refine at_goto (tgt := 2) C dX5_clear_25 (by decide) ?_
      exact hR2 _ _ h
  have t2 : ∀ (n : Nat) (v1 : Int32) (σ : St), qX5_clear_l2  Q n v1 σ → At X 2 (wC T ad σ) 2 [(0, .ref (ad 32)), (1, .int v1)] [] := by
    intro  n
    induction n with
    | zero => intro v1 σ h; exact False.elim h
    | succ n ih => intro v1 σ h; exact tb2 (qX5_clear_l2  Q n) ih v1 σ h
  unfold pX5_clear at h
  refine at_iconst (v := 0) C dX5_clear_0 (by decide) ?_
  refine at_istore_n (lv' := [(0, .ref (ad 32)), (1, .int 0)]) C dX5_clear_1 (by decide) [1, 0] rfl ?_
  obtain ⟨n, h⟩ := h
  exact t2  n _ _ h
def pX0_isBirdOf (v1 : Int32) (v2 : Int32) (σ : St) (Q : Int32 → St → Prop) : Prop := (pX2_isIn v1 v2 σ (fun r2 s1 => ((r2 = 0 → (Q 0 s1)) ∧ (¬ r2 = 0 → (vp_in v1 300 ∧ ((¬ (s1 22 (Int32.toNatClampNeg v1)) = v1 → (Q 0 s1)) ∧ ((s1 22 (Int32.toNatClampNeg v1)) = v1 → (Q 1 s1))))))))
set_option maxRecDepth 100000 in
set_option maxHeartbeats 4000000 in
theorem kX0_isBirdOf (l : Launch) (D : va_G) (ad : Nat → Nat) (T : TT) (hI : injA 40 ad) (v1 : Int32) (v2 : Int32) (σ : St) (Q : Int32 → St → Prop) (h : pX0_isBirdOf v1 v2 σ Q) : Ki (KC l D ad T) (wC T ad) yX0_isBirdOf cX0_isBirdOf 3 (some .boolean) { frames := 1, cells := 0, slots := 0, locals := 22 } [.ref (ad 18), .int v1, .int v2] (wC T ad σ) Q := by
  refine st_MZ (fr := 1) (lo := 22) (by decide) ⟨rfl, rfl⟩ rfl (Nat.le_of_ble_eq_true rfl) rfl (fun X C hD ret => ?_)
  replace hD : ∀ σ, DX X (wC T ad σ) := fun σ => hD _ (wC_D hI T σ)
  unfold pX0_isBirdOf at h
  refine at_aload_n C dX0_isBirdOf_0 0 rfl ?_
  refine gC_X0_49 C dX0_isBirdOf_1 ?_
  refine at_iload_n C dX0_isBirdOf_4 1 rfl ?_
  refine at_iload_n C dX0_isBirdOf_5 2 rfl ?_
  refine at_callVNi C (kX2_isIn l D ad T hI _ _ _ _ h) ok_X2_isIn m_X0_59 mi_X2_isIn ml_X2_isIn (wC_g12 T ad _) rfl ⟨rfl, rfl, Nat.le_of_ble_eq_true rfl, Nat.le_of_ble_eq_true rfl⟩ rfl rfl (Nat.le_of_ble_eq_true rfl) dX0_isBirdOf_6 (fun r2 s1 h => ?_)
  refine at_if_eq (tgt := 26) C dX0_isBirdOf_9 (by decide) (fun hc => ?_) (fun hc => ?_)
  · replace h := h.1 hc
    refine at_iconst (v := 0) C dX0_isBirdOf_26 (by decide) ?_
    exact ret _ _ _ _ dX0_isBirdOf_27 rfl h
  · replace h := h.2 hc
    refine at_aload_n C dX0_isBirdOf_12 0 rfl ?_
    refine gC_X0_29 C dX0_isBirdOf_13 ?_
    refine at_iload_n C dX0_isBirdOf_16 1 rfl ?_
    obtain ⟨hi, h⟩ := h
    refine rC_22 C hi dX0_isBirdOf_17 ?_
    refine at_iload_n C dX0_isBirdOf_18 1 rfl ?_
    refine at_icmp_ne (tgt := 26) C dX0_isBirdOf_19 (by decide) (fun hc => ?_) (fun hc => ?_)
    · replace h := h.1 hc
      refine at_iconst (v := 0) C dX0_isBirdOf_26 (by decide) ?_
      exact ret _ _ _ _ dX0_isBirdOf_27 rfl h
    · replace h := h.2 hc
      refine at_iconst (v := 1) C dX0_isBirdOf_22 (by decide) ?_
      refine at_goto (tgt := 27) C dX0_isBirdOf_23 (by decide) ?_
      exact ret _ _ _ _ dX0_isBirdOf_27 rfl h
theorem m_X0_124 : Cond.methodLink RX0 124 yX0_isBirdOf ∈ gW := gW_in 560 (by decide +kernel) (by decide +kernel)
theorem mc_X0_isBirdOf : Cond.code yX0_isBirdOf cX0_isBirdOf 3 (some .boolean) ∈ gW := gW_in 563 (by decide +kernel) (by decide +kernel)
theorem ok_X0_isBirdOf : okM yX0_isBirdOf cX0_isBirdOf 3 (some .boolean) 2 := ⟨mc_X0_isBirdOf, mz_RX0, by decide +kernel⟩
theorem mi_X0_isBirdOf : Cond.instanceMethod yX0_isBirdOf ∈ gW := gW_in 562 (by decide +kernel) (by decide +kernel)
theorem ml_X0_isBirdOf : Cond.selects RX0 yX0_isBirdOf yX0_isBirdOf ∈ gW := gW_in 37 (by decide +kernel) (by decide +kernel)
def qX0_addKinds_a33_34 (R2 : Int32 → Int32 → St → Prop) (Q : St → Prop) (v1 : Int32) (v3 : Int32) (σ : St) : Prop := ∀ x4 : Int32, x4 = v3 + 1 → R2 v1 x4 σ
def qX0_addKinds_a33_2 (R2 : Int32 → Int32 → St → Prop) (Q : St → Prop) (v1 : Int32) (v3 : Int32) (σ : St) : Prop := (((σ 12 6) ≤ v3 → (Q σ)) ∧ (¬ (σ 12 6) ≤ v3 → (pX0_isBirdOf v3 v1 σ (fun r2 s1 => ((r2 = 0 → (qX0_addKinds_a33_34 R2 Q v1 v3 s1)) ∧ (¬ r2 = 0 → (vp_in v3 300 ∧ (vp_in (s1 23 (Int32.toNatClampNeg v3)) 20 ∧ (vp_in (s1 23 (Int32.toNatClampNeg v3)) 20 ∧ ∀ s3 : St, s3 = (st_up s1 33 (Int32.toNatClampNeg (s1 23 (Int32.toNatClampNeg v3))) ((s1 33 (Int32.toNatClampNeg (s1 23 (Int32.toNatClampNeg v3)))) + 1)) → (qX0_addKinds_a33_34 R2 Q v1 v3 s3))))))))))
def qX0_addKinds_a33_l2  (Q : St → Prop) : Nat → Int32 → Int32 → St → Prop
  | 0 => fun _ _ _ => False
  | n + 1 => qX0_addKinds_a33_2 (qX0_addKinds_a33_l2  Q n) Q
def pX0_addKinds_a33 (v1 : Int32) (σ : St) (Q : St → Prop) : Prop := (∃ n, qX0_addKinds_a33_l2  Q n v1 0 σ)
set_option maxRecDepth 100000 in
set_option maxHeartbeats 4000000 in
theorem kX0_addKinds_a33 (l : Launch) (D : va_G) (ad : Nat → Nat) (T : TT) (hI : injA 40 ad) (v1 : Int32) (σ : St) (Q : St → Prop) (h : pX0_addKinds_a33 v1 σ Q) : Kv (KC l D ad T) (wC T ad) yX0_addKinds cX0_addKinds 4 none { frames := 2, cells := 0, slots := 0, locals := 44 } [.ref (ad 18), .int v1, .ref (ad 33)] (wC T ad σ) Q := by
  refine st_MV (fr := 2) (lo := 44) (by decide) ⟨rfl, rfl⟩ rfl (Nat.le_of_ble_eq_true rfl) rfl (fun X C hD ret => ?_)
  replace hD : ∀ σ, DX X (wC T ad σ) := fun σ => hD _ (wC_D hI T σ)
  have t34 : ∀ (R2 : Int32 → Int32 → St → Prop) (hR2 : ∀ (v1 : Int32) (v3 : Int32) (σ : St), R2 v1 v3 σ → At X 4 (wC T ad σ) 2 [(0, .ref (ad 18)), (1, .int v1), (2, .ref (ad 33)), (3, .int v3)] []) (v1 : Int32) (v3 : Int32) (σ : St), qX0_addKinds_a33_34 R2 Q v1 v3 σ → At X 4 (wC T ad σ) 34 [(0, .ref (ad 18)), (1, .int v1), (2, .ref (ad 33)), (3, .int v3)] [] := by
    intro R2 hR2 v1 v3 σ h
    unfold qX0_addKinds_a33_34 at h
    obtain ⟨x4, ex4⟩ : ∃ y : Int32, y = v3 + 1 := ⟨_, rfl⟩
    replace h := h x4 ex4
    refine at_iinc (v := x4) (lv' := [(0, .ref (ad 18)), (1, .int v1), (2, .ref (ad 33)), (3, .int x4)]) C dX0_addKinds_34 3 rfl (by rw [ex4]; rfl) (by decide) [1, 2, 3, 0] rfl ?_
    refine at_goto (tgt := 2) C dX0_addKinds_37 (by decide) ?_
    exact hR2 _ _ _ h
  have tb2 : ∀ (R2 : Int32 → Int32 → St → Prop) (hR2 : ∀ (v1 : Int32) (v3 : Int32) (σ : St), R2 v1 v3 σ → At X 4 (wC T ad σ) 2 [(0, .ref (ad 18)), (1, .int v1), (2, .ref (ad 33)), (3, .int v3)] []) (v1 : Int32) (v3 : Int32) (σ : St), qX0_addKinds_a33_2 R2 Q v1 v3 σ → At X 4 (wC T ad σ) 2 [(0, .ref (ad 18)), (1, .int v1), (2, .ref (ad 33)), (3, .int v3)] [] := by
    intro R2 hR2 v1 v3 σ h
    unfold qX0_addKinds_a33_2 at h
    refine at_iload_n C dX0_addKinds_2 3 rfl ?_
    refine at_aload_n C dX0_addKinds_3 0 rfl ?_
    refine gC_X0_49 C dX0_addKinds_4 ?_
    refine gC_X0_53 C dX0_addKinds_7 ?_
    refine at_icmp_ge (tgt := 40) C dX0_addKinds_10 (by decide) (fun hc => ?_) (fun hc => ?_)
    · replace h := h.1 hc
      exact ret _ _ _ dX0_addKinds_40 h
    · replace h := h.2 hc
      refine at_aload_n C dX0_addKinds_13 0 rfl ?_
      refine at_iload_n C dX0_addKinds_14 3 rfl ?_
      refine at_iload_n C dX0_addKinds_15 1 rfl ?_
      refine at_callVi C (kX0_isBirdOf l D ad T hI _ _ _ _ h) ok_X0_isBirdOf m_X0_124 mi_X0_isBirdOf ml_X0_isBirdOf (wC_g18 T ad _) rfl ⟨rfl, rfl, Nat.le_of_ble_eq_true rfl, Nat.le_of_ble_eq_true rfl⟩ rfl rfl (Nat.le_of_ble_eq_true rfl) dX0_addKinds_16 (fun r2 s1 h => ?_)
      refine at_if_eq (tgt := 34) C dX0_addKinds_19 (by decide) (fun hc => ?_) (fun hc => ?_)
      · replace h := h.1 hc
        exact t34 R2 hR2 _ _ _ h
      · replace h := h.2 hc
        refine at_aload_n C dX0_addKinds_22 2 rfl ?_
        refine at_aload_n C dX0_addKinds_23 0 rfl ?_
        refine gC_X0_32 C dX0_addKinds_24 ?_
        refine at_iload_n C dX0_addKinds_27 3 rfl ?_
        obtain ⟨hi, h⟩ := h
        refine rC_23 C hi dX0_addKinds_28 ?_
        refine at_dup2 C dX0_addKinds_29 rfl rfl ?_
        obtain ⟨hi, h⟩ := h
        refine rC_33 C hi dX0_addKinds_30 ?_
        refine at_iconst (v := 1) C dX0_addKinds_31 (by decide) ?_
        refine at_iadd C dX0_addKinds_32 ?_
        obtain ⟨hi, h⟩ := h
        refine sC_33 C hD hi dX0_addKinds_33 (fun s3 es3 => ?_)
        replace h := h s3 es3
        exact t34 R2 hR2 _ _ _ h
  have t2 : ∀ (n : Nat) (v1 : Int32) (v3 : Int32) (σ : St), qX0_addKinds_a33_l2  Q n v1 v3 σ → At X 4 (wC T ad σ) 2 [(0, .ref (ad 18)), (1, .int v1), (2, .ref (ad 33)), (3, .int v3)] [] := by
    intro  n
    induction n with
    | zero => intro v1 v3 σ h; exact False.elim h
    | succ n ih => intro v1 v3 σ h; exact tb2 (qX0_addKinds_a33_l2  Q n) ih v1 v3 σ h
  unfold pX0_addKinds_a33 at h
  refine at_iconst (v := 0) C dX0_addKinds_0 (by decide) ?_
  refine at_istore_n (lv' := [(0, .ref (ad 18)), (1, .int v1), (2, .ref (ad 33)), (3, .int 0)]) C dX0_addKinds_1 (by decide) [1, 2, 3, 0] rfl ?_
  obtain ⟨n, h⟩ := h
  exact t2  n _ _ _ h
theorem m_X5_21 : Cond.fieldLink RX5 21 RX5 "kinds" "LHawkRidge$KindTree;" ∈ gW := gW_in 284 (by decide +kernel) (by decide +kernel)
theorem gC_X5_21 {X : XT} {l : Launch} {D : va_G} {ad : Nat → Nat} {T : TT} {cc : ByteArray} {nL fr lo : Nat} {σ : St} {pc : Nat} {lv : List (Nat × Value)} {st : List Value} (C : Cx X (KC l D ad T) cc RX5 nL fr lo) (d : decode cc pc = .ok (.getfield 21, 3)) (kk : At X nL (wC T ad σ) (pc + 3) lv (.ref (ad 4) :: st)) : At X nL (wC T ad σ) pc lv (.ref (ad 32) :: st) := at_get C ingX5 (ci := 5) rfl 32 (wC_g32 T ad σ) 0 (by decide) m_X5_21 rfl rfl d kk
theorem m_X5_25 : Cond.fieldLinkNest RX5 25 RX1 "size" "I" "HawkRidge" ∈ nW := nW_in 134 (by decide +kernel) (by decide +kernel)
theorem gC_X5_25 {X : XT} {l : Launch} {D : va_G} {ad : Nat → Nat} {T : TT} {cc : ByteArray} {nL fr lo : Nat} {σ : St} {pc : Nat} {lv : List (Nat × Value)} {st : List Value} (C : Cx X (KC l D ad T) cc RX5 nL fr lo) (d : decode cc pc = .ok (.getfield 25, 3)) (kk : At X nL (wC T ad σ) (pc + 3) lv (.int (σ 4 4) :: st)) : At X nL (wC T ad σ) pc lv (.ref (ad 4) :: st) := at_getN C ingX1 (ci := 1) rfl 4 (wC_g4 T ad σ) 4 (by decide) m_X5_25 rfl rfl d kk
theorem m_X5_31 : Cond.methodLinkNest RX5 31 yX1_isUnder "HawkRidge" ∈ nW := nW_in 705 (by decide +kernel) (by decide +kernel)
def qX5_ownUnder_36 (R4 : Int32 → Int32 → Int32 → St → Prop) (Q : Int32 → St → Prop) (v1 : Int32) (v2 : Int32) (v3 : Int32) (σ : St) : Prop := ∀ x4 : Int32, x4 = v3 + 1 → R4 v1 v2 x4 σ
def qX5_ownUnder_4 (R4 : Int32 → Int32 → Int32 → St → Prop) (Q : Int32 → St → Prop) (v1 : Int32) (v2 : Int32) (v3 : Int32) (σ : St) : Prop := (((σ 4 4) ≤ v3 → (Q v2 σ)) ∧ (¬ (σ 4 4) ≤ v3 → (pX1_isUnder v3 v1 σ (fun r2 s1 => ((r2 = 0 → (qX5_ownUnder_36 R4 Q v1 v2 v3 s1)) ∧ (¬ r2 = 0 → (vp_in v3 20 ∧ ∀ x3 : Int32, x3 = (v2 + (s1 33 (Int32.toNatClampNeg v3))) → (qX5_ownUnder_36 R4 Q v1 x3 v3 s1))))))))
def qX5_ownUnder_l4  (Q : Int32 → St → Prop) : Nat → Int32 → Int32 → Int32 → St → Prop
  | 0 => fun _ _ _ _ => False
  | n + 1 => qX5_ownUnder_4 (qX5_ownUnder_l4  Q n) Q
def pX5_ownUnder (v1 : Int32) (σ : St) (Q : Int32 → St → Prop) : Prop := (∃ n, qX5_ownUnder_l4  Q n v1 0 0 σ)
set_option maxRecDepth 100000 in
set_option maxHeartbeats 4000000 in
theorem kX5_ownUnder (l : Launch) (D : va_G) (ad : Nat → Nat) (T : TT) (hI : injA 40 ad) (v1 : Int32) (σ : St) (Q : Int32 → St → Prop) (h : pX5_ownUnder v1 σ Q) : Ki (KC l D ad T) (wC T ad) yX5_ownUnder cX5_ownUnder 4 (some .int) { frames := 1, cells := 0, slots := 0, locals := 22 } [.ref (ad 32), .int v1] (wC T ad σ) Q := by
  refine st_MI (fr := 1) (lo := 22) (by decide) ⟨rfl, rfl⟩ rfl (Nat.le_of_ble_eq_true rfl) rfl (fun X C hD ret => ?_)
  replace hD : ∀ σ, DX X (wC T ad σ) := fun σ => hD _ (wC_D hI T σ)
  have t36 : ∀ (R4 : Int32 → Int32 → Int32 → St → Prop) (hR4 : ∀ (v1 : Int32) (v2 : Int32) (v3 : Int32) (σ : St), R4 v1 v2 v3 σ → At X 4 (wC T ad σ) 4 [(0, .ref (ad 32)), (1, .int v1), (2, .int v2), (3, .int v3)] []) (v1 : Int32) (v2 : Int32) (v3 : Int32) (σ : St), qX5_ownUnder_36 R4 Q v1 v2 v3 σ → At X 4 (wC T ad σ) 36 [(0, .ref (ad 32)), (1, .int v1), (2, .int v2), (3, .int v3)] [] := by
    intro R4 hR4 v1 v2 v3 σ h
    unfold qX5_ownUnder_36 at h
    obtain ⟨x4, ex4⟩ : ∃ y : Int32, y = v3 + 1 := ⟨_, rfl⟩
    replace h := h x4 ex4
    refine at_iinc (v := x4) (lv' := [(0, .ref (ad 32)), (1, .int v1), (2, .int v2), (3, .int x4)]) C dX5_ownUnder_36 3 rfl (by rw [ex4]; rfl) (by decide) [1, 2, 3, 0] rfl ?_
    refine at_goto (tgt := 4) C dX5_ownUnder_39 (by decide) ?_
    exact hR4 _ _ _ _ h
  have tb4 : ∀ (R4 : Int32 → Int32 → Int32 → St → Prop) (hR4 : ∀ (v1 : Int32) (v2 : Int32) (v3 : Int32) (σ : St), R4 v1 v2 v3 σ → At X 4 (wC T ad σ) 4 [(0, .ref (ad 32)), (1, .int v1), (2, .int v2), (3, .int v3)] []) (v1 : Int32) (v2 : Int32) (v3 : Int32) (σ : St), qX5_ownUnder_4 R4 Q v1 v2 v3 σ → At X 4 (wC T ad σ) 4 [(0, .ref (ad 32)), (1, .int v1), (2, .int v2), (3, .int v3)] [] := by
    intro R4 hR4 v1 v2 v3 σ h
    unfold qX5_ownUnder_4 at h
    refine at_iload_n C dX5_ownUnder_4 3 rfl ?_
    refine at_aload_n C dX5_ownUnder_5 0 rfl ?_
    refine gC_X5_21 C dX5_ownUnder_6 ?_
    refine gC_X5_25 C dX5_ownUnder_9 ?_
    refine at_icmp_ge (tgt := 42) C dX5_ownUnder_12 (by decide) (fun hc => ?_) (fun hc => ?_)
    · replace h := h.1 hc
      refine at_iload_n C dX5_ownUnder_42 2 rfl ?_
      exact ret _ _ _ _ dX5_ownUnder_43 h
    · replace h := h.2 hc
      refine at_aload_n C dX5_ownUnder_15 0 rfl ?_
      refine gC_X5_21 C dX5_ownUnder_16 ?_
      refine at_iload_n C dX5_ownUnder_19 3 rfl ?_
      refine at_iload_n C dX5_ownUnder_20 1 rfl ?_
      refine at_callVNi C (kX1_isUnder l D ad T hI _ _ _ _ h) ok_X1_isUnder m_X5_31 mi_X1_isUnder ml_X1_isUnder (wC_g4 T ad _) rfl ⟨rfl, rfl, Nat.le_of_ble_eq_true rfl, Nat.le_of_ble_eq_true rfl⟩ rfl rfl (Nat.le_of_ble_eq_true rfl) dX5_ownUnder_21 (fun r2 s1 h => ?_)
      refine at_if_eq (tgt := 36) C dX5_ownUnder_24 (by decide) (fun hc => ?_) (fun hc => ?_)
      · replace h := h.1 hc
        exact t36 R4 hR4 _ _ _ _ h
      · replace h := h.2 hc
        refine at_iload_n C dX5_ownUnder_27 2 rfl ?_
        refine at_aload_n C dX5_ownUnder_28 0 rfl ?_
        refine gC_X5_9 C dX5_ownUnder_29 ?_
        refine at_iload_n C dX5_ownUnder_32 3 rfl ?_
        obtain ⟨hi, h⟩ := h
        refine rC_33 C hi dX5_ownUnder_33 ?_
        refine at_iadd C dX5_ownUnder_34 ?_
        refine at_topi (fun x3 ex3 => ?_)
        replace h := h x3 ex3
        refine at_istore_n (lv' := [(0, .ref (ad 32)), (1, .int v1), (2, .int x3), (3, .int v3)]) C dX5_ownUnder_35 (by decide) [1, 2, 0, 3] rfl ?_
        exact t36 R4 hR4 _ _ _ _ h
  have t4 : ∀ (n : Nat) (v1 : Int32) (v2 : Int32) (v3 : Int32) (σ : St), qX5_ownUnder_l4  Q n v1 v2 v3 σ → At X 4 (wC T ad σ) 4 [(0, .ref (ad 32)), (1, .int v1), (2, .int v2), (3, .int v3)] [] := by
    intro  n
    induction n with
    | zero => intro v1 v2 v3 σ h; exact False.elim h
    | succ n ih => intro v1 v2 v3 σ h; exact tb4 (qX5_ownUnder_l4  Q n) ih v1 v2 v3 σ h
  unfold pX5_ownUnder at h
  refine at_iconst (v := 0) C dX5_ownUnder_0 (by decide) ?_
  refine at_istore_n (lv' := [(0, .ref (ad 32)), (1, .int v1), (2, .int 0)]) C dX5_ownUnder_1 (by decide) [1, 2, 0] rfl ?_
  refine at_iconst (v := 0) C dX5_ownUnder_2 (by decide) ?_
  refine at_istore_n (lv' := [(0, .ref (ad 32)), (1, .int v1), (2, .int 0), (3, .int 0)]) C dX5_ownUnder_3 (by decide) [1, 2, 3, 0] rfl ?_
  obtain ⟨n, h⟩ := h
  exact t4  n _ _ _ _ h
theorem m_X5_38 : Cond.fieldLinkNest RX5 38 RX1 "isLeaf" "[Z" "HawkRidge" ∈ nW := nW_in 132 (by decide +kernel) (by decide +kernel)
theorem gC_X5_38 {X : XT} {l : Launch} {D : va_G} {ad : Nat → Nat} {T : TT} {cc : ByteArray} {nL fr lo : Nat} {σ : St} {pc : Nat} {lv : List (Nat × Value)} {st : List Value} (C : Cx X (KC l D ad T) cc RX5 nL fr lo) (d : decode cc pc = .ok (.getfield 38, 3)) (kk : At X nL (wC T ad σ) (pc + 3) lv (.ref (ad 8) :: st)) : At X nL (wC T ad σ) pc lv (.ref (ad 4) :: st) := at_getN C ingX1 (ci := 1) rfl 4 (wC_g4 T ad σ) 3 (by decide) m_X5_38 rfl rfl d kk
def pX1_isLeafUnder (v1 : Int32) (v2 : Int32) (σ : St) (Q : Int32 → St → Prop) : Prop := (vp_in v1 20 ∧ (((σ 8 (Int32.toNatClampNeg v1)) = 0 → (Q 0 σ)) ∧ (¬ (σ 8 (Int32.toNatClampNeg v1)) = 0 → (pX1_isUnder v1 v2 σ (fun r2 s1 => ((r2 = 0 → (Q 0 s1)) ∧ (¬ r2 = 0 → (Q 1 s1))))))))
set_option maxRecDepth 100000 in
set_option maxHeartbeats 4000000 in
theorem kX1_isLeafUnder (l : Launch) (D : va_G) (ad : Nat → Nat) (T : TT) (hI : injA 40 ad) (v1 : Int32) (v2 : Int32) (σ : St) (Q : Int32 → St → Prop) (h : pX1_isLeafUnder v1 v2 σ Q) : Ki (KC l D ad T) (wC T ad) yX1_isLeafUnder cX1_isLeafUnder 3 (some .boolean) { frames := 1, cells := 0, slots := 0, locals := 22 } [.ref (ad 4), .int v1, .int v2] (wC T ad σ) Q := by
  refine st_MZ (fr := 1) (lo := 22) (by decide) ⟨rfl, rfl⟩ rfl (Nat.le_of_ble_eq_true rfl) rfl (fun X C hD ret => ?_)
  replace hD : ∀ σ, DX X (wC T ad σ) := fun σ => hD _ (wC_D hI T σ)
  unfold pX1_isLeafUnder at h
  refine at_aload_n C dX1_isLeafUnder_0 0 rfl ?_
  refine gC_X1_21 C dX1_isLeafUnder_1 ?_
  refine at_iload_n C dX1_isLeafUnder_4 1 rfl ?_
  obtain ⟨hi, h⟩ := h
  refine rC_8 C hi dX1_isLeafUnder_5 ?_
  refine at_if_eq (tgt := 22) C dX1_isLeafUnder_6 (by decide) (fun hc => ?_) (fun hc => ?_)
  · replace h := h.1 hc
    refine at_iconst (v := 0) C dX1_isLeafUnder_22 (by decide) ?_
    exact ret _ _ _ _ dX1_isLeafUnder_23 rfl h
  · replace h := h.2 hc
    refine at_aload_n C dX1_isLeafUnder_9 0 rfl ?_
    refine at_iload_n C dX1_isLeafUnder_10 1 rfl ?_
    refine at_iload_n C dX1_isLeafUnder_11 2 rfl ?_
    refine at_callVi C (kX1_isUnder l D ad T hI _ _ _ _ h) ok_X1_isUnder m_X1_33 mi_X1_isUnder ml_X1_isUnder (wC_g4 T ad _) rfl ⟨rfl, rfl, Nat.le_of_ble_eq_true rfl, Nat.le_of_ble_eq_true rfl⟩ rfl rfl (Nat.le_of_ble_eq_true rfl) dX1_isLeafUnder_12 (fun r2 s1 h => ?_)
    refine at_if_eq (tgt := 22) C dX1_isLeafUnder_15 (by decide) (fun hc => ?_) (fun hc => ?_)
    · replace h := h.1 hc
      refine at_iconst (v := 0) C dX1_isLeafUnder_22 (by decide) ?_
      exact ret _ _ _ _ dX1_isLeafUnder_23 rfl h
    · replace h := h.2 hc
      refine at_iconst (v := 1) C dX1_isLeafUnder_18 (by decide) ?_
      refine at_goto (tgt := 23) C dX1_isLeafUnder_19 (by decide) ?_
      exact ret _ _ _ _ dX1_isLeafUnder_23 rfl h
theorem m_X5_35 : Cond.methodLinkNest RX5 35 yX1_isLeafUnder "HawkRidge" ∈ nW := nW_in 714 (by decide +kernel) (by decide +kernel)
theorem mc_X1_isLeafUnder : Cond.code yX1_isLeafUnder cX1_isLeafUnder 3 (some .boolean) ∈ gW := gW_in 717 (by decide +kernel) (by decide +kernel)
theorem ok_X1_isLeafUnder : okM yX1_isLeafUnder cX1_isLeafUnder 3 (some .boolean) 2 := ⟨mc_X1_isLeafUnder, mz_RX1, by decide +kernel⟩
theorem mi_X1_isLeafUnder : Cond.instanceMethod yX1_isLeafUnder ∈ gW := gW_in 716 (by decide +kernel) (by decide +kernel)
theorem ml_X1_isLeafUnder : Cond.selects RX1 yX1_isLeafUnder yX1_isLeafUnder ∈ gW := gW_in 54 (by decide +kernel) (by decide +kernel)
theorem m_X5_18 : Cond.fieldLink RX5 18 RX5 "rest" "[I" ∈ gW := gW_in 288 (by decide +kernel) (by decide +kernel)
theorem gC_X5_18 {X : XT} {l : Launch} {D : va_G} {ad : Nat → Nat} {T : TT} {cc : ByteArray} {nL fr lo : Nat} {σ : St} {pc : Nat} {lv : List (Nat × Value)} {st : List Value} (C : Cx X (KC l D ad T) cc RX5 nL fr lo) (d : decode cc pc = .ok (.getfield 18, 3)) (kk : At X nL (wC T ad σ) (pc + 3) lv (.ref (ad 35) :: st)) : At X nL (wC T ad σ) pc lv (.ref (ad 32) :: st) := at_get C ingX5 (ci := 5) rfl 32 (wC_g32 T ad σ) 3 (by decide) m_X5_18 rfl rfl d kk
def qX5_giveToGreatestRest_32 (R4 : Int32 → Int32 → St → Prop) (Q : St → Prop) (v1 : Int32) (v2 : Int32) (σ : St) : Prop := ∀ x3 : Int32, x3 = v2 + 1 → R4 v1 x3 σ
def qX5_giveToGreatestRest_4 (R4 : Int32 → Int32 → St → Prop) (Q : St → Prop) (v1 : Int32) (v2 : Int32) (σ : St) : Prop := (((σ 4 4) ≤ v2 → (vp_in v1 20 ∧ (vp_in v1 20 ∧ ∀ s1 : St, s1 = (st_up σ 34 (Int32.toNatClampNeg v1) ((σ 34 (Int32.toNatClampNeg v1)) + 1)) → (vp_in v1 20 ∧ ∀ s2 : St, s2 = (st_up s1 35 (Int32.toNatClampNeg v1) (-1)) → (Q s2))))) ∧ (¬ (σ 4 4) ≤ v2 → (vp_in v2 20 ∧ (vp_in v1 20 ∧ (((σ 35 (Int32.toNatClampNeg v2)) ≤ (σ 35 (Int32.toNatClampNeg v1)) → (qX5_giveToGreatestRest_32 R4 Q v1 v2 σ)) ∧ (¬ (σ 35 (Int32.toNatClampNeg v2)) ≤ (σ 35 (Int32.toNatClampNeg v1)) → (qX5_giveToGreatestRest_32 R4 Q v2 v2 σ)))))))
def qX5_giveToGreatestRest_l4  (Q : St → Prop) : Nat → Int32 → Int32 → St → Prop
  | 0 => fun _ _ _ => False
  | n + 1 => qX5_giveToGreatestRest_4 (qX5_giveToGreatestRest_l4  Q n) Q
def pX5_giveToGreatestRest  (σ : St) (Q : St → Prop) : Prop := (∃ n, qX5_giveToGreatestRest_l4  Q n 0 1 σ)
set_option maxRecDepth 100000 in
set_option maxHeartbeats 4000000 in
theorem kX5_giveToGreatestRest (l : Launch) (D : va_G) (ad : Nat → Nat) (T : TT) (hI : injA 40 ad)  (σ : St) (Q : St → Prop) (h : pX5_giveToGreatestRest  σ Q) : Kv (KC l D ad T) (wC T ad) yX5_giveToGreatestRest cX5_giveToGreatestRest 3 none { frames := 0, cells := 0, slots := 0, locals := 0 } [.ref (ad 32)] (wC T ad σ) Q := by
  refine st_MV (fr := 0) (lo := 0) (by decide) ⟨rfl, rfl⟩ rfl (Nat.le_of_ble_eq_true rfl) rfl (fun X C hD ret => ?_)
  replace hD : ∀ σ, DX X (wC T ad σ) := fun σ => hD _ (wC_D hI T σ)
  have t32 : ∀ (R4 : Int32 → Int32 → St → Prop) (hR4 : ∀ (v1 : Int32) (v2 : Int32) (σ : St), R4 v1 v2 σ → At X 3 (wC T ad σ) 4 [(0, .ref (ad 32)), (1, .int v1), (2, .int v2)] []) (v1 : Int32) (v2 : Int32) (σ : St), qX5_giveToGreatestRest_32 R4 Q v1 v2 σ → At X 3 (wC T ad σ) 32 [(0, .ref (ad 32)), (1, .int v1), (2, .int v2)] [] := by
    intro R4 hR4 v1 v2 σ h
    unfold qX5_giveToGreatestRest_32 at h
    obtain ⟨x3, ex3⟩ : ∃ y : Int32, y = v2 + 1 := ⟨_, rfl⟩
    replace h := h x3 ex3
    refine at_iinc (v := x3) (lv' := [(0, .ref (ad 32)), (1, .int v1), (2, .int x3)]) C dX5_giveToGreatestRest_32 2 rfl (by rw [ex3]; rfl) (by decide) [1, 2, 0] rfl ?_
    refine at_goto (tgt := 4) C dX5_giveToGreatestRest_35 (by decide) ?_
    exact hR4 _ _ _ h
  have tb4 : ∀ (R4 : Int32 → Int32 → St → Prop) (hR4 : ∀ (v1 : Int32) (v2 : Int32) (σ : St), R4 v1 v2 σ → At X 3 (wC T ad σ) 4 [(0, .ref (ad 32)), (1, .int v1), (2, .int v2)] []) (v1 : Int32) (v2 : Int32) (σ : St), qX5_giveToGreatestRest_4 R4 Q v1 v2 σ → At X 3 (wC T ad σ) 4 [(0, .ref (ad 32)), (1, .int v1), (2, .int v2)] [] := by
    intro R4 hR4 v1 v2 σ h
    unfold qX5_giveToGreatestRest_4 at h
    refine at_iload_n C dX5_giveToGreatestRest_4 2 rfl ?_
    refine at_aload_n C dX5_giveToGreatestRest_5 0 rfl ?_
    refine gC_X5_21 C dX5_giveToGreatestRest_6 ?_
    refine gC_X5_25 C dX5_giveToGreatestRest_9 ?_
    refine at_icmp_ge (tgt := 38) C dX5_giveToGreatestRest_12 (by decide) (fun hc => ?_) (fun hc => ?_)
    · replace h := h.1 hc
      refine at_aload_n C dX5_giveToGreatestRest_38 0 rfl ?_
      refine gC_X5_15 C dX5_giveToGreatestRest_39 ?_
      refine at_iload_n C dX5_giveToGreatestRest_42 1 rfl ?_
      refine at_dup2 C dX5_giveToGreatestRest_43 rfl rfl ?_
      obtain ⟨hi, h⟩ := h
      refine rC_34 C hi dX5_giveToGreatestRest_44 ?_
      refine at_iconst (v := 1) C dX5_giveToGreatestRest_45 (by decide) ?_
      refine at_iadd C dX5_giveToGreatestRest_46 ?_
      obtain ⟨hi, h⟩ := h
      refine sC_34 C hD hi dX5_giveToGreatestRest_47 (fun s1 es1 => ?_)
      replace h := h s1 es1
      refine at_aload_n C dX5_giveToGreatestRest_48 0 rfl ?_
      refine gC_X5_18 C dX5_giveToGreatestRest_49 ?_
      refine at_iload_n C dX5_giveToGreatestRest_52 1 rfl ?_
      refine at_iconst (v := (-1)) C dX5_giveToGreatestRest_53 (by decide) ?_
      obtain ⟨hi, h⟩ := h
      refine sC_35 C hD hi dX5_giveToGreatestRest_54 (fun s2 es2 => ?_)
      replace h := h s2 es2
      exact ret _ _ _ dX5_giveToGreatestRest_55 h
    · replace h := h.2 hc
      refine at_aload_n C dX5_giveToGreatestRest_15 0 rfl ?_
      refine gC_X5_18 C dX5_giveToGreatestRest_16 ?_
      refine at_iload_n C dX5_giveToGreatestRest_19 2 rfl ?_
      obtain ⟨hi, h⟩ := h
      refine rC_35 C hi dX5_giveToGreatestRest_20 ?_
      refine at_aload_n C dX5_giveToGreatestRest_21 0 rfl ?_
      refine gC_X5_18 C dX5_giveToGreatestRest_22 ?_
      refine at_iload_n C dX5_giveToGreatestRest_25 1 rfl ?_
      obtain ⟨hi, h⟩ := h
      refine rC_35 C hi dX5_giveToGreatestRest_26 ?_
      refine at_icmp_le (tgt := 32) C dX5_giveToGreatestRest_27 (by decide) (fun hc => ?_) (fun hc => ?_)
      · replace h := h.1 hc
        exact t32 R4 hR4 _ _ _ h
      · replace h := h.2 hc
        refine at_iload_n C dX5_giveToGreatestRest_30 2 rfl ?_
        refine at_istore_n (lv' := [(0, .ref (ad 32)), (1, .int v2), (2, .int v2)]) C dX5_giveToGreatestRest_31 (by decide) [1, 0, 2] rfl ?_
        exact t32 R4 hR4 _ _ _ h
  have t4 : ∀ (n : Nat) (v1 : Int32) (v2 : Int32) (σ : St), qX5_giveToGreatestRest_l4  Q n v1 v2 σ → At X 3 (wC T ad σ) 4 [(0, .ref (ad 32)), (1, .int v1), (2, .int v2)] [] := by
    intro  n
    induction n with
    | zero => intro v1 v2 σ h; exact False.elim h
    | succ n ih => intro v1 v2 σ h; exact tb4 (qX5_giveToGreatestRest_l4  Q n) ih v1 v2 σ h
  unfold pX5_giveToGreatestRest at h
  refine at_iconst (v := 0) C dX5_giveToGreatestRest_0 (by decide) ?_
  refine at_istore_n (lv' := [(0, .ref (ad 32)), (1, .int 0)]) C dX5_giveToGreatestRest_1 (by decide) [1, 0] rfl ?_
  refine at_iconst (v := 1) C dX5_giveToGreatestRest_2 (by decide) ?_
  refine at_istore_n (lv' := [(0, .ref (ad 32)), (1, .int 0), (2, .int 1)]) C dX5_giveToGreatestRest_3 (by decide) [1, 2, 0] rfl ?_
  obtain ⟨n, h⟩ := h
  exact t4  n _ _ _ h
theorem m_X5_46 : Cond.methodLink RX5 46 yX5_giveToGreatestRest ∈ gW := gW_in 718 (by decide +kernel) (by decide +kernel)
theorem mc_X5_giveToGreatestRest : Cond.code yX5_giveToGreatestRest cX5_giveToGreatestRest 3 none ∈ gW := gW_in 721 (by decide +kernel) (by decide +kernel)
theorem mz_RX5 : Cond.initialized RX5 ∈ gW := gW_in 89 (by decide +kernel) (by decide +kernel)
theorem ok_X5_giveToGreatestRest : okM yX5_giveToGreatestRest cX5_giveToGreatestRest 3 none 0 := ⟨mc_X5_giveToGreatestRest, mz_RX5, by decide +kernel⟩
theorem mi_X5_giveToGreatestRest : Cond.instanceMethod yX5_giveToGreatestRest ∈ gW := gW_in 720 (by decide +kernel) (by decide +kernel)
theorem ml_X5_giveToGreatestRest : Cond.selects RX5 yX5_giveToGreatestRest yX5_giveToGreatestRest ∈ gW := gW_in 55 (by decide +kernel) (by decide +kernel)
def qX5_part_45 (R7 : Int32 → Int32 → Int32 → Int32 → St → Prop) (Q : St → Prop) (v1 : Int32) (v2 : Int32) (v3 : Int32) (v4 : Int32) (σ : St) : Prop := ∀ x5 : Int32, x5 = v4 + 1 → R7 v1 v2 v3 x5 σ
def qX5_part_186 (R91 : Int32 → Int32 → Int32 → Int32 → Int32 → St → Prop) (Q : St → Prop) (v1 : Int32) (v4 : Int32) (v5 : Int32) (v6 : Int32) (v7 : Int32) (σ : St) : Prop := ∀ x13 : Int32, x13 = v7 + 1 → R91 v1 v4 v5 v6 x13 σ
def qX5_part_146 (R91 : Int32 → Int32 → Int32 → Int32 → Int32 → St → Prop) (Q : St → Prop) (v1 : Int32) (v4 : Int32) (v5 : Int32) (v6 : Int32) (v7 : Int32) (k0 : Int32) (k1 : Int32) (σ : St) : Prop := ∀ x14 : Int32, x14 = (k1 * k0) → (vp_in v7 20 ∧ (¬ v5 = 0 ∧ (vp_in v7 20 ∧ ∀ s15 : St, s15 = (st_up σ 34 (Int32.toNatClampNeg v7) ((σ 34 (Int32.toNatClampNeg v7)) + (x14 / v5))) → (¬ v5 = 0 ∧ ∀ x16 : Int32, x16 = (v6 - (x14 / v5)) → (¬ v5 = 0 ∧ (vp_in v7 20 ∧ ∀ s17 : St, s17 = (st_up s15 35 (Int32.toNatClampNeg v7) (x14 - x14 / v5 * v5)) → (qX5_part_186 R91 Q v1 v4 v5 x16 v7 s17)))))))
def qX5_part_195 (R195 : Int32 → Int32 → St → Prop) (Q : St → Prop) (v6 : Int32) (v7 : Int32) (σ : St) : Prop := ((v6 ≤ v7 → (Q σ)) ∧ (¬ v6 ≤ v7 → (pX5_giveToGreatestRest σ (fun s10 => ∀ x12 : Int32, x12 = v7 + 1 → R195 v6 x12 s10))))
def qX5_part_l195  (Q : St → Prop) : Nat → Int32 → Int32 → St → Prop
  | 0 => fun _ _ _ => False
  | n + 1 => qX5_part_195 (qX5_part_l195  Q n) Q
def qX5_part_91 (R91 : Int32 → Int32 → Int32 → Int32 → Int32 → St → Prop) (Q : St → Prop) (v1 : Int32) (v4 : Int32) (v5 : Int32) (v6 : Int32) (v7 : Int32) (σ : St) : Prop := (((σ 4 4) ≤ v7 → (∃ n, qX5_part_l195  Q n v6 0 σ)) ∧ (¬ (σ 4 4) ≤ v7 → (vp_in v7 20 ∧ ∀ s7 : St, s7 = (st_up σ 35 (Int32.toNatClampNeg v7) (-1)) → (pX1_isLeafUnder v7 v1 s7 (fun r9 s8 => ((r9 = 0 → (qX5_part_186 R91 Q v1 v4 v5 v6 v7 s8)) ∧ (¬ r9 = 0 → (vp_in v1 20 ∧ ((v4 = 0 → (vp_in v7 20 ∧ (qX5_part_146 R91 Q v1 v4 v5 v6 v7 (s8 33 (Int32.toNatClampNeg v7)) (s8 33 (Int32.toNatClampNeg v1)) s8))) ∧ (¬ v4 = 0 → (qX5_part_146 R91 Q v1 v4 v5 v6 v7 1 (s8 33 (Int32.toNatClampNeg v1)) s8)))))))))))
def qX5_part_l91  (Q : St → Prop) : Nat → Int32 → Int32 → Int32 → Int32 → Int32 → St → Prop
  | 0 => fun _ _ _ _ _ _ => False
  | n + 1 => qX5_part_91 (qX5_part_l91  Q n) Q
def qX5_part_72  (Q : St → Prop) (v1 : Int32) (v4 : Int32) (k0 : Int32) (σ : St) : Prop := ((0 < k0 → (vp_in v1 20 ∧ ∀ x6 : Int32, x6 = (σ 33 (Int32.toNatClampNeg v1)) → (∃ n, qX5_part_l91  Q n v1 v4 k0 x6 0 σ))) ∧ (¬ 0 < k0 → (Q σ)))
def qX5_part_60  (Q : St → Prop) (v1 : Int32) (v2 : Int32) (v3 : Int32) (k0 : Int32) (σ : St) : Prop := ((k0 = 0 → (qX5_part_72  Q v1 k0 v2 σ)) ∧ (¬ k0 = 0 → (qX5_part_72  Q v1 k0 v3 σ)))
def qX5_part_7 (R7 : Int32 → Int32 → Int32 → Int32 → St → Prop) (Q : St → Prop) (v1 : Int32) (v2 : Int32) (v3 : Int32) (v4 : Int32) (σ : St) : Prop := (((σ 4 4) ≤ v4 → ((¬ v2 = 0 → (qX5_part_60  Q v1 v2 v3 0 σ)) ∧ (v2 = 0 → (qX5_part_60  Q v1 v2 v3 1 σ)))) ∧ (¬ (σ 4 4) ≤ v4 → (pX1_isLeafUnder v4 v1 σ (fun r2 s1 => ((r2 = 0 → (qX5_part_45 R7 Q v1 v2 v3 v4 s1)) ∧ (¬ r2 = 0 → (vp_in v4 20 ∧ ∀ x3 : Int32, x3 = (v2 + (s1 33 (Int32.toNatClampNeg v4))) → ∀ x4 : Int32, x4 = v3 + 1 → (qX5_part_45 R7 Q v1 x3 x4 v4 s1))))))))
def qX5_part_l7  (Q : St → Prop) : Nat → Int32 → Int32 → Int32 → Int32 → St → Prop
  | 0 => fun _ _ _ _ _ => False
  | n + 1 => qX5_part_7 (qX5_part_l7  Q n) Q
def pX5_part (v1 : Int32) (σ : St) (Q : St → Prop) : Prop := (∃ n, qX5_part_l7  Q n v1 0 0 0 σ)
set_option maxRecDepth 100000 in
set_option maxHeartbeats 4000000 in
theorem kX5_part (l : Launch) (D : va_G) (ad : Nat → Nat) (T : TT) (hI : injA 40 ad) (v1 : Int32) (σ : St) (Q : St → Prop) (h : pX5_part v1 σ Q) : Kv (KC l D ad T) (wC T ad) yX5_part cX5_part 9 none { frames := 2, cells := 0, slots := 0, locals := 44 } [.ref (ad 32), .int v1] (wC T ad σ) Q := by
  refine st_MV (fr := 2) (lo := 44) (by decide) ⟨rfl, rfl⟩ rfl (Nat.le_of_ble_eq_true rfl) rfl (fun X C hD ret => ?_)
  replace hD : ∀ σ, DX X (wC T ad σ) := fun σ => hD _ (wC_D hI T σ)
  have t45 : ∀ (R7 : Int32 → Int32 → Int32 → Int32 → St → Prop) (hR7 : ∀ (v1 : Int32) (v2 : Int32) (v3 : Int32) (v4 : Int32) (σ : St), R7 v1 v2 v3 v4 σ → At X 9 (wC T ad σ) 7 [(0, .ref (ad 32)), (1, .int v1), (2, .int v2), (3, .int v3), (4, .int v4)] []) (v1 : Int32) (v2 : Int32) (v3 : Int32) (v4 : Int32) (σ : St), qX5_part_45 R7 Q v1 v2 v3 v4 σ → At X 9 (wC T ad σ) 45 [(0, .ref (ad 32)), (1, .int v1), (2, .int v2), (3, .int v3), (4, .int v4)] [] := by
    intro R7 hR7 v1 v2 v3 v4 σ h
    unfold qX5_part_45 at h
    obtain ⟨x5, ex5⟩ : ∃ y : Int32, y = v4 + 1 := ⟨_, rfl⟩
    replace h := h x5 ex5
    refine at_iinc (v := x5) (lv' := [(0, .ref (ad 32)), (1, .int v1), (2, .int v2), (3, .int v3), (4, .int x5)]) C dX5_part_45 4 rfl (by rw [ex5]; rfl) (by decide) [1, 2, 3, 4, 0] rfl ?_
    refine at_goto (tgt := 7) C dX5_part_48 (by decide) ?_
    exact hR7 _ _ _ _ _ h
  have t186 : ∀ (R91 : Int32 → Int32 → Int32 → Int32 → Int32 → St → Prop) (hR91 : ∀ (v1 : Int32) (v4 : Int32) (v5 : Int32) (v6 : Int32) (v7 : Int32) (σ : St), R91 v1 v4 v5 v6 v7 σ → At X 9 (wC T ad σ) 91 [(0, .ref (ad 32)), (1, .int v1), (4, .int v4), (5, .int v5), (6, .int v6), (7, .int v7)] []) (v1 : Int32) (v4 : Int32) (v5 : Int32) (v6 : Int32) (v7 : Int32) (σ : St), qX5_part_186 R91 Q v1 v4 v5 v6 v7 σ → At X 9 (wC T ad σ) 186 [(0, .ref (ad 32)), (1, .int v1), (4, .int v4), (5, .int v5), (6, .int v6), (7, .int v7)] [] := by
    intro R91 hR91 v1 v4 v5 v6 v7 σ h
    unfold qX5_part_186 at h
    obtain ⟨x13, ex13⟩ : ∃ y : Int32, y = v7 + 1 := ⟨_, rfl⟩
    replace h := h x13 ex13
    refine at_iinc (v := x13) (lv' := [(0, .ref (ad 32)), (1, .int v1), (4, .int v4), (5, .int v5), (6, .int v6), (7, .int x13)]) C dX5_part_186 5 rfl (by rw [ex13]; rfl) (by decide) [1, 2, 3, 4, 5, 0] rfl ?_
    refine at_goto (tgt := 91) C dX5_part_189 (by decide) ?_
    exact hR91 _ _ _ _ _ _ h
  have t146 : ∀ (R91 : Int32 → Int32 → Int32 → Int32 → Int32 → St → Prop) (hR91 : ∀ (v1 : Int32) (v4 : Int32) (v5 : Int32) (v6 : Int32) (v7 : Int32) (σ : St), R91 v1 v4 v5 v6 v7 σ → At X 9 (wC T ad σ) 91 [(0, .ref (ad 32)), (1, .int v1), (4, .int v4), (5, .int v5), (6, .int v6), (7, .int v7)] []) (v1 : Int32) (v4 : Int32) (v5 : Int32) (v6 : Int32) (v7 : Int32) (k0 : Int32) (k1 : Int32) (σ : St), qX5_part_146 R91 Q v1 v4 v5 v6 v7 k0 k1 σ → At X 9 (wC T ad σ) 146 [(0, .ref (ad 32)), (1, .int v1), (4, .int v4), (5, .int v5), (6, .int v6), (7, .int v7)] [.int k0, .int k1] := by
    intro R91 hR91 v1 v4 v5 v6 v7 k0 k1 σ h
    unfold qX5_part_146 at h
    refine at_imul C dX5_part_146 ?_
    refine at_topi (fun x14 ex14 => ?_)
    replace h := h x14 ex14
    refine at_istore (lv' := [(0, .ref (ad 32)), (1, .int v1), (4, .int v4), (5, .int v5), (6, .int v6), (7, .int v7), (8, .int x14)]) C dX5_part_147 (by decide) [1, 2, 3, 4, 5, 6, 0] rfl ?_
    refine at_aload_n C dX5_part_149 0 rfl ?_
    refine gC_X5_15 C dX5_part_150 ?_
    refine at_iload C dX5_part_153 5 rfl ?_
    refine at_dup2 C dX5_part_155 rfl rfl ?_
    obtain ⟨hi, h⟩ := h
    refine rC_34 C hi dX5_part_156 ?_
    refine at_iload C dX5_part_157 6 rfl ?_
    refine at_iload C dX5_part_159 3 rfl ?_
    obtain ⟨hz, h⟩ := h
    refine at_idiv C dX5_part_161 hz ?_
    refine at_iadd C dX5_part_162 ?_
    obtain ⟨hi, h⟩ := h
    refine sC_34 C hD hi dX5_part_163 (fun s15 es15 => ?_)
    replace h := h s15 es15
    refine at_iload C dX5_part_164 4 rfl ?_
    refine at_iload C dX5_part_166 6 rfl ?_
    refine at_iload C dX5_part_168 3 rfl ?_
    obtain ⟨hz, h⟩ := h
    refine at_idiv C dX5_part_170 hz ?_
    refine at_isub C dX5_part_171 ?_
    refine at_topi (fun x16 ex16 => ?_)
    replace h := h x16 ex16
    refine at_istore (lv' := [(0, .ref (ad 32)), (1, .int v1), (4, .int v4), (5, .int v5), (6, .int x16), (7, .int v7), (8, .int x14)]) C dX5_part_172 (by decide) [1, 2, 3, 4, 0, 5, 6] rfl ?_
    refine at_aload_n C dX5_part_174 0 rfl ?_
    refine gC_X5_18 C dX5_part_175 ?_
    refine at_iload C dX5_part_178 5 rfl ?_
    refine at_iload C dX5_part_180 6 rfl ?_
    refine at_iload C dX5_part_182 3 rfl ?_
    obtain ⟨hz, h⟩ := h
    refine at_irem C dX5_part_184 hz ?_
    obtain ⟨hi, h⟩ := h
    refine sC_35 C hD hi dX5_part_185 (fun s17 es17 => ?_)
    replace h := h s17 es17
    refine at_sub [0, 1, 2, 3, 4, 5] rfl ?_
    exact t186 R91 hR91 _ _ _ _ _ _ h
  have tb195 : ∀ (R195 : Int32 → Int32 → St → Prop) (hR195 : ∀ (v6 : Int32) (v7 : Int32) (σ : St), R195 v6 v7 σ → At X 9 (wC T ad σ) 195 [(0, .ref (ad 32)), (6, .int v6), (7, .int v7)] []) (v6 : Int32) (v7 : Int32) (σ : St), qX5_part_195 R195 Q v6 v7 σ → At X 9 (wC T ad σ) 195 [(0, .ref (ad 32)), (6, .int v6), (7, .int v7)] [] := by
    intro R195 hR195 v6 v7 σ h
    unfold qX5_part_195 at h
    refine at_iload C dX5_part_195 2 rfl ?_
    refine at_iload C dX5_part_197 1 rfl ?_
    refine at_icmp_ge (tgt := 212) C dX5_part_199 (by decide) (fun hc => ?_) (fun hc => ?_)
    · replace h := h.1 hc
      exact ret _ _ _ dX5_part_212 h
    · replace h := h.2 hc
      refine at_aload_n C dX5_part_202 0 rfl ?_
      refine at_callVv C (kX5_giveToGreatestRest l D ad T hI  _ _ h) ok_X5_giveToGreatestRest m_X5_46 mi_X5_giveToGreatestRest ml_X5_giveToGreatestRest (wC_g32 T ad _) rfl ⟨rfl, rfl, Nat.le_of_ble_eq_true rfl, Nat.le_of_ble_eq_true rfl⟩ rfl rfl (Nat.le_of_ble_eq_true rfl) dX5_part_203 (fun s10 h => ?_)
      obtain ⟨x12, ex12⟩ : ∃ y : Int32, y = v7 + 1 := ⟨_, rfl⟩
      replace h := h x12 ex12
      refine at_iinc (v := x12) (lv' := [(0, .ref (ad 32)), (6, .int v6), (7, .int x12)]) C dX5_part_206 2 rfl (by rw [ex12]; rfl) (by decide) [1, 2, 0] rfl ?_
      refine at_goto (tgt := 195) C dX5_part_209 (by decide) ?_
      exact hR195 _ _ _ h
  have t195 : ∀ (n : Nat) (v6 : Int32) (v7 : Int32) (σ : St), qX5_part_l195  Q n v6 v7 σ → At X 9 (wC T ad σ) 195 [(0, .ref (ad 32)), (6, .int v6), (7, .int v7)] [] := by
    intro  n
    induction n with
    | zero => intro v6 v7 σ h; exact False.elim h
    | succ n ih => intro v6 v7 σ h; exact tb195 (qX5_part_l195  Q n) ih v6 v7 σ h
  have tb91 : ∀ (R91 : Int32 → Int32 → Int32 → Int32 → Int32 → St → Prop) (hR91 : ∀ (v1 : Int32) (v4 : Int32) (v5 : Int32) (v6 : Int32) (v7 : Int32) (σ : St), R91 v1 v4 v5 v6 v7 σ → At X 9 (wC T ad σ) 91 [(0, .ref (ad 32)), (1, .int v1), (4, .int v4), (5, .int v5), (6, .int v6), (7, .int v7)] []) (v1 : Int32) (v4 : Int32) (v5 : Int32) (v6 : Int32) (v7 : Int32) (σ : St), qX5_part_91 R91 Q v1 v4 v5 v6 v7 σ → At X 9 (wC T ad σ) 91 [(0, .ref (ad 32)), (1, .int v1), (4, .int v4), (5, .int v5), (6, .int v6), (7, .int v7)] [] := by
    intro R91 hR91 v1 v4 v5 v6 v7 σ h
    unfold qX5_part_91 at h
    refine at_iload C dX5_part_91 5 rfl ?_
    refine at_aload_n C dX5_part_93 0 rfl ?_
    refine gC_X5_21 C dX5_part_94 ?_
    refine gC_X5_25 C dX5_part_97 ?_
    refine at_icmp_ge (tgt := 192) C dX5_part_100 (by decide) (fun hc => ?_) (fun hc => ?_)
    · replace h := h.1 hc
      refine at_iconst (v := 0) C dX5_part_192 (by decide) ?_
      refine at_istore (lv' := [(0, .ref (ad 32)), (1, .int v1), (4, .int v4), (5, .int v5), (6, .int v6), (7, .int 0)]) C dX5_part_193 (by decide) [1, 2, 3, 4, 5, 0] rfl ?_
      refine at_sub [0, 4, 5] rfl ?_
      obtain ⟨n, h⟩ := h
      exact t195  n _ _ _ h
    · replace h := h.2 hc
      refine at_aload_n C dX5_part_103 0 rfl ?_
      refine gC_X5_18 C dX5_part_104 ?_
      refine at_iload C dX5_part_107 5 rfl ?_
      refine at_iconst (v := (-1)) C dX5_part_109 (by decide) ?_
      obtain ⟨hi, h⟩ := h
      refine sC_35 C hD hi dX5_part_110 (fun s7 es7 => ?_)
      replace h := h s7 es7
      refine at_aload_n C dX5_part_111 0 rfl ?_
      refine gC_X5_21 C dX5_part_112 ?_
      refine at_iload C dX5_part_115 5 rfl ?_
      refine at_iload_n C dX5_part_117 1 rfl ?_
      refine at_callVNi C (kX1_isLeafUnder l D ad T hI _ _ _ _ h) ok_X1_isLeafUnder m_X5_35 mi_X1_isLeafUnder ml_X1_isLeafUnder (wC_g4 T ad _) rfl ⟨rfl, rfl, Nat.le_of_ble_eq_true rfl, Nat.le_of_ble_eq_true rfl⟩ rfl rfl (Nat.le_of_ble_eq_true rfl) dX5_part_118 (fun r9 s8 h => ?_)
      refine at_if_eq (tgt := 186) C dX5_part_121 (by decide) (fun hc => ?_) (fun hc => ?_)
      · replace h := h.1 hc
        exact t186 R91 hR91 _ _ _ _ _ _ h
      · replace h := h.2 hc
        refine at_aload_n C dX5_part_124 0 rfl ?_
        refine gC_X5_9 C dX5_part_125 ?_
        refine at_iload_n C dX5_part_128 1 rfl ?_
        obtain ⟨hi, h⟩ := h
        refine rC_33 C hi dX5_part_129 ?_
        refine at_iload C dX5_part_130 2 rfl ?_
        refine at_if_eq (tgt := 139) C dX5_part_132 (by decide) (fun hc => ?_) (fun hc => ?_)
        · replace h := h.1 hc
          refine at_aload_n C dX5_part_139 0 rfl ?_
          refine gC_X5_9 C dX5_part_140 ?_
          refine at_iload C dX5_part_143 5 rfl ?_
          obtain ⟨hi, h⟩ := h
          refine rC_33 C hi dX5_part_145 ?_
          exact t146 R91 hR91 _ _ _ _ _ _ _ _ h
        · replace h := h.2 hc
          refine at_iconst (v := 1) C dX5_part_135 (by decide) ?_
          refine at_goto (tgt := 146) C dX5_part_136 (by decide) ?_
          exact t146 R91 hR91 _ _ _ _ _ _ _ _ h
  have t91 : ∀ (n : Nat) (v1 : Int32) (v4 : Int32) (v5 : Int32) (v6 : Int32) (v7 : Int32) (σ : St), qX5_part_l91  Q n v1 v4 v5 v6 v7 σ → At X 9 (wC T ad σ) 91 [(0, .ref (ad 32)), (1, .int v1), (4, .int v4), (5, .int v5), (6, .int v6), (7, .int v7)] [] := by
    intro  n
    induction n with
    | zero => intro v1 v4 v5 v6 v7 σ h; exact False.elim h
    | succ n ih => intro v1 v4 v5 v6 v7 σ h; exact tb91 (qX5_part_l91  Q n) ih v1 v4 v5 v6 v7 σ h
  have t72 : ∀ (v1 : Int32) (v4 : Int32) (k0 : Int32) (σ : St), qX5_part_72  Q v1 v4 k0 σ → At X 9 (wC T ad σ) 72 [(0, .ref (ad 32)), (1, .int v1), (4, .int v4)] [.int k0] := by
    intro v1 v4 k0 σ h
    unfold qX5_part_72 at h
    refine at_istore (lv' := [(0, .ref (ad 32)), (1, .int v1), (4, .int v4), (5, .int k0)]) C dX5_part_72 (by decide) [1, 2, 3, 0] rfl ?_
    refine at_iload C dX5_part_74 3 rfl ?_
    refine at_if_gt (tgt := 80) C dX5_part_76 (by decide) (fun hc => ?_) (fun hc => ?_)
    · replace h := h.1 hc
      refine at_aload_n C dX5_part_80 0 rfl ?_
      refine gC_X5_9 C dX5_part_81 ?_
      refine at_iload_n C dX5_part_84 1 rfl ?_
      obtain ⟨hi, h⟩ := h
      refine rC_33 C hi dX5_part_85 ?_
      refine at_topi (fun x6 ex6 => ?_)
      replace h := h x6 ex6
      refine at_istore (lv' := [(0, .ref (ad 32)), (1, .int v1), (4, .int v4), (5, .int k0), (6, .int x6)]) C dX5_part_86 (by decide) [1, 2, 3, 4, 0] rfl ?_
      refine at_iconst (v := 0) C dX5_part_88 (by decide) ?_
      refine at_istore (lv' := [(0, .ref (ad 32)), (1, .int v1), (4, .int v4), (5, .int k0), (6, .int x6), (7, .int 0)]) C dX5_part_89 (by decide) [1, 2, 3, 4, 5, 0] rfl ?_
      obtain ⟨n, h⟩ := h
      exact t91  n _ _ _ _ _ _ h
    · replace h := h.2 hc
      exact ret _ _ _ dX5_part_79 h
  have t60 : ∀ (v1 : Int32) (v2 : Int32) (v3 : Int32) (k0 : Int32) (σ : St), qX5_part_60  Q v1 v2 v3 k0 σ → At X 9 (wC T ad σ) 60 [(0, .ref (ad 32)), (1, .int v1), (2, .int v2), (3, .int v3)] [.int k0] := by
    intro v1 v2 v3 k0 σ h
    unfold qX5_part_60 at h
    refine at_istore (lv' := [(0, .ref (ad 32)), (1, .int v1), (2, .int v2), (3, .int v3), (4, .int k0)]) C dX5_part_60 (by decide) [1, 2, 3, 4, 0] rfl ?_
    refine at_iload C dX5_part_62 4 rfl ?_
    refine at_if_eq (tgt := 71) C dX5_part_64 (by decide) (fun hc => ?_) (fun hc => ?_)
    · replace h := h.1 hc
      refine at_iload_n C dX5_part_71 2 rfl ?_
      refine at_sub [0, 1, 4] rfl ?_
      exact t72  _ _ _ _ h
    · replace h := h.2 hc
      refine at_iload_n C dX5_part_67 3 rfl ?_
      refine at_goto (tgt := 72) C dX5_part_68 (by decide) ?_
      refine at_sub [0, 1, 4] rfl ?_
      exact t72  _ _ _ _ h
  have tb7 : ∀ (R7 : Int32 → Int32 → Int32 → Int32 → St → Prop) (hR7 : ∀ (v1 : Int32) (v2 : Int32) (v3 : Int32) (v4 : Int32) (σ : St), R7 v1 v2 v3 v4 σ → At X 9 (wC T ad σ) 7 [(0, .ref (ad 32)), (1, .int v1), (2, .int v2), (3, .int v3), (4, .int v4)] []) (v1 : Int32) (v2 : Int32) (v3 : Int32) (v4 : Int32) (σ : St), qX5_part_7 R7 Q v1 v2 v3 v4 σ → At X 9 (wC T ad σ) 7 [(0, .ref (ad 32)), (1, .int v1), (2, .int v2), (3, .int v3), (4, .int v4)] [] := by
    intro R7 hR7 v1 v2 v3 v4 σ h
    unfold qX5_part_7 at h
    refine at_iload C dX5_part_7 4 rfl ?_
    refine at_aload_n C dX5_part_9 0 rfl ?_
    refine gC_X5_21 C dX5_part_10 ?_
    refine gC_X5_25 C dX5_part_13 ?_
    refine at_icmp_ge (tgt := 51) C dX5_part_16 (by decide) (fun hc => ?_) (fun hc => ?_)
    · replace h := h.1 hc
      refine at_iload_n C dX5_part_51 2 rfl ?_
      refine at_if_ne (tgt := 59) C dX5_part_52 (by decide) (fun hc => ?_) (fun hc => ?_)
      · replace h := h.1 hc
        refine at_iconst (v := 0) C dX5_part_59 (by decide) ?_
        refine at_sub [0, 1, 2, 3] rfl ?_
        exact t60  _ _ _ _ _ h
      · replace h := h.2 hc
        refine at_iconst (v := 1) C dX5_part_55 (by decide) ?_
        refine at_goto (tgt := 60) C dX5_part_56 (by decide) ?_
        refine at_sub [0, 1, 2, 3] rfl ?_
        exact t60  _ _ _ _ _ h
    · replace h := h.2 hc
      refine at_aload_n C dX5_part_19 0 rfl ?_
      refine gC_X5_21 C dX5_part_20 ?_
      refine at_iload C dX5_part_23 4 rfl ?_
      refine at_iload_n C dX5_part_25 1 rfl ?_
      refine at_callVNi C (kX1_isLeafUnder l D ad T hI _ _ _ _ h) ok_X1_isLeafUnder m_X5_35 mi_X1_isLeafUnder ml_X1_isLeafUnder (wC_g4 T ad _) rfl ⟨rfl, rfl, Nat.le_of_ble_eq_true rfl, Nat.le_of_ble_eq_true rfl⟩ rfl rfl (Nat.le_of_ble_eq_true rfl) dX5_part_26 (fun r2 s1 h => ?_)
      refine at_if_eq (tgt := 45) C dX5_part_29 (by decide) (fun hc => ?_) (fun hc => ?_)
      · replace h := h.1 hc
        exact t45 R7 hR7 _ _ _ _ _ h
      · replace h := h.2 hc
        refine at_iload_n C dX5_part_32 2 rfl ?_
        refine at_aload_n C dX5_part_33 0 rfl ?_
        refine gC_X5_9 C dX5_part_34 ?_
        refine at_iload C dX5_part_37 4 rfl ?_
        obtain ⟨hi, h⟩ := h
        refine rC_33 C hi dX5_part_39 ?_
        refine at_iadd C dX5_part_40 ?_
        refine at_topi (fun x3 ex3 => ?_)
        replace h := h x3 ex3
        refine at_istore_n (lv' := [(0, .ref (ad 32)), (1, .int v1), (2, .int x3), (3, .int v3), (4, .int v4)]) C dX5_part_41 (by decide) [1, 2, 0, 3, 4] rfl ?_
        obtain ⟨x4, ex4⟩ : ∃ y : Int32, y = v3 + 1 := ⟨_, rfl⟩
        replace h := h x4 ex4
        refine at_iinc (v := x4) (lv' := [(0, .ref (ad 32)), (1, .int v1), (2, .int x3), (3, .int x4), (4, .int v4)]) C dX5_part_42 3 rfl (by rw [ex4]; rfl) (by decide) [1, 2, 3, 0, 4] rfl ?_
        exact t45 R7 hR7 _ _ _ _ _ h
  have t7 : ∀ (n : Nat) (v1 : Int32) (v2 : Int32) (v3 : Int32) (v4 : Int32) (σ : St), qX5_part_l7  Q n v1 v2 v3 v4 σ → At X 9 (wC T ad σ) 7 [(0, .ref (ad 32)), (1, .int v1), (2, .int v2), (3, .int v3), (4, .int v4)] [] := by
    intro  n
    induction n with
    | zero => intro v1 v2 v3 v4 σ h; exact False.elim h
    | succ n ih => intro v1 v2 v3 v4 σ h; exact tb7 (qX5_part_l7  Q n) ih v1 v2 v3 v4 σ h
  unfold pX5_part at h
  refine at_iconst (v := 0) C dX5_part_0 (by decide) ?_
  refine at_istore_n (lv' := [(0, .ref (ad 32)), (1, .int v1), (2, .int 0)]) C dX5_part_1 (by decide) [1, 2, 0] rfl ?_
  refine at_iconst (v := 0) C dX5_part_2 (by decide) ?_
  refine at_istore_n (lv' := [(0, .ref (ad 32)), (1, .int v1), (2, .int 0), (3, .int 0)]) C dX5_part_3 (by decide) [1, 2, 3, 0] rfl ?_
  refine at_iconst (v := 0) C dX5_part_4 (by decide) ?_
  refine at_istore (lv' := [(0, .ref (ad 32)), (1, .int v1), (2, .int 0), (3, .int 0), (4, .int 0)]) C dX5_part_5 (by decide) [1, 2, 3, 4, 0] rfl ?_
  obtain ⟨n, h⟩ := h
  exact t7  n _ _ _ _ _ h
theorem m_X5_42 : Cond.methodLink RX5 42 yX5_part ∈ gW := gW_in 710 (by decide +kernel) (by decide +kernel)
theorem mc_X5_part : Cond.code yX5_part cX5_part 9 none ∈ gW := gW_in 713 (by decide +kernel) (by decide +kernel)
theorem ok_X5_part : okM yX5_part cX5_part 9 none 1 := ⟨mc_X5_part, mz_RX5, by decide +kernel⟩
theorem mi_X5_part : Cond.instanceMethod yX5_part ∈ gW := gW_in 712 (by decide +kernel) (by decide +kernel)
theorem ml_X5_part : Cond.selects RX5 yX5_part yX5_part ∈ gW := gW_in 53 (by decide +kernel) (by decide +kernel)
def qX5_partAll_48 (R2 : Int32 → St → Prop) (Q : St → Prop) (v1 : Int32) (σ : St) : Prop := ∀ x4 : Int32, x4 = v1 + 1 → R2 x4 σ
def qX5_partAll_2 (R2 : Int32 → St → Prop) (Q : St → Prop) (v1 : Int32) (σ : St) : Prop := (((σ 4 4) ≤ v1 → (Q σ)) ∧ (¬ (σ 4 4) ≤ v1 → (vp_in v1 20 ∧ (((σ 8 (Int32.toNatClampNeg v1)) = 0 → (pX5_part v1 σ (fun s1 => (qX5_partAll_48 R2 Q v1 s1)))) ∧ (¬ (σ 8 (Int32.toNatClampNeg v1)) = 0 → (vp_in v1 20 ∧ (vp_in v1 20 ∧ (vp_in v1 20 ∧ ∀ s3 : St, s3 = (st_up σ 34 (Int32.toNatClampNeg v1) ((σ 34 (Int32.toNatClampNeg v1)) + (σ 33 (Int32.toNatClampNeg v1)))) → (qX5_partAll_48 R2 Q v1 s3)))))))))
def qX5_partAll_l2  (Q : St → Prop) : Nat → Int32 → St → Prop
  | 0 => fun _ _ => False
  | n + 1 => qX5_partAll_2 (qX5_partAll_l2  Q n) Q
def pX5_partAll  (σ : St) (Q : St → Prop) : Prop := (∃ n, qX5_partAll_l2  Q n 0 σ)
set_option maxRecDepth 100000 in
set_option maxHeartbeats 4000000 in
theorem kX5_partAll (l : Launch) (D : va_G) (ad : Nat → Nat) (T : TT) (hI : injA 40 ad)  (σ : St) (Q : St → Prop) (h : pX5_partAll  σ Q) : Kv (KC l D ad T) (wC T ad) yX5_partAll cX5_partAll 2 none { frames := 3, cells := 0, slots := 0, locals := 72 } [.ref (ad 32)] (wC T ad σ) Q := by
  refine st_MV (fr := 3) (lo := 72) (by decide) ⟨rfl, rfl⟩ rfl (Nat.le_of_ble_eq_true rfl) rfl (fun X C hD ret => ?_)
  replace hD : ∀ σ, DX X (wC T ad σ) := fun σ => hD _ (wC_D hI T σ)
  have t48 : ∀ (R2 : Int32 → St → Prop) (hR2 : ∀ (v1 : Int32) (σ : St), R2 v1 σ → At X 2 (wC T ad σ) 2 [(0, .ref (ad 32)), (1, .int v1)] []) (v1 : Int32) (σ : St), qX5_partAll_48 R2 Q v1 σ → At X 2 (wC T ad σ) 48 [(0, .ref (ad 32)), (1, .int v1)] [] := by
    intro R2 hR2 v1 σ h
    unfold qX5_partAll_48 at h
    obtain ⟨x4, ex4⟩ : ∃ y : Int32, y = v1 + 1 := ⟨_, rfl⟩
    replace h := h x4 ex4
    refine at_iinc (v := x4) (lv' := [(0, .ref (ad 32)), (1, .int x4)]) C dX5_partAll_48 1 rfl (by rw [ex4]; rfl) (by decide) [1, 0] rfl ?_
    refine at_goto (tgt := 2) C dX5_partAll_51 (by decide) ?_
    exact hR2 _ _ h
  have tb2 : ∀ (R2 : Int32 → St → Prop) (hR2 : ∀ (v1 : Int32) (σ : St), R2 v1 σ → At X 2 (wC T ad σ) 2 [(0, .ref (ad 32)), (1, .int v1)] []) (v1 : Int32) (σ : St), qX5_partAll_2 R2 Q v1 σ → At X 2 (wC T ad σ) 2 [(0, .ref (ad 32)), (1, .int v1)] [] := by
    intro R2 hR2 v1 σ h
    unfold qX5_partAll_2 at h
    refine at_iload_n C dX5_partAll_2 1 rfl ?_
    refine at_aload_n C dX5_partAll_3 0 rfl ?_
    refine gC_X5_21 C dX5_partAll_4 ?_
    refine gC_X5_25 C dX5_partAll_7 ?_
    refine at_icmp_ge (tgt := 54) C dX5_partAll_10 (by decide) (fun hc => ?_) (fun hc => ?_)
    · replace h := h.1 hc
      exact ret _ _ _ dX5_partAll_54 h
    · replace h := h.2 hc
      refine at_aload_n C dX5_partAll_13 0 rfl ?_
      refine gC_X5_21 C dX5_partAll_14 ?_
      refine gC_X5_38 C dX5_partAll_17 ?_
      refine at_iload_n C dX5_partAll_20 1 rfl ?_
      obtain ⟨hi, h⟩ := h
      refine rC_8 C hi dX5_partAll_21 ?_
      refine at_if_eq (tgt := 43) C dX5_partAll_22 (by decide) (fun hc => ?_) (fun hc => ?_)
      · replace h := h.1 hc
        refine at_aload_n C dX5_partAll_43 0 rfl ?_
        refine at_iload_n C dX5_partAll_44 1 rfl ?_
        refine at_callVv C (kX5_part l D ad T hI _ _ _ h) ok_X5_part m_X5_42 mi_X5_part ml_X5_part (wC_g32 T ad _) rfl ⟨rfl, rfl, Nat.le_of_ble_eq_true rfl, Nat.le_of_ble_eq_true rfl⟩ rfl rfl (Nat.le_of_ble_eq_true rfl) dX5_partAll_45 (fun s1 h => ?_)
        exact t48 R2 hR2 _ _ h
      · replace h := h.2 hc
        refine at_aload_n C dX5_partAll_25 0 rfl ?_
        refine gC_X5_15 C dX5_partAll_26 ?_
        refine at_iload_n C dX5_partAll_29 1 rfl ?_
        refine at_dup2 C dX5_partAll_30 rfl rfl ?_
        obtain ⟨hi, h⟩ := h
        refine rC_34 C hi dX5_partAll_31 ?_
        refine at_aload_n C dX5_partAll_32 0 rfl ?_
        refine gC_X5_9 C dX5_partAll_33 ?_
        refine at_iload_n C dX5_partAll_36 1 rfl ?_
        obtain ⟨hi, h⟩ := h
        refine rC_33 C hi dX5_partAll_37 ?_
        refine at_iadd C dX5_partAll_38 ?_
        obtain ⟨hi, h⟩ := h
        refine sC_34 C hD hi dX5_partAll_39 (fun s3 es3 => ?_)
        replace h := h s3 es3
        refine at_goto (tgt := 48) C dX5_partAll_40 (by decide) ?_
        exact t48 R2 hR2 _ _ h
  have t2 : ∀ (n : Nat) (v1 : Int32) (σ : St), qX5_partAll_l2  Q n v1 σ → At X 2 (wC T ad σ) 2 [(0, .ref (ad 32)), (1, .int v1)] [] := by
    intro  n
    induction n with
    | zero => intro v1 σ h; exact False.elim h
    | succ n ih => intro v1 σ h; exact tb2 (qX5_partAll_l2  Q n) ih v1 σ h
  unfold pX5_partAll at h
  refine at_iconst (v := 0) C dX5_partAll_0 (by decide) ?_
  refine at_istore_n (lv' := [(0, .ref (ad 32)), (1, .int 0)]) C dX5_partAll_1 (by decide) [1, 0] rfl ?_
  obtain ⟨n, h⟩ := h
  exact t2  n _ _ h
def qX5_numberUnder_36 (R4 : Int32 → Int32 → Int32 → St → Prop) (Q : Int32 → St → Prop) (v1 : Int32) (v2 : Int32) (v3 : Int32) (σ : St) : Prop := ∀ x4 : Int32, x4 = v3 + 1 → R4 v1 v2 x4 σ
def qX5_numberUnder_4 (R4 : Int32 → Int32 → Int32 → St → Prop) (Q : Int32 → St → Prop) (v1 : Int32) (v2 : Int32) (v3 : Int32) (σ : St) : Prop := (((σ 4 4) ≤ v3 → (Q v2 σ)) ∧ (¬ (σ 4 4) ≤ v3 → (pX1_isLeafUnder v3 v1 σ (fun r2 s1 => ((r2 = 0 → (qX5_numberUnder_36 R4 Q v1 v2 v3 s1)) ∧ (¬ r2 = 0 → (vp_in v3 20 ∧ ∀ x3 : Int32, x3 = (v2 + (s1 34 (Int32.toNatClampNeg v3))) → (qX5_numberUnder_36 R4 Q v1 x3 v3 s1))))))))
def qX5_numberUnder_l4  (Q : Int32 → St → Prop) : Nat → Int32 → Int32 → Int32 → St → Prop
  | 0 => fun _ _ _ _ => False
  | n + 1 => qX5_numberUnder_4 (qX5_numberUnder_l4  Q n) Q
def pX5_numberUnder (v1 : Int32) (σ : St) (Q : Int32 → St → Prop) : Prop := (∃ n, qX5_numberUnder_l4  Q n v1 0 0 σ)
set_option maxRecDepth 100000 in
set_option maxHeartbeats 4000000 in
theorem kX5_numberUnder (l : Launch) (D : va_G) (ad : Nat → Nat) (T : TT) (hI : injA 40 ad) (v1 : Int32) (σ : St) (Q : Int32 → St → Prop) (h : pX5_numberUnder v1 σ Q) : Ki (KC l D ad T) (wC T ad) yX5_numberUnder cX5_numberUnder 4 (some .int) { frames := 2, cells := 0, slots := 0, locals := 44 } [.ref (ad 32), .int v1] (wC T ad σ) Q := by
  refine st_MI (fr := 2) (lo := 44) (by decide) ⟨rfl, rfl⟩ rfl (Nat.le_of_ble_eq_true rfl) rfl (fun X C hD ret => ?_)
  replace hD : ∀ σ, DX X (wC T ad σ) := fun σ => hD _ (wC_D hI T σ)
  have t36 : ∀ (R4 : Int32 → Int32 → Int32 → St → Prop) (hR4 : ∀ (v1 : Int32) (v2 : Int32) (v3 : Int32) (σ : St), R4 v1 v2 v3 σ → At X 4 (wC T ad σ) 4 [(0, .ref (ad 32)), (1, .int v1), (2, .int v2), (3, .int v3)] []) (v1 : Int32) (v2 : Int32) (v3 : Int32) (σ : St), qX5_numberUnder_36 R4 Q v1 v2 v3 σ → At X 4 (wC T ad σ) 36 [(0, .ref (ad 32)), (1, .int v1), (2, .int v2), (3, .int v3)] [] := by
    intro R4 hR4 v1 v2 v3 σ h
    unfold qX5_numberUnder_36 at h
    obtain ⟨x4, ex4⟩ : ∃ y : Int32, y = v3 + 1 := ⟨_, rfl⟩
    replace h := h x4 ex4
    refine at_iinc (v := x4) (lv' := [(0, .ref (ad 32)), (1, .int v1), (2, .int v2), (3, .int x4)]) C dX5_numberUnder_36 3 rfl (by rw [ex4]; rfl) (by decide) [1, 2, 3, 0] rfl ?_
    refine at_goto (tgt := 4) C dX5_numberUnder_39 (by decide) ?_
    exact hR4 _ _ _ _ h
  have tb4 : ∀ (R4 : Int32 → Int32 → Int32 → St → Prop) (hR4 : ∀ (v1 : Int32) (v2 : Int32) (v3 : Int32) (σ : St), R4 v1 v2 v3 σ → At X 4 (wC T ad σ) 4 [(0, .ref (ad 32)), (1, .int v1), (2, .int v2), (3, .int v3)] []) (v1 : Int32) (v2 : Int32) (v3 : Int32) (σ : St), qX5_numberUnder_4 R4 Q v1 v2 v3 σ → At X 4 (wC T ad σ) 4 [(0, .ref (ad 32)), (1, .int v1), (2, .int v2), (3, .int v3)] [] := by
    intro R4 hR4 v1 v2 v3 σ h
    unfold qX5_numberUnder_4 at h
    refine at_iload_n C dX5_numberUnder_4 3 rfl ?_
    refine at_aload_n C dX5_numberUnder_5 0 rfl ?_
    refine gC_X5_21 C dX5_numberUnder_6 ?_
    refine gC_X5_25 C dX5_numberUnder_9 ?_
    refine at_icmp_ge (tgt := 42) C dX5_numberUnder_12 (by decide) (fun hc => ?_) (fun hc => ?_)
    · replace h := h.1 hc
      refine at_iload_n C dX5_numberUnder_42 2 rfl ?_
      exact ret _ _ _ _ dX5_numberUnder_43 h
    · replace h := h.2 hc
      refine at_aload_n C dX5_numberUnder_15 0 rfl ?_
      refine gC_X5_21 C dX5_numberUnder_16 ?_
      refine at_iload_n C dX5_numberUnder_19 3 rfl ?_
      refine at_iload_n C dX5_numberUnder_20 1 rfl ?_
      refine at_callVNi C (kX1_isLeafUnder l D ad T hI _ _ _ _ h) ok_X1_isLeafUnder m_X5_35 mi_X1_isLeafUnder ml_X1_isLeafUnder (wC_g4 T ad _) rfl ⟨rfl, rfl, Nat.le_of_ble_eq_true rfl, Nat.le_of_ble_eq_true rfl⟩ rfl rfl (Nat.le_of_ble_eq_true rfl) dX5_numberUnder_21 (fun r2 s1 h => ?_)
      refine at_if_eq (tgt := 36) C dX5_numberUnder_24 (by decide) (fun hc => ?_) (fun hc => ?_)
      · replace h := h.1 hc
        exact t36 R4 hR4 _ _ _ _ h
      · replace h := h.2 hc
        refine at_iload_n C dX5_numberUnder_27 2 rfl ?_
        refine at_aload_n C dX5_numberUnder_28 0 rfl ?_
        refine gC_X5_15 C dX5_numberUnder_29 ?_
        refine at_iload_n C dX5_numberUnder_32 3 rfl ?_
        obtain ⟨hi, h⟩ := h
        refine rC_34 C hi dX5_numberUnder_33 ?_
        refine at_iadd C dX5_numberUnder_34 ?_
        refine at_topi (fun x3 ex3 => ?_)
        replace h := h x3 ex3
        refine at_istore_n (lv' := [(0, .ref (ad 32)), (1, .int v1), (2, .int x3), (3, .int v3)]) C dX5_numberUnder_35 (by decide) [1, 2, 0, 3] rfl ?_
        exact t36 R4 hR4 _ _ _ _ h
  have t4 : ∀ (n : Nat) (v1 : Int32) (v2 : Int32) (v3 : Int32) (σ : St), qX5_numberUnder_l4  Q n v1 v2 v3 σ → At X 4 (wC T ad σ) 4 [(0, .ref (ad 32)), (1, .int v1), (2, .int v2), (3, .int v3)] [] := by
    intro  n
    induction n with
    | zero => intro v1 v2 v3 σ h; exact False.elim h
    | succ n ih => intro v1 v2 v3 σ h; exact tb4 (qX5_numberUnder_l4  Q n) ih v1 v2 v3 σ h
  unfold pX5_numberUnder at h
  refine at_iconst (v := 0) C dX5_numberUnder_0 (by decide) ?_
  refine at_istore_n (lv' := [(0, .ref (ad 32)), (1, .int v1), (2, .int 0)]) C dX5_numberUnder_1 (by decide) [1, 2, 0] rfl ?_
  refine at_iconst (v := 0) C dX5_numberUnder_2 (by decide) ?_
  refine at_istore_n (lv' := [(0, .ref (ad 32)), (1, .int v1), (2, .int 0), (3, .int 0)]) C dX5_numberUnder_3 (by decide) [1, 2, 3, 0] rfl ?_
  obtain ⟨n, h⟩ := h
  exact t4  n _ _ _ _ h
def pX2_has (v1 : Int32) (σ : St) (Q : Int32 → St → Prop) : Prop := ((v1 < 0 → (Q 0 σ)) ∧ (¬ v1 < 0 → (((σ 12 5) ≤ v1 → (Q 0 σ)) ∧ (¬ (σ 12 5) ≤ v1 → (Q 1 σ)))))
set_option maxRecDepth 100000 in
set_option maxHeartbeats 4000000 in
theorem kX2_has (l : Launch) (D : va_G) (ad : Nat → Nat) (T : TT) (hI : injA 40 ad) (v1 : Int32) (σ : St) (Q : Int32 → St → Prop) (h : pX2_has v1 σ Q) : Ki (KC l D ad T) (wC T ad) yX2_has cX2_has 2 (some .boolean) { frames := 0, cells := 0, slots := 0, locals := 0 } [.ref (ad 12), .int v1] (wC T ad σ) Q := by
  refine st_MZ (fr := 0) (lo := 0) (by decide) ⟨rfl, rfl⟩ rfl (Nat.le_of_ble_eq_true rfl) rfl (fun X C hD ret => ?_)
  replace hD : ∀ σ, DX X (wC T ad σ) := fun σ => hD _ (wC_D hI T σ)
  unfold pX2_has at h
  refine at_iload_n C dX2_has_0 1 rfl ?_
  refine at_if_lt (tgt := 16) C dX2_has_1 (by decide) (fun hc => ?_) (fun hc => ?_)
  · replace h := h.1 hc
    refine at_iconst (v := 0) C dX2_has_16 (by decide) ?_
    exact ret _ _ _ _ dX2_has_17 rfl h
  · replace h := h.2 hc
    refine at_iload_n C dX2_has_4 1 rfl ?_
    refine at_aload_n C dX2_has_5 0 rfl ?_
    refine gC_X2_27 C dX2_has_6 ?_
    refine at_icmp_ge (tgt := 16) C dX2_has_9 (by decide) (fun hc => ?_) (fun hc => ?_)
    · replace h := h.1 hc
      refine at_iconst (v := 0) C dX2_has_16 (by decide) ?_
      exact ret _ _ _ _ dX2_has_17 rfl h
    · replace h := h.2 hc
      refine at_iconst (v := 1) C dX2_has_12 (by decide) ?_
      refine at_goto (tgt := 17) C dX2_has_13 (by decide) ?_
      exact ret _ _ _ _ dX2_has_17 rfl h
