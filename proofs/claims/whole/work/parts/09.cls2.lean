theorem m_X0_49 : Cond.fieldLink RX0 49 RX0 "log" "LHawkRidge$Log;" ∈ gW := gW_in 244 (by decide +kernel) (by decide +kernel)
theorem gC_X0_49 {X : XT} {l : Launch} {D : va_G} {ad : Nat → Nat} {T : TT} {cc : ByteArray} {nL fr lo : Nat} {σ : St} {pc : Nat} {lv : List (Nat × Value)} {st : List Value} (C : Cx X (KC l D ad T) cc RX0 nL fr lo) (d : decode cc pc = .ok (.getfield 49, 3)) (kk : At X nL (wC T ad σ) (pc + 3) lv (.ref (ad 12) :: st)) : At X nL (wC T ad σ) pc lv (.ref (ad 18) :: st) := at_get C ingX0 (ci := 0) rfl 18 (wC_g18 T ad σ) 2 (by decide) m_X0_49 rfl rfl d kk
theorem m_X0_53 : Cond.fieldLinkNest RX0 53 RX2 "shown" "I" "HawkRidge" ∈ nW := nW_in 185 (by decide +kernel) (by decide +kernel)
theorem gC_X0_53 {X : XT} {l : Launch} {D : va_G} {ad : Nat → Nat} {T : TT} {cc : ByteArray} {nL fr lo : Nat} {σ : St} {pc : Nat} {lv : List (Nat × Value)} {st : List Value} (C : Cx X (KC l D ad T) cc RX0 nL fr lo) (d : decode cc pc = .ok (.getfield 53, 3)) (kk : At X nL (wC T ad σ) (pc + 3) lv (.int (σ 12 6) :: st)) : At X nL (wC T ad σ) pc lv (.ref (ad 12) :: st) := at_getN C ingX2 (ci := 2) rfl 12 (wC_g12 T ad σ) 6 (by decide) m_X0_53 rfl rfl d kk
theorem m_X2_9 : Cond.fieldLink RX2 9 RX2 "dateOf" "[I" ∈ gW := gW_in 169 (by decide +kernel) (by decide +kernel)
theorem gC_X2_9 {X : XT} {l : Launch} {D : va_G} {ad : Nat → Nat} {T : TT} {cc : ByteArray} {nL fr lo : Nat} {σ : St} {pc : Nat} {lv : List (Nat × Value)} {st : List Value} (C : Cx X (KC l D ad T) cc RX2 nL fr lo) (d : decode cc pc = .ok (.getfield 9, 3)) (kk : At X nL (wC T ad σ) (pc + 3) lv (.ref (ad 13) :: st)) : At X nL (wC T ad σ) pc lv (.ref (ad 12) :: st) := at_get C ingX2 (ci := 2) rfl 12 (wC_g12 T ad σ) 0 (by decide) m_X2_9 rfl rfl d kk
def pX2_isIn (v1 : Int32) (v2 : Int32) (σ : St) (Q : Int32 → St → Prop) : Prop := (vp_in v1 300 ∧ ((¬ ((σ 13 (Int32.toNatClampNeg v1)) / 30) = v2 → (Q 0 σ)) ∧ (((σ 13 (Int32.toNatClampNeg v1)) / 30) = v2 → (Q 1 σ))))
set_option maxRecDepth 100000 in
set_option maxHeartbeats 4000000 in
theorem kX2_isIn (l : Launch) (D : va_G) (ad : Nat → Nat) (T : TT) (hI : injA 40 ad) (v1 : Int32) (v2 : Int32) (σ : St) (Q : Int32 → St → Prop) (h : pX2_isIn v1 v2 σ Q) : Ki (KC l D ad T) (wC T ad) yX2_isIn cX2_isIn 3 (some .boolean) { frames := 0, cells := 0, slots := 0, locals := 0 } [.ref (ad 12), .int v1, .int v2] (wC T ad σ) Q := by
  refine st_MZ (fr := 0) (lo := 0) (by decide) ⟨rfl, rfl⟩ rfl (Nat.le_of_ble_eq_true rfl) rfl (fun X C hD ret => ?_)
  replace hD : ∀ σ, DX X (wC T ad σ) := fun σ => hD _ (wC_D hI T σ)
  unfold pX2_isIn at h
  refine at_aload_n C dX2_isIn_0 0 rfl ?_
  refine gC_X2_9 C dX2_isIn_1 ?_
  refine at_iload_n C dX2_isIn_4 1 rfl ?_
  obtain ⟨hi, h⟩ := h
  refine rC_13 C hi dX2_isIn_5 ?_
  refine at_bipush (v := 30) C dX2_isIn_6 (by decide) ?_
  refine at_idiv C dX2_isIn_8 (by decide) ?_
  refine at_iload_n C dX2_isIn_9 2 rfl ?_
  refine at_icmp_ne (tgt := 17) C dX2_isIn_10 (by decide) (fun hc => ?_) (fun hc => ?_)
  · replace h := h.1 hc
    refine at_iconst (v := 0) C dX2_isIn_17 (by decide) ?_
    exact ret _ _ _ _ dX2_isIn_18 rfl h
  · replace h := h.2 hc
    refine at_iconst (v := 1) C dX2_isIn_13 (by decide) ?_
    refine at_goto (tgt := 18) C dX2_isIn_14 (by decide) ?_
    exact ret _ _ _ _ dX2_isIn_18 rfl h
theorem m_X0_59 : Cond.methodLinkNest RX0 59 yX2_isIn "HawkRidge" ∈ nW := nW_in 542 (by decide +kernel) (by decide +kernel)
theorem mc_X2_isIn : Cond.code yX2_isIn cX2_isIn 3 (some .boolean) ∈ gW := gW_in 545 (by decide +kernel) (by decide +kernel)
theorem mz_RX2 : Cond.initialized RX2 ∈ gW := gW_in 86 (by decide +kernel) (by decide +kernel)
theorem ok_X2_isIn : okM yX2_isIn cX2_isIn 3 (some .boolean) 2 := ⟨mc_X2_isIn, mz_RX2, by decide +kernel⟩
theorem mi_X2_isIn : Cond.instanceMethod yX2_isIn ∈ gW := gW_in 544 (by decide +kernel) (by decide +kernel)
theorem ml_X2_isIn : Cond.selects RX2 yX2_isIn yX2_isIn ∈ gW := gW_in 33 (by decide +kernel) (by decide +kernel)
theorem m_X0_63 : Cond.fieldLinkNest RX0 63 RX2 "dateOf" "[I" "HawkRidge" ∈ nW := nW_in 170 (by decide +kernel) (by decide +kernel)
theorem gC_X0_63 {X : XT} {l : Launch} {D : va_G} {ad : Nat → Nat} {T : TT} {cc : ByteArray} {nL fr lo : Nat} {σ : St} {pc : Nat} {lv : List (Nat × Value)} {st : List Value} (C : Cx X (KC l D ad T) cc RX0 nL fr lo) (d : decode cc pc = .ok (.getfield 63, 3)) (kk : At X nL (wC T ad σ) (pc + 3) lv (.ref (ad 13) :: st)) : At X nL (wC T ad σ) pc lv (.ref (ad 12) :: st) := at_getN C ingX2 (ci := 2) rfl 12 (wC_g12 T ad σ) 0 (by decide) m_X0_63 rfl rfl d kk
theorem m_X0_18 : Cond.fieldLink RX0 18 RX0 "isPaired" "[Z" ∈ gW := gW_in 246 (by decide +kernel) (by decide +kernel)
theorem gC_X0_18 {X : XT} {l : Launch} {D : va_G} {ad : Nat → Nat} {T : TT} {cc : ByteArray} {nL fr lo : Nat} {σ : St} {pc : Nat} {lv : List (Nat × Value)} {st : List Value} (C : Cx X (KC l D ad T) cc RX0 nL fr lo) (d : decode cc pc = .ok (.getfield 18, 3)) (kk : At X nL (wC T ad σ) (pc + 3) lv (.ref (ad 19) :: st)) : At X nL (wC T ad σ) pc lv (.ref (ad 18) :: st) := at_get C ingX0 (ci := 0) rfl 18 (wC_g18 T ad σ) 4 (by decide) m_X0_18 rfl rfl d kk
theorem m_X0_22 : Cond.fieldLink RX0 22 RX0 "above" "[I" ∈ gW := gW_in 247 (by decide +kernel) (by decide +kernel)
theorem gC_X0_22 {X : XT} {l : Launch} {D : va_G} {ad : Nat → Nat} {T : TT} {cc : ByteArray} {nL fr lo : Nat} {σ : St} {pc : Nat} {lv : List (Nat × Value)} {st : List Value} (C : Cx X (KC l D ad T) cc RX0 nL fr lo) (d : decode cc pc = .ok (.getfield 22, 3)) (kk : At X nL (wC T ad σ) (pc + 3) lv (.ref (ad 20) :: st)) : At X nL (wC T ad σ) pc lv (.ref (ad 18) :: st) := at_get C ingX0 (ci := 0) rfl 18 (wC_g18 T ad σ) 5 (by decide) m_X0_22 rfl rfl d kk
theorem m_X0_26 : Cond.fieldLink RX0 26 RX0 "below" "[I" ∈ gW := gW_in 249 (by decide +kernel) (by decide +kernel)
theorem gC_X0_26 {X : XT} {l : Launch} {D : va_G} {ad : Nat → Nat} {T : TT} {cc : ByteArray} {nL fr lo : Nat} {σ : St} {pc : Nat} {lv : List (Nat × Value)} {st : List Value} (C : Cx X (KC l D ad T) cc RX0 nL fr lo) (d : decode cc pc = .ok (.getfield 26, 3)) (kk : At X nL (wC T ad σ) (pc + 3) lv (.ref (ad 21) :: st)) : At X nL (wC T ad σ) pc lv (.ref (ad 18) :: st) := at_get C ingX0 (ci := 0) rfl 18 (wC_g18 T ad σ) 6 (by decide) m_X0_26 rfl rfl d kk
theorem m_X0_41 : Cond.fieldLink RX0 41 RX0 "ridge" "LHawkRidge$Ridge;" ∈ gW := gW_in 242 (by decide +kernel) (by decide +kernel)
theorem gC_X0_41 {X : XT} {l : Launch} {D : va_G} {ad : Nat → Nat} {T : TT} {cc : ByteArray} {nL fr lo : Nat} {σ : St} {pc : Nat} {lv : List (Nat × Value)} {st : List Value} (C : Cx X (KC l D ad T) cc RX0 nL fr lo) (d : decode cc pc = .ok (.getfield 41, 3)) (kk : At X nL (wC T ad σ) (pc + 3) lv (.ref (ad 2) :: st)) : At X nL (wC T ad σ) pc lv (.ref (ad 18) :: st) := at_get C ingX0 (ci := 0) rfl 18 (wC_g18 T ad σ) 0 (by decide) m_X0_41 rfl rfl d kk
theorem m_X0_70 : Cond.fieldLinkNest RX0 70 RX6 "size" "I" "HawkRidge" ∈ nW := nW_in 114 (by decide +kernel) (by decide +kernel)
theorem gC_X0_70 {X : XT} {l : Launch} {D : va_G} {ad : Nat → Nat} {T : TT} {cc : ByteArray} {nL fr lo : Nat} {σ : St} {pc : Nat} {lv : List (Nat × Value)} {st : List Value} (C : Cx X (KC l D ad T) cc RX0 nL fr lo) (d : decode cc pc = .ok (.getfield 70, 3)) (kk : At X nL (wC T ad σ) (pc + 3) lv (.int (σ 2 1) :: st)) : At X nL (wC T ad σ) pc lv (.ref (ad 2) :: st) := at_getN C ingX6 (ci := 6) rfl 2 (wC_g2 T ad σ) 1 (by decide) m_X0_70 rfl rfl d kk
theorem m_X0_35 : Cond.fieldLink RX0 35 RX0 "here" "[I" ∈ gW := gW_in 253 (by decide +kernel) (by decide +kernel)
theorem gC_X0_35 {X : XT} {l : Launch} {D : va_G} {ad : Nat → Nat} {T : TT} {cc : ByteArray} {nL fr lo : Nat} {σ : St} {pc : Nat} {lv : List (Nat × Value)} {st : List Value} (C : Cx X (KC l D ad T) cc RX0 nL fr lo) (d : decode cc pc = .ok (.getfield 35, 3)) (kk : At X nL (wC T ad σ) (pc + 3) lv (.ref (ad 24) :: st)) : At X nL (wC T ad σ) pc lv (.ref (ad 18) :: st) := at_get C ingX0 (ci := 0) rfl 18 (wC_g18 T ad σ) 9 (by decide) m_X0_35 rfl rfl d kk
theorem m_X2_31 : Cond.fieldLink RX2 31 RX2 "shown" "I" ∈ gW := gW_in 184 (by decide +kernel) (by decide +kernel)
theorem gC_X2_31 {X : XT} {l : Launch} {D : va_G} {ad : Nat → Nat} {T : TT} {cc : ByteArray} {nL fr lo : Nat} {σ : St} {pc : Nat} {lv : List (Nat × Value)} {st : List Value} (C : Cx X (KC l D ad T) cc RX2 nL fr lo) (d : decode cc pc = .ok (.getfield 31, 3)) (kk : At X nL (wC T ad σ) (pc + 3) lv (.int (σ 12 6) :: st)) : At X nL (wC T ad σ) pc lv (.ref (ad 12) :: st) := at_get C ingX2 (ci := 2) rfl 12 (wC_g12 T ad σ) 6 (by decide) m_X2_31 rfl rfl d kk
theorem m_X2_18 : Cond.fieldLink RX2 18 RX2 "postOf" "[I" ∈ gW := gW_in 175 (by decide +kernel) (by decide +kernel)
theorem gC_X2_18 {X : XT} {l : Launch} {D : va_G} {ad : Nat → Nat} {T : TT} {cc : ByteArray} {nL fr lo : Nat} {σ : St} {pc : Nat} {lv : List (Nat × Value)} {st : List Value} (C : Cx X (KC l D ad T) cc RX2 nL fr lo) (d : decode cc pc = .ok (.getfield 18, 3)) (kk : At X nL (wC T ad σ) (pc + 3) lv (.ref (ad 15) :: st)) : At X nL (wC T ad σ) pc lv (.ref (ad 12) :: st) := at_get C ingX2 (ci := 2) rfl 12 (wC_g12 T ad σ) 2 (by decide) m_X2_18 rfl rfl d kk
def qX2_gather_a24_53 (R6 : Int32 → Int32 → Int32 → Int32 → St → Prop) (Q : Int32 → St → Prop) (v1 : Int32) (v2 : Int32) (v4 : Int32) (v5 : Int32) (σ : St) : Prop := ∀ x3 : Int32, x3 = v5 + 1 → R6 v1 v2 v4 x3 σ
def qX2_gather_a24_6 (R6 : Int32 → Int32 → Int32 → Int32 → St → Prop) (Q : Int32 → St → Prop) (v1 : Int32) (v2 : Int32) (v4 : Int32) (v5 : Int32) (σ : St) : Prop := (((σ 12 6) ≤ v5 → (Q v4 σ)) ∧ (¬ (σ 12 6) ≤ v5 → (vp_in v5 300 ∧ ((¬ (σ 13 (Int32.toNatClampNeg v5)) = v1 → (qX2_gather_a24_53 R6 Q v1 v2 v4 v5 σ)) ∧ ((σ 13 (Int32.toNatClampNeg v5)) = v1 → (vp_in v5 300 ∧ ((¬ (σ 15 (Int32.toNatClampNeg v5)) = v2 → (qX2_gather_a24_53 R6 Q v1 v2 v4 v5 σ)) ∧ ((σ 15 (Int32.toNatClampNeg v5)) = v2 → ((12 ≤ v4 → (qX2_gather_a24_53 R6 Q v1 v2 v4 v5 σ)) ∧ (¬ 12 ≤ v4 → (vp_in v4 12 ∧ ∀ s1 : St, s1 = (st_up σ 24 (Int32.toNatClampNeg v4) v5) → ∀ x2 : Int32, x2 = v4 + 1 → (qX2_gather_a24_53 R6 Q v1 v2 x2 v5 s1))))))))))))
def qX2_gather_a24_l6  (Q : Int32 → St → Prop) : Nat → Int32 → Int32 → Int32 → Int32 → St → Prop
  | 0 => fun _ _ _ _ _ => False
  | n + 1 => qX2_gather_a24_6 (qX2_gather_a24_l6  Q n) Q
def pX2_gather_a24 (v1 : Int32) (v2 : Int32) (σ : St) (Q : Int32 → St → Prop) : Prop := (∃ n, qX2_gather_a24_l6  Q n v1 v2 0 0 σ)
set_option maxRecDepth 100000 in
set_option maxHeartbeats 4000000 in
theorem kX2_gather_a24 (l : Launch) (D : va_G) (ad : Nat → Nat) (T : TT) (hI : injA 40 ad) (v1 : Int32) (v2 : Int32) (σ : St) (Q : Int32 → St → Prop) (h : pX2_gather_a24 v1 v2 σ Q) : Ki (KC l D ad T) (wC T ad) yX2_gather cX2_gather 6 (some .int) { frames := 0, cells := 0, slots := 0, locals := 0 } [.ref (ad 12), .int v1, .int v2, .ref (ad 24)] (wC T ad σ) Q := by
  refine st_MI (fr := 0) (lo := 0) (by decide) ⟨rfl, rfl⟩ rfl (Nat.le_of_ble_eq_true rfl) rfl (fun X C hD ret => ?_)
  replace hD : ∀ σ, DX X (wC T ad σ) := fun σ => hD _ (wC_D hI T σ)
  have t53 : ∀ (R6 : Int32 → Int32 → Int32 → Int32 → St → Prop) (hR6 : ∀ (v1 : Int32) (v2 : Int32) (v4 : Int32) (v5 : Int32) (σ : St), R6 v1 v2 v4 v5 σ → At X 6 (wC T ad σ) 6 [(0, .ref (ad 12)), (1, .int v1), (2, .int v2), (3, .ref (ad 24)), (4, .int v4), (5, .int v5)] []) (v1 : Int32) (v2 : Int32) (v4 : Int32) (v5 : Int32) (σ : St), qX2_gather_a24_53 R6 Q v1 v2 v4 v5 σ → At X 6 (wC T ad σ) 53 [(0, .ref (ad 12)), (1, .int v1), (2, .int v2), (3, .ref (ad 24)), (4, .int v4), (5, .int v5)] [] := by
    intro R6 hR6 v1 v2 v4 v5 σ h
    unfold qX2_gather_a24_53 at h
    obtain ⟨x3, ex3⟩ : ∃ y : Int32, y = v5 + 1 := ⟨_, rfl⟩
    replace h := h x3 ex3
    refine at_iinc (v := x3) (lv' := [(0, .ref (ad 12)), (1, .int v1), (2, .int v2), (3, .ref (ad 24)), (4, .int v4), (5, .int x3)]) C dX2_gather_53 5 rfl (by rw [ex3]; rfl) (by decide) [1, 2, 3, 4, 5, 0] rfl ?_
    refine at_goto (tgt := 6) C dX2_gather_56 (by decide) ?_
    exact hR6 _ _ _ _ _ h
  have tb6 : ∀ (R6 : Int32 → Int32 → Int32 → Int32 → St → Prop) (hR6 : ∀ (v1 : Int32) (v2 : Int32) (v4 : Int32) (v5 : Int32) (σ : St), R6 v1 v2 v4 v5 σ → At X 6 (wC T ad σ) 6 [(0, .ref (ad 12)), (1, .int v1), (2, .int v2), (3, .ref (ad 24)), (4, .int v4), (5, .int v5)] []) (v1 : Int32) (v2 : Int32) (v4 : Int32) (v5 : Int32) (σ : St), qX2_gather_a24_6 R6 Q v1 v2 v4 v5 σ → At X 6 (wC T ad σ) 6 [(0, .ref (ad 12)), (1, .int v1), (2, .int v2), (3, .ref (ad 24)), (4, .int v4), (5, .int v5)] [] := by
    intro R6 hR6 v1 v2 v4 v5 σ h
    unfold qX2_gather_a24_6 at h
    refine at_iload C dX2_gather_6 5 rfl ?_
    refine at_aload_n C dX2_gather_8 0 rfl ?_
    refine gC_X2_31 C dX2_gather_9 ?_
    refine at_icmp_ge (tgt := 59) C dX2_gather_12 (by decide) (fun hc => ?_) (fun hc => ?_)
    · replace h := h.1 hc
      refine at_iload C dX2_gather_59 4 rfl ?_
      exact ret _ _ _ _ dX2_gather_61 h
    · replace h := h.2 hc
      refine at_aload_n C dX2_gather_15 0 rfl ?_
      refine gC_X2_9 C dX2_gather_16 ?_
      refine at_iload C dX2_gather_19 5 rfl ?_
      obtain ⟨hi, h⟩ := h
      refine rC_13 C hi dX2_gather_21 ?_
      refine at_iload_n C dX2_gather_22 1 rfl ?_
      refine at_icmp_ne (tgt := 53) C dX2_gather_23 (by decide) (fun hc => ?_) (fun hc => ?_)
      · replace h := h.1 hc
        exact t53 R6 hR6 _ _ _ _ _ h
      · replace h := h.2 hc
        refine at_aload_n C dX2_gather_26 0 rfl ?_
        refine gC_X2_18 C dX2_gather_27 ?_
        refine at_iload C dX2_gather_30 5 rfl ?_
        obtain ⟨hi, h⟩ := h
        refine rC_15 C hi dX2_gather_32 ?_
        refine at_iload_n C dX2_gather_33 2 rfl ?_
        refine at_icmp_ne (tgt := 53) C dX2_gather_34 (by decide) (fun hc => ?_) (fun hc => ?_)
        · replace h := h.1 hc
          exact t53 R6 hR6 _ _ _ _ _ h
        · replace h := h.2 hc
          refine at_iload C dX2_gather_37 4 rfl ?_
          refine at_aload_n C dX2_gather_39 3 rfl ?_
          refine at_aleni (v := 12) C 24 (wC_g24 T ad _) (by decide) dX2_gather_40 ?_
          refine at_icmp_ge (tgt := 53) C dX2_gather_41 (by decide) (fun hc => ?_) (fun hc => ?_)
          · replace h := h.1 hc
            exact t53 R6 hR6 _ _ _ _ _ h
          · replace h := h.2 hc
            refine at_aload_n C dX2_gather_44 3 rfl ?_
            refine at_iload C dX2_gather_45 4 rfl ?_
            refine at_iload C dX2_gather_47 5 rfl ?_
            obtain ⟨hi, h⟩ := h
            refine sC_24 C hD hi dX2_gather_49 (fun s1 es1 => ?_)
            replace h := h s1 es1
            obtain ⟨x2, ex2⟩ : ∃ y : Int32, y = v4 + 1 := ⟨_, rfl⟩
            replace h := h x2 ex2
            refine at_iinc (v := x2) (lv' := [(0, .ref (ad 12)), (1, .int v1), (2, .int v2), (3, .ref (ad 24)), (4, .int x2), (5, .int v5)]) C dX2_gather_50 4 rfl (by rw [ex2]; rfl) (by decide) [1, 2, 3, 4, 0, 5] rfl ?_
            exact t53 R6 hR6 _ _ _ _ _ h
  have t6 : ∀ (n : Nat) (v1 : Int32) (v2 : Int32) (v4 : Int32) (v5 : Int32) (σ : St), qX2_gather_a24_l6  Q n v1 v2 v4 v5 σ → At X 6 (wC T ad σ) 6 [(0, .ref (ad 12)), (1, .int v1), (2, .int v2), (3, .ref (ad 24)), (4, .int v4), (5, .int v5)] [] := by
    intro  n
    induction n with
    | zero => intro v1 v2 v4 v5 σ h; exact False.elim h
    | succ n ih => intro v1 v2 v4 v5 σ h; exact tb6 (qX2_gather_a24_l6  Q n) ih v1 v2 v4 v5 σ h
  unfold pX2_gather_a24 at h
  refine at_iconst (v := 0) C dX2_gather_0 (by decide) ?_
  refine at_istore (lv' := [(0, .ref (ad 12)), (1, .int v1), (2, .int v2), (3, .ref (ad 24)), (4, .int 0)]) C dX2_gather_1 (by decide) [1, 2, 3, 4, 0] rfl ?_
  refine at_iconst (v := 0) C dX2_gather_3 (by decide) ?_
  refine at_istore (lv' := [(0, .ref (ad 12)), (1, .int v1), (2, .int v2), (3, .ref (ad 24)), (4, .int 0), (5, .int 0)]) C dX2_gather_4 (by decide) [1, 2, 3, 4, 5, 0] rfl ?_
  obtain ⟨n, h⟩ := h
  exact t6  n _ _ _ _ _ h
theorem m_X0_82 : Cond.methodLinkNest RX0 82 yX2_gather "HawkRidge" ∈ nW := nW_in 458 (by decide +kernel) (by decide +kernel)
theorem mc_X2_gather : Cond.code yX2_gather cX2_gather 6 (some .int) ∈ gW := gW_in 461 (by decide +kernel) (by decide +kernel)
theorem ok_X2_gather : okM yX2_gather cX2_gather 6 (some .int) 3 := ⟨mc_X2_gather, mz_RX2, by decide +kernel⟩
theorem mi_X2_gather : Cond.instanceMethod yX2_gather ∈ gW := gW_in 460 (by decide +kernel) (by decide +kernel)
theorem ml_X2_gather : Cond.selects RX2 yX2_gather yX2_gather ∈ gW := gW_in 17 (by decide +kernel) (by decide +kernel)
theorem m_X0_38 : Cond.fieldLink RX0 38 RX0 "next" "[I" ∈ gW := gW_in 254 (by decide +kernel) (by decide +kernel)
theorem gC_X0_38 {X : XT} {l : Launch} {D : va_G} {ad : Nat → Nat} {T : TT} {cc : ByteArray} {nL fr lo : Nat} {σ : St} {pc : Nat} {lv : List (Nat × Value)} {st : List Value} (C : Cx X (KC l D ad T) cc RX0 nL fr lo) (d : decode cc pc = .ok (.getfield 38, 3)) (kk : At X nL (wC T ad σ) (pc + 3) lv (.ref (ad 25) :: st)) : At X nL (wC T ad σ) pc lv (.ref (ad 18) :: st) := at_get C ingX0 (ci := 0) rfl 18 (wC_g18 T ad σ) 10 (by decide) m_X0_38 rfl rfl d kk
def qX2_gather_a25_53 (R6 : Int32 → Int32 → Int32 → Int32 → St → Prop) (Q : Int32 → St → Prop) (v1 : Int32) (v2 : Int32) (v4 : Int32) (v5 : Int32) (σ : St) : Prop := ∀ x3 : Int32, x3 = v5 + 1 → R6 v1 v2 v4 x3 σ
def qX2_gather_a25_6 (R6 : Int32 → Int32 → Int32 → Int32 → St → Prop) (Q : Int32 → St → Prop) (v1 : Int32) (v2 : Int32) (v4 : Int32) (v5 : Int32) (σ : St) : Prop := (((σ 12 6) ≤ v5 → (Q v4 σ)) ∧ (¬ (σ 12 6) ≤ v5 → (vp_in v5 300 ∧ ((¬ (σ 13 (Int32.toNatClampNeg v5)) = v1 → (qX2_gather_a25_53 R6 Q v1 v2 v4 v5 σ)) ∧ ((σ 13 (Int32.toNatClampNeg v5)) = v1 → (vp_in v5 300 ∧ ((¬ (σ 15 (Int32.toNatClampNeg v5)) = v2 → (qX2_gather_a25_53 R6 Q v1 v2 v4 v5 σ)) ∧ ((σ 15 (Int32.toNatClampNeg v5)) = v2 → ((12 ≤ v4 → (qX2_gather_a25_53 R6 Q v1 v2 v4 v5 σ)) ∧ (¬ 12 ≤ v4 → (vp_in v4 12 ∧ ∀ s1 : St, s1 = (st_up σ 25 (Int32.toNatClampNeg v4) v5) → ∀ x2 : Int32, x2 = v4 + 1 → (qX2_gather_a25_53 R6 Q v1 v2 x2 v5 s1))))))))))))
def qX2_gather_a25_l6  (Q : Int32 → St → Prop) : Nat → Int32 → Int32 → Int32 → Int32 → St → Prop
  | 0 => fun _ _ _ _ _ => False
  | n + 1 => qX2_gather_a25_6 (qX2_gather_a25_l6  Q n) Q
def pX2_gather_a25 (v1 : Int32) (v2 : Int32) (σ : St) (Q : Int32 → St → Prop) : Prop := (∃ n, qX2_gather_a25_l6  Q n v1 v2 0 0 σ)
set_option maxRecDepth 100000 in
set_option maxHeartbeats 4000000 in
theorem kX2_gather_a25 (l : Launch) (D : va_G) (ad : Nat → Nat) (T : TT) (hI : injA 40 ad) (v1 : Int32) (v2 : Int32) (σ : St) (Q : Int32 → St → Prop) (h : pX2_gather_a25 v1 v2 σ Q) : Ki (KC l D ad T) (wC T ad) yX2_gather cX2_gather 6 (some .int) { frames := 0, cells := 0, slots := 0, locals := 0 } [.ref (ad 12), .int v1, .int v2, .ref (ad 25)] (wC T ad σ) Q := by
  refine st_MI (fr := 0) (lo := 0) (by decide) ⟨rfl, rfl⟩ rfl (Nat.le_of_ble_eq_true rfl) rfl (fun X C hD ret => ?_)
  replace hD : ∀ σ, DX X (wC T ad σ) := fun σ => hD _ (wC_D hI T σ)
  have t53 : ∀ (R6 : Int32 → Int32 → Int32 → Int32 → St → Prop) (hR6 : ∀ (v1 : Int32) (v2 : Int32) (v4 : Int32) (v5 : Int32) (σ : St), R6 v1 v2 v4 v5 σ → At X 6 (wC T ad σ) 6 [(0, .ref (ad 12)), (1, .int v1), (2, .int v2), (3, .ref (ad 25)), (4, .int v4), (5, .int v5)] []) (v1 : Int32) (v2 : Int32) (v4 : Int32) (v5 : Int32) (σ : St), qX2_gather_a25_53 R6 Q v1 v2 v4 v5 σ → At X 6 (wC T ad σ) 53 [(0, .ref (ad 12)), (1, .int v1), (2, .int v2), (3, .ref (ad 25)), (4, .int v4), (5, .int v5)] [] := by
    intro R6 hR6 v1 v2 v4 v5 σ h
    unfold qX2_gather_a25_53 at h
    obtain ⟨x3, ex3⟩ : ∃ y : Int32, y = v5 + 1 := ⟨_, rfl⟩
    replace h := h x3 ex3
    refine at_iinc (v := x3) (lv' := [(0, .ref (ad 12)), (1, .int v1), (2, .int v2), (3, .ref (ad 25)), (4, .int v4), (5, .int x3)]) C dX2_gather_53 5 rfl (by rw [ex3]; rfl) (by decide) [1, 2, 3, 4, 5, 0] rfl ?_
    refine at_goto (tgt := 6) C dX2_gather_56 (by decide) ?_
    exact hR6 _ _ _ _ _ h
  have tb6 : ∀ (R6 : Int32 → Int32 → Int32 → Int32 → St → Prop) (hR6 : ∀ (v1 : Int32) (v2 : Int32) (v4 : Int32) (v5 : Int32) (σ : St), R6 v1 v2 v4 v5 σ → At X 6 (wC T ad σ) 6 [(0, .ref (ad 12)), (1, .int v1), (2, .int v2), (3, .ref (ad 25)), (4, .int v4), (5, .int v5)] []) (v1 : Int32) (v2 : Int32) (v4 : Int32) (v5 : Int32) (σ : St), qX2_gather_a25_6 R6 Q v1 v2 v4 v5 σ → At X 6 (wC T ad σ) 6 [(0, .ref (ad 12)), (1, .int v1), (2, .int v2), (3, .ref (ad 25)), (4, .int v4), (5, .int v5)] [] := by
    intro R6 hR6 v1 v2 v4 v5 σ h
    unfold qX2_gather_a25_6 at h
    refine at_iload C dX2_gather_6 5 rfl ?_
    refine at_aload_n C dX2_gather_8 0 rfl ?_
    refine gC_X2_31 C dX2_gather_9 ?_
    refine at_icmp_ge (tgt := 59) C dX2_gather_12 (by decide) (fun hc => ?_) (fun hc => ?_)
    · replace h := h.1 hc
      refine at_iload C dX2_gather_59 4 rfl ?_
      exact ret _ _ _ _ dX2_gather_61 h
    · replace h := h.2 hc
      refine at_aload_n C dX2_gather_15 0 rfl ?_
      refine gC_X2_9 C dX2_gather_16 ?_
      refine at_iload C dX2_gather_19 5 rfl ?_
      obtain ⟨hi, h⟩ := h
      refine rC_13 C hi dX2_gather_21 ?_
      refine at_iload_n C dX2_gather_22 1 rfl ?_
      refine at_icmp_ne (tgt := 53) C dX2_gather_23 (by decide) (fun hc => ?_) (fun hc => ?_)
      · replace h := h.1 hc
        exact t53 R6 hR6 _ _ _ _ _ h
      · replace h := h.2 hc
        refine at_aload_n C dX2_gather_26 0 rfl ?_
        refine gC_X2_18 C dX2_gather_27 ?_
        refine at_iload C dX2_gather_30 5 rfl ?_
        obtain ⟨hi, h⟩ := h
        refine rC_15 C hi dX2_gather_32 ?_
        refine at_iload_n C dX2_gather_33 2 rfl ?_
        refine at_icmp_ne (tgt := 53) C dX2_gather_34 (by decide) (fun hc => ?_) (fun hc => ?_)
        · replace h := h.1 hc
          exact t53 R6 hR6 _ _ _ _ _ h
        · replace h := h.2 hc
          refine at_iload C dX2_gather_37 4 rfl ?_
          refine at_aload_n C dX2_gather_39 3 rfl ?_
          refine at_aleni (v := 12) C 25 (wC_g25 T ad _) (by decide) dX2_gather_40 ?_
          refine at_icmp_ge (tgt := 53) C dX2_gather_41 (by decide) (fun hc => ?_) (fun hc => ?_)
          · replace h := h.1 hc
            exact t53 R6 hR6 _ _ _ _ _ h
          · replace h := h.2 hc
            refine at_aload_n C dX2_gather_44 3 rfl ?_
            refine at_iload C dX2_gather_45 4 rfl ?_
            refine at_iload C dX2_gather_47 5 rfl ?_
            obtain ⟨hi, h⟩ := h
            refine sC_25 C hD hi dX2_gather_49 (fun s1 es1 => ?_)
            replace h := h s1 es1
            obtain ⟨x2, ex2⟩ : ∃ y : Int32, y = v4 + 1 := ⟨_, rfl⟩
            replace h := h x2 ex2
            refine at_iinc (v := x2) (lv' := [(0, .ref (ad 12)), (1, .int v1), (2, .int v2), (3, .ref (ad 25)), (4, .int x2), (5, .int v5)]) C dX2_gather_50 4 rfl (by rw [ex2]; rfl) (by decide) [1, 2, 3, 4, 0, 5] rfl ?_
            exact t53 R6 hR6 _ _ _ _ _ h
  have t6 : ∀ (n : Nat) (v1 : Int32) (v2 : Int32) (v4 : Int32) (v5 : Int32) (σ : St), qX2_gather_a25_l6  Q n v1 v2 v4 v5 σ → At X 6 (wC T ad σ) 6 [(0, .ref (ad 12)), (1, .int v1), (2, .int v2), (3, .ref (ad 25)), (4, .int v4), (5, .int v5)] [] := by
    intro  n
    induction n with
    | zero => intro v1 v2 v4 v5 σ h; exact False.elim h
    | succ n ih => intro v1 v2 v4 v5 σ h; exact tb6 (qX2_gather_a25_l6  Q n) ih v1 v2 v4 v5 σ h
  unfold pX2_gather_a25 at h
  refine at_iconst (v := 0) C dX2_gather_0 (by decide) ?_
  refine at_istore (lv' := [(0, .ref (ad 12)), (1, .int v1), (2, .int v2), (3, .ref (ad 25)), (4, .int 0)]) C dX2_gather_1 (by decide) [1, 2, 3, 4, 0] rfl ?_
  refine at_iconst (v := 0) C dX2_gather_3 (by decide) ?_
  refine at_istore (lv' := [(0, .ref (ad 12)), (1, .int v1), (2, .int v2), (3, .ref (ad 25)), (4, .int 0), (5, .int 0)]) C dX2_gather_4 (by decide) [1, 2, 3, 4, 5, 0] rfl ?_
  obtain ⟨n, h⟩ := h
  exact t6  n _ _ _ _ _ h
def pX6_wayToNext (v1 : Int32) (σ : St) (Q : Int32 → St → Prop) : Prop := ((v1 < 0 → (Q 0 σ)) ∧ (¬ v1 < 0 → (((v1 + 1) < (σ 2 1) → (vp_in (v1 + 1) 4 ∧ (vp_in v1 4 ∧ (Q ((σ 3 (Int32.toNatClampNeg (v1 + 1))) - (σ 3 (Int32.toNatClampNeg v1))) σ)))) ∧ (¬ (v1 + 1) < (σ 2 1) → (Q 0 σ)))))
set_option maxRecDepth 100000 in
set_option maxHeartbeats 4000000 in
theorem kX6_wayToNext (l : Launch) (D : va_G) (ad : Nat → Nat) (T : TT) (hI : injA 40 ad) (v1 : Int32) (σ : St) (Q : Int32 → St → Prop) (h : pX6_wayToNext v1 σ Q) : Ki (KC l D ad T) (wC T ad) yX6_wayToNext cX6_wayToNext 2 (some .int) { frames := 0, cells := 0, slots := 0, locals := 0 } [.ref (ad 2), .int v1] (wC T ad σ) Q := by
  refine st_MI (fr := 0) (lo := 0) (by decide) ⟨rfl, rfl⟩ rfl (Nat.le_of_ble_eq_true rfl) rfl (fun X C hD ret => ?_)
  replace hD : ∀ σ, DX X (wC T ad σ) := fun σ => hD _ (wC_D hI T σ)
  unfold pX6_wayToNext at h
  refine at_iload_n C dX6_wayToNext_0 1 rfl ?_
  refine at_if_lt (tgt := 14) C dX6_wayToNext_1 (by decide) (fun hc => ?_) (fun hc => ?_)
  · replace h := h.1 hc
    refine at_iconst (v := 0) C dX6_wayToNext_14 (by decide) ?_
    exact ret _ _ _ _ dX6_wayToNext_15 h
  · replace h := h.2 hc
    refine at_iload_n C dX6_wayToNext_4 1 rfl ?_
    refine at_iconst (v := 1) C dX6_wayToNext_5 (by decide) ?_
    refine at_iadd C dX6_wayToNext_6 ?_
    refine at_aload_n C dX6_wayToNext_7 0 rfl ?_
    refine gC_X6_15 C dX6_wayToNext_8 ?_
    refine at_icmp_lt (tgt := 16) C dX6_wayToNext_11 (by decide) (fun hc => ?_) (fun hc => ?_)
    · replace h := h.1 hc
      refine at_aload_n C dX6_wayToNext_16 0 rfl ?_
      refine gC_X6_9 C dX6_wayToNext_17 ?_
      refine at_iload_n C dX6_wayToNext_20 1 rfl ?_
      refine at_iconst (v := 1) C dX6_wayToNext_21 (by decide) ?_
      refine at_iadd C dX6_wayToNext_22 ?_
      obtain ⟨hi, h⟩ := h
      refine rC_3 C hi dX6_wayToNext_23 ?_
      refine at_aload_n C dX6_wayToNext_24 0 rfl ?_
      refine gC_X6_9 C dX6_wayToNext_25 ?_
      refine at_iload_n C dX6_wayToNext_28 1 rfl ?_
      obtain ⟨hi, h⟩ := h
      refine rC_3 C hi dX6_wayToNext_29 ?_
      refine at_isub C dX6_wayToNext_30 ?_
      exact ret _ _ _ _ dX6_wayToNext_31 h
    · replace h := h.2 hc
      refine at_iconst (v := 0) C dX6_wayToNext_14 (by decide) ?_
      exact ret _ _ _ _ dX6_wayToNext_15 h
theorem m_X0_86 : Cond.methodLinkNest RX0 86 yX6_wayToNext "HawkRidge" ∈ nW := nW_in 462 (by decide +kernel) (by decide +kernel)
theorem mc_X6_wayToNext : Cond.code yX6_wayToNext cX6_wayToNext 2 (some .int) ∈ gW := gW_in 465 (by decide +kernel) (by decide +kernel)
theorem mz_RX6 : Cond.initialized RX6 ∈ gW := gW_in 83 (by decide +kernel) (by decide +kernel)
theorem ok_X6_wayToNext : okM yX6_wayToNext cX6_wayToNext 2 (some .int) 1 := ⟨mc_X6_wayToNext, mz_RX6, by decide +kernel⟩
theorem mi_X6_wayToNext : Cond.instanceMethod yX6_wayToNext ∈ gW := gW_in 464 (by decide +kernel) (by decide +kernel)
theorem ml_X6_wayToNext : Cond.selects RX6 yX6_wayToNext yX6_wayToNext ∈ gW := gW_in 18 (by decide +kernel) (by decide +kernel)
theorem m_X0_12 : Cond.fieldLink RX0 12 RX0 "matcher" "LHawkRidge$Matcher;" ∈ gW := gW_in 245 (by decide +kernel) (by decide +kernel)
theorem gC_X0_12 {X : XT} {l : Launch} {D : va_G} {ad : Nat → Nat} {T : TT} {cc : ByteArray} {nL fr lo : Nat} {σ : St} {pc : Nat} {lv : List (Nat × Value)} {st : List Value} (C : Cx X (KC l D ad T) cc RX0 nL fr lo) (d : decode cc pc = .ok (.getfield 12, 3)) (kk : At X nL (wC T ad σ) (pc + 3) lv (.ref (ad 26) :: st)) : At X nL (wC T ad σ) pc lv (.ref (ad 18) :: st) := at_get C ingX0 (ci := 0) rfl 18 (wC_g18 T ad σ) 3 (by decide) m_X0_12 rfl rfl d kk
theorem m_X0_90 : Cond.methodLinkNest RX0 90 yX3_start "HawkRidge" ∈ nW := nW_in 466 (by decide +kernel) (by decide +kernel)
theorem mc_X3_start : Cond.code yX3_start cX3_start 4 none ∈ gW := gW_in 469 (by decide +kernel) (by decide +kernel)
theorem ok_X3_start : okM yX3_start cX3_start 4 none 2 := ⟨mc_X3_start, mz_RX3, by decide +kernel⟩
theorem mi_X3_start : Cond.instanceMethod yX3_start ∈ gW := gW_in 468 (by decide +kernel) (by decide +kernel)
theorem ml_X3_start : Cond.selects RX3 yX3_start yX3_start ∈ gW := gW_in 19 (by decide +kernel) (by decide +kernel)
theorem m_X0_100 : Cond.methodLinkNest RX0 100 yX3_solve "HawkRidge" ∈ nW := nW_in 496 (by decide +kernel) (by decide +kernel)
theorem mc_X3_solve : Cond.code yX3_solve cX3_solve 3 none ∈ gW := gW_in 499 (by decide +kernel) (by decide +kernel)
theorem ok_X3_solve : okM yX3_solve cX3_solve 3 none 0 := ⟨mc_X3_solve, mz_RX3, by decide +kernel⟩
theorem mi_X3_solve : Cond.instanceMethod yX3_solve ∈ gW := gW_in 498 (by decide +kernel) (by decide +kernel)
theorem ml_X3_solve : Cond.selects RX3 yX3_solve yX3_solve ∈ gW := gW_in 25 (by decide +kernel) (by decide +kernel)
theorem m_X0_103 : Cond.fieldLinkNest RX0 103 RX3 "mate" "[I" "HawkRidge" ∈ nW := nW_in 215 (by decide +kernel) (by decide +kernel)
theorem gC_X0_103 {X : XT} {l : Launch} {D : va_G} {ad : Nat → Nat} {T : TT} {cc : ByteArray} {nL fr lo : Nat} {σ : St} {pc : Nat} {lv : List (Nat × Value)} {st : List Value} (C : Cx X (KC l D ad T) cc RX0 nL fr lo) (d : decode cc pc = .ok (.getfield 103, 3)) (kk : At X nL (wC T ad σ) (pc + 3) lv (.ref (ad 28) :: st)) : At X nL (wC T ad σ) pc lv (.ref (ad 26) :: st) := at_getN C ingX3 (ci := 3) rfl 26 (wC_g26 T ad σ) 1 (by decide) m_X0_103 rfl rfl d kk
theorem m_X0_45 : Cond.fieldLink RX0 45 RX0 "kinds" "LHawkRidge$KindTree;" ∈ gW := gW_in 243 (by decide +kernel) (by decide +kernel)
theorem gC_X0_45 {X : XT} {l : Launch} {D : va_G} {ad : Nat → Nat} {T : TT} {cc : ByteArray} {nL fr lo : Nat} {σ : St} {pc : Nat} {lv : List (Nat × Value)} {st : List Value} (C : Cx X (KC l D ad T) cc RX0 nL fr lo) (d : decode cc pc = .ok (.getfield 45, 3)) (kk : At X nL (wC T ad σ) (pc + 3) lv (.ref (ad 4) :: st)) : At X nL (wC T ad σ) pc lv (.ref (ad 18) :: st) := at_get C ingX0 (ci := 0) rfl 18 (wC_g18 T ad σ) 1 (by decide) m_X0_45 rfl rfl d kk
theorem m_X0_106 : Cond.fieldLinkNest RX0 106 RX2 "kindOf" "[I" "HawkRidge" ∈ nW := nW_in 178 (by decide +kernel) (by decide +kernel)
theorem gC_X0_106 {X : XT} {l : Launch} {D : va_G} {ad : Nat → Nat} {T : TT} {cc : ByteArray} {nL fr lo : Nat} {σ : St} {pc : Nat} {lv : List (Nat × Value)} {st : List Value} (C : Cx X (KC l D ad T) cc RX0 nL fr lo) (d : decode cc pc = .ok (.getfield 106, 3)) (kk : At X nL (wC T ad σ) (pc + 3) lv (.ref (ad 16) :: st)) : At X nL (wC T ad σ) pc lv (.ref (ad 12) :: st) := at_getN C ingX2 (ci := 2) rfl 12 (wC_g12 T ad σ) 3 (by decide) m_X0_106 rfl rfl d kk
def pX1_isUnder (v1 : Int32) (v2 : Int32) (σ : St) (Q : Int32 → St → Prop) : Prop := (vp_in v1 20 ∧ ((((σ 7 (Int32.toNatClampNeg v1)) &&& (1 <<< (v2 &&& 31))) = 0 → (Q 0 σ)) ∧ (¬ ((σ 7 (Int32.toNatClampNeg v1)) &&& (1 <<< (v2 &&& 31))) = 0 → (Q 1 σ))))
set_option maxRecDepth 100000 in
set_option maxHeartbeats 4000000 in
theorem kX1_isUnder (l : Launch) (D : va_G) (ad : Nat → Nat) (T : TT) (hI : injA 40 ad) (v1 : Int32) (v2 : Int32) (σ : St) (Q : Int32 → St → Prop) (h : pX1_isUnder v1 v2 σ Q) : Ki (KC l D ad T) (wC T ad) yX1_isUnder cX1_isUnder 3 (some .boolean) { frames := 0, cells := 0, slots := 0, locals := 0 } [.ref (ad 4), .int v1, .int v2] (wC T ad σ) Q := by
  refine st_MZ (fr := 0) (lo := 0) (by decide) ⟨rfl, rfl⟩ rfl (Nat.le_of_ble_eq_true rfl) rfl (fun X C hD ret => ?_)
  replace hD : ∀ σ, DX X (wC T ad σ) := fun σ => hD _ (wC_D hI T σ)
  unfold pX1_isUnder at h
  refine at_aload_n C dX1_isUnder_0 0 rfl ?_
  refine gC_X1_18 C dX1_isUnder_1 ?_
  refine at_iload_n C dX1_isUnder_4 1 rfl ?_
  obtain ⟨hi, h⟩ := h
  refine rC_7 C hi dX1_isUnder_5 ?_
  refine at_iconst (v := 1) C dX1_isUnder_6 (by decide) ?_
  refine at_iload_n C dX1_isUnder_7 2 rfl ?_
  refine at_ishl C dX1_isUnder_8 ?_
  refine at_iand C dX1_isUnder_9 ?_
  refine at_if_eq (tgt := 17) C dX1_isUnder_10 (by decide) (fun hc => ?_) (fun hc => ?_)
  · replace h := h.1 hc
    refine at_iconst (v := 0) C dX1_isUnder_17 (by decide) ?_
    exact ret _ _ _ _ dX1_isUnder_18 rfl h
  · replace h := h.2 hc
    refine at_iconst (v := 1) C dX1_isUnder_13 (by decide) ?_
    refine at_goto (tgt := 18) C dX1_isUnder_14 (by decide) ?_
    exact ret _ _ _ _ dX1_isUnder_18 rfl h
theorem m_X1_33 : Cond.methodLink RX1 33 yX1_isUnder ∈ gW := gW_in 484 (by decide +kernel) (by decide +kernel)
theorem mc_X1_isUnder : Cond.code yX1_isUnder cX1_isUnder 3 (some .boolean) ∈ gW := gW_in 487 (by decide +kernel) (by decide +kernel)
theorem ok_X1_isUnder : okM yX1_isUnder cX1_isUnder 3 (some .boolean) 2 := ⟨mc_X1_isUnder, mz_RX1, by decide +kernel⟩
theorem mi_X1_isUnder : Cond.instanceMethod yX1_isUnder ∈ gW := gW_in 486 (by decide +kernel) (by decide +kernel)
theorem ml_X1_isUnder : Cond.selects RX1 yX1_isUnder yX1_isUnder ∈ gW := gW_in 22 (by decide +kernel) (by decide +kernel)
def pX1_deeperOf (v1 : Int32) (v2 : Int32) (σ : St) (Q : Int32 → St → Prop) : Prop := (pX1_isUnder v1 v2 σ (fun r2 s1 => ((r2 = 0 → (pX1_isUnder v2 v1 s1 (fun r4 s3 => ((r4 = 0 → (Q (-1) s3)) ∧ (¬ r4 = 0 → (Q v2 s3)))))) ∧ (¬ r2 = 0 → (Q v1 s1)))))
set_option maxRecDepth 100000 in
set_option maxHeartbeats 4000000 in
theorem kX1_deeperOf (l : Launch) (D : va_G) (ad : Nat → Nat) (T : TT) (hI : injA 40 ad) (v1 : Int32) (v2 : Int32) (σ : St) (Q : Int32 → St → Prop) (h : pX1_deeperOf v1 v2 σ Q) : Ki (KC l D ad T) (wC T ad) yX1_deeperOf cX1_deeperOf 3 (some .int) { frames := 1, cells := 0, slots := 0, locals := 22 } [.ref (ad 4), .int v1, .int v2] (wC T ad σ) Q := by
  refine st_MI (fr := 1) (lo := 22) (by decide) ⟨rfl, rfl⟩ rfl (Nat.le_of_ble_eq_true rfl) rfl (fun X C hD ret => ?_)
  replace hD : ∀ σ, DX X (wC T ad σ) := fun σ => hD _ (wC_D hI T σ)
  unfold pX1_deeperOf at h
  refine at_aload_n C dX1_deeperOf_0 0 rfl ?_
  refine at_iload_n C dX1_deeperOf_1 1 rfl ?_
  refine at_iload_n C dX1_deeperOf_2 2 rfl ?_
  refine at_callVi C (kX1_isUnder l D ad T hI _ _ _ _ h) ok_X1_isUnder m_X1_33 mi_X1_isUnder ml_X1_isUnder (wC_g4 T ad _) rfl ⟨rfl, rfl, Nat.le_of_ble_eq_true rfl, Nat.le_of_ble_eq_true rfl⟩ rfl rfl (Nat.le_of_ble_eq_true rfl) dX1_deeperOf_3 (fun r2 s1 h => ?_)
  refine at_if_eq (tgt := 11) C dX1_deeperOf_6 (by decide) (fun hc => ?_) (fun hc => ?_)
  · replace h := h.1 hc
    refine at_aload_n C dX1_deeperOf_11 0 rfl ?_
    refine at_iload_n C dX1_deeperOf_12 2 rfl ?_
    refine at_iload_n C dX1_deeperOf_13 1 rfl ?_
    refine at_callVi C (kX1_isUnder l D ad T hI _ _ _ _ h) ok_X1_isUnder m_X1_33 mi_X1_isUnder ml_X1_isUnder (wC_g4 T ad _) rfl ⟨rfl, rfl, Nat.le_of_ble_eq_true rfl, Nat.le_of_ble_eq_true rfl⟩ rfl rfl (Nat.le_of_ble_eq_true rfl) dX1_deeperOf_14 (fun r4 s3 h => ?_)
    refine at_if_eq (tgt := 24) C dX1_deeperOf_17 (by decide) (fun hc => ?_) (fun hc => ?_)
    · replace h := h.1 hc
      refine at_iconst (v := (-1)) C dX1_deeperOf_24 (by decide) ?_
      exact ret _ _ _ _ dX1_deeperOf_25 h
    · replace h := h.2 hc
      refine at_iload_n C dX1_deeperOf_20 2 rfl ?_
      refine at_goto (tgt := 25) C dX1_deeperOf_21 (by decide) ?_
      exact ret _ _ _ _ dX1_deeperOf_25 h
  · replace h := h.2 hc
    refine at_iload_n C dX1_deeperOf_9 1 rfl ?_
    exact ret _ _ _ _ dX1_deeperOf_10 h
theorem m_X0_109 : Cond.methodLinkNest RX0 109 yX1_deeperOf "HawkRidge" ∈ nW := nW_in 480 (by decide +kernel) (by decide +kernel)
theorem mc_X1_deeperOf : Cond.code yX1_deeperOf cX1_deeperOf 3 (some .int) ∈ gW := gW_in 483 (by decide +kernel) (by decide +kernel)
theorem ok_X1_deeperOf : okM yX1_deeperOf cX1_deeperOf 3 (some .int) 2 := ⟨mc_X1_deeperOf, mz_RX1, by decide +kernel⟩
theorem mi_X1_deeperOf : Cond.instanceMethod yX1_deeperOf ∈ gW := gW_in 482 (by decide +kernel) (by decide +kernel)
theorem ml_X1_deeperOf : Cond.selects RX1 yX1_deeperOf yX1_deeperOf ∈ gW := gW_in 21 (by decide +kernel) (by decide +kernel)
theorem m_X0_115 : Cond.fieldLinkNest RX0 115 RX2 "minuteOf" "[I" "HawkRidge" ∈ nW := nW_in 173 (by decide +kernel) (by decide +kernel)
theorem gC_X0_115 {X : XT} {l : Launch} {D : va_G} {ad : Nat → Nat} {T : TT} {cc : ByteArray} {nL fr lo : Nat} {σ : St} {pc : Nat} {lv : List (Nat × Value)} {st : List Value} (C : Cx X (KC l D ad T) cc RX0 nL fr lo) (d : decode cc pc = .ok (.getfield 115, 3)) (kk : At X nL (wC T ad σ) (pc + 3) lv (.ref (ad 14) :: st)) : At X nL (wC T ad σ) pc lv (.ref (ad 12) :: st) := at_getN C ingX2 (ci := 2) rfl 12 (wC_g12 T ad σ) 1 (by decide) m_X0_115 rfl rfl d kk
def pX1_canFly (v1 : Int32) (v2 : Int32) (v3 : Int32) (σ : St) (Q : Int32 → St → Prop) : Prop := ∀ x1 : Int32, x1 = (v2 * 60) → ((v3 < 1 → (Q 0 σ)) ∧ (¬ v3 < 1 → (vp_in v1 20 ∧ ((x1 < ((σ 5 (Int32.toNatClampNeg v1)) * v3) → (Q 0 σ)) ∧ (¬ x1 < ((σ 5 (Int32.toNatClampNeg v1)) * v3) → (vp_in v1 20 ∧ ((((σ 6 (Int32.toNatClampNeg v1)) * v3) < x1 → (Q 0 σ)) ∧ (¬ ((σ 6 (Int32.toNatClampNeg v1)) * v3) < x1 → (Q 1 σ)))))))))
set_option maxRecDepth 100000 in
set_option maxHeartbeats 4000000 in
theorem kX1_canFly (l : Launch) (D : va_G) (ad : Nat → Nat) (T : TT) (hI : injA 40 ad) (v1 : Int32) (v2 : Int32) (v3 : Int32) (σ : St) (Q : Int32 → St → Prop) (h : pX1_canFly v1 v2 v3 σ Q) : Ki (KC l D ad T) (wC T ad) yX1_canFly cX1_canFly 5 (some .boolean) { frames := 0, cells := 0, slots := 0, locals := 0 } [.ref (ad 4), .int v1, .int v2, .int v3] (wC T ad σ) Q := by
  refine st_MZ (fr := 0) (lo := 0) (by decide) ⟨rfl, rfl⟩ rfl (Nat.le_of_ble_eq_true rfl) rfl (fun X C hD ret => ?_)
  replace hD : ∀ σ, DX X (wC T ad σ) := fun σ => hD _ (wC_D hI T σ)
  unfold pX1_canFly at h
  refine at_iload_n C dX1_canFly_0 2 rfl ?_
  refine at_bipush (v := 60) C dX1_canFly_1 (by decide) ?_
  refine at_imul C dX1_canFly_3 ?_
  refine at_topi (fun x1 ex1 => ?_)
  replace h := h x1 ex1
  refine at_istore (lv' := [(0, .ref (ad 4)), (1, .int v1), (2, .int v2), (3, .int v3), (4, .int x1)]) C dX1_canFly_4 (by decide) [1, 2, 3, 4, 0] rfl ?_
  refine at_iload_n C dX1_canFly_6 3 rfl ?_
  refine at_iconst (v := 1) C dX1_canFly_7 (by decide) ?_
  refine at_icmp_lt (tgt := 41) C dX1_canFly_8 (by decide) (fun hc => ?_) (fun hc => ?_)
  · replace h := h.1 hc
    refine at_iconst (v := 0) C dX1_canFly_41 (by decide) ?_
    exact ret _ _ _ _ dX1_canFly_42 rfl h
  · replace h := h.2 hc
    refine at_iload C dX1_canFly_11 4 rfl ?_
    refine at_aload_n C dX1_canFly_13 0 rfl ?_
    refine gC_X1_9 C dX1_canFly_14 ?_
    refine at_iload_n C dX1_canFly_17 1 rfl ?_
    obtain ⟨hi, h⟩ := h
    refine rC_5 C hi dX1_canFly_18 ?_
    refine at_iload_n C dX1_canFly_19 3 rfl ?_
    refine at_imul C dX1_canFly_20 ?_
    refine at_icmp_lt (tgt := 41) C dX1_canFly_21 (by decide) (fun hc => ?_) (fun hc => ?_)
    · replace h := h.1 hc
      refine at_iconst (v := 0) C dX1_canFly_41 (by decide) ?_
      exact ret _ _ _ _ dX1_canFly_42 rfl h
    · replace h := h.2 hc
      refine at_iload C dX1_canFly_24 4 rfl ?_
      refine at_aload_n C dX1_canFly_26 0 rfl ?_
      refine gC_X1_15 C dX1_canFly_27 ?_
      refine at_iload_n C dX1_canFly_30 1 rfl ?_
      obtain ⟨hi, h⟩ := h
      refine rC_6 C hi dX1_canFly_31 ?_
      refine at_iload_n C dX1_canFly_32 3 rfl ?_
      refine at_imul C dX1_canFly_33 ?_
      refine at_icmp_gt (tgt := 41) C dX1_canFly_34 (by decide) (fun hc => ?_) (fun hc => ?_)
      · replace h := h.1 hc
        refine at_iconst (v := 0) C dX1_canFly_41 (by decide) ?_
        exact ret _ _ _ _ dX1_canFly_42 rfl h
      · replace h := h.2 hc
        refine at_iconst (v := 1) C dX1_canFly_37 (by decide) ?_
        refine at_goto (tgt := 42) C dX1_canFly_38 (by decide) ?_
        exact ret _ _ _ _ dX1_canFly_42 rfl h
theorem m_X0_118 : Cond.methodLinkNest RX0 118 yX1_canFly "HawkRidge" ∈ nW := nW_in 488 (by decide +kernel) (by decide +kernel)
theorem mc_X1_canFly : Cond.code yX1_canFly cX1_canFly 5 (some .boolean) ∈ gW := gW_in 491 (by decide +kernel) (by decide +kernel)
theorem ok_X1_canFly : okM yX1_canFly cX1_canFly 5 (some .boolean) 3 := ⟨mc_X1_canFly, mz_RX1, by decide +kernel⟩
theorem mi_X1_canFly : Cond.instanceMethod yX1_canFly ∈ gW := gW_in 490 (by decide +kernel) (by decide +kernel)
theorem ml_X1_canFly : Cond.selects RX1 yX1_canFly yX1_canFly ∈ gW := gW_in 23 (by decide +kernel) (by decide +kernel)
def pX0_meet (v1 : Int32) (v2 : Int32) (v3 : Int32) (σ : St) (Q : Int32 → St → Prop) : Prop := (vp_in v1 300 ∧ (vp_in v2 300 ∧ (pX1_deeperOf (σ 16 (Int32.toNatClampNeg v1)) (σ 16 (Int32.toNatClampNeg v2)) σ (fun r2 s1 => ((r2 = (-1) → (Q 0 s1)) ∧ (¬ r2 = (-1) → (vp_in v2 300 ∧ (vp_in v1 300 ∧ (pX1_canFly r2 v3 ((s1 14 (Int32.toNatClampNeg v2)) - (s1 14 (Int32.toNatClampNeg v1))) s1 (fun r4 s3 => ((r4 = 0 → (Q 0 s3)) ∧ (¬ r4 = 0 → (Q 1 s3)))))))))))))
set_option maxRecDepth 100000 in
set_option maxHeartbeats 4000000 in
theorem kX0_meet (l : Launch) (D : va_G) (ad : Nat → Nat) (T : TT) (hI : injA 40 ad) (v1 : Int32) (v2 : Int32) (v3 : Int32) (σ : St) (Q : Int32 → St → Prop) (h : pX0_meet v1 v2 v3 σ Q) : Ki (KC l D ad T) (wC T ad) yX0_meet cX0_meet 5 (some .boolean) { frames := 2, cells := 0, slots := 0, locals := 44 } [.ref (ad 18), .int v1, .int v2, .int v3] (wC T ad σ) Q := by
  refine st_MZ (fr := 2) (lo := 44) (by decide) ⟨rfl, rfl⟩ rfl (Nat.le_of_ble_eq_true rfl) rfl (fun X C hD ret => ?_)
  replace hD : ∀ σ, DX X (wC T ad σ) := fun σ => hD _ (wC_D hI T σ)
  unfold pX0_meet at h
  refine at_aload_n C dX0_meet_0 0 rfl ?_
  refine gC_X0_45 C dX0_meet_1 ?_
  refine at_aload_n C dX0_meet_4 0 rfl ?_
  refine gC_X0_49 C dX0_meet_5 ?_
  refine gC_X0_106 C dX0_meet_8 ?_
  refine at_iload_n C dX0_meet_11 1 rfl ?_
  obtain ⟨hi, h⟩ := h
  refine rC_16 C hi dX0_meet_12 ?_
  refine at_aload_n C dX0_meet_13 0 rfl ?_
  refine gC_X0_49 C dX0_meet_14 ?_
  refine gC_X0_106 C dX0_meet_17 ?_
  refine at_iload_n C dX0_meet_20 2 rfl ?_
  obtain ⟨hi, h⟩ := h
  refine rC_16 C hi dX0_meet_21 ?_
  refine at_callVNi C (kX1_deeperOf l D ad T hI _ _ _ _ h) ok_X1_deeperOf m_X0_109 mi_X1_deeperOf ml_X1_deeperOf (wC_g4 T ad _) rfl ⟨rfl, rfl, Nat.le_of_ble_eq_true rfl, Nat.le_of_ble_eq_true rfl⟩ rfl rfl (Nat.le_of_ble_eq_true rfl) dX0_meet_22 (fun r2 s1 h => ?_)
  refine at_istore (lv' := [(0, .ref (ad 18)), (1, .int v1), (2, .int v2), (3, .int v3), (4, .int r2)]) C dX0_meet_25 (by decide) [1, 2, 3, 4, 0] rfl ?_
  refine at_iload C dX0_meet_27 4 rfl ?_
  refine at_iconst (v := (-1)) C dX0_meet_29 (by decide) ?_
  refine at_icmp_eq (tgt := 69) C dX0_meet_30 (by decide) (fun hc => ?_) (fun hc => ?_)
  · replace h := h.1 hc
    refine at_iconst (v := 0) C dX0_meet_69 (by decide) ?_
    exact ret _ _ _ _ dX0_meet_70 rfl h
  · replace h := h.2 hc
    refine at_aload_n C dX0_meet_33 0 rfl ?_
    refine gC_X0_45 C dX0_meet_34 ?_
    refine at_iload C dX0_meet_37 4 rfl ?_
    refine at_iload_n C dX0_meet_39 3 rfl ?_
    refine at_aload_n C dX0_meet_40 0 rfl ?_
    refine gC_X0_49 C dX0_meet_41 ?_
    refine gC_X0_115 C dX0_meet_44 ?_
    refine at_iload_n C dX0_meet_47 2 rfl ?_
    obtain ⟨hi, h⟩ := h
    refine rC_14 C hi dX0_meet_48 ?_
    refine at_aload_n C dX0_meet_49 0 rfl ?_
    refine gC_X0_49 C dX0_meet_50 ?_
    refine gC_X0_115 C dX0_meet_53 ?_
    refine at_iload_n C dX0_meet_56 1 rfl ?_
    obtain ⟨hi, h⟩ := h
    refine rC_14 C hi dX0_meet_57 ?_
    refine at_isub C dX0_meet_58 ?_
    refine at_callVNi C (kX1_canFly l D ad T hI _ _ _ _ _ h) ok_X1_canFly m_X0_118 mi_X1_canFly ml_X1_canFly (wC_g4 T ad _) rfl ⟨rfl, rfl, Nat.le_of_ble_eq_true rfl, Nat.le_of_ble_eq_true rfl⟩ rfl rfl (Nat.le_of_ble_eq_true rfl) dX0_meet_59 (fun r4 s3 h => ?_)
    refine at_if_eq (tgt := 69) C dX0_meet_62 (by decide) (fun hc => ?_) (fun hc => ?_)
    · replace h := h.1 hc
      refine at_iconst (v := 0) C dX0_meet_69 (by decide) ?_
      exact ret _ _ _ _ dX0_meet_70 rfl h
    · replace h := h.2 hc
      refine at_iconst (v := 1) C dX0_meet_65 (by decide) ?_
      refine at_goto (tgt := 70) C dX0_meet_66 (by decide) ?_
      exact ret _ _ _ _ dX0_meet_70 rfl h
theorem m_X0_93 : Cond.methodLink RX0 93 yX0_meet ∈ gW := gW_in 476 (by decide +kernel) (by decide +kernel)
theorem mc_X0_meet : Cond.code yX0_meet cX0_meet 5 (some .boolean) ∈ gW := gW_in 479 (by decide +kernel) (by decide +kernel)
theorem mz_RX0 : Cond.initialized RX0 ∈ gW := gW_in 87 (by decide +kernel) (by decide +kernel)
theorem ok_X0_meet : okM yX0_meet cX0_meet 5 (some .boolean) 3 := ⟨mc_X0_meet, mz_RX0, by decide +kernel⟩
theorem mi_X0_meet : Cond.instanceMethod yX0_meet ∈ gW := gW_in 478 (by decide +kernel) (by decide +kernel)
theorem ml_X0_meet : Cond.selects RX0 yX0_meet yX0_meet ∈ gW := gW_in 20 (by decide +kernel) (by decide +kernel)
theorem m_X0_97 : Cond.methodLinkNest RX0 97 yX3_allow "HawkRidge" ∈ nW := nW_in 492 (by decide +kernel) (by decide +kernel)
theorem mc_X3_allow : Cond.code yX3_allow cX3_allow 3 none ∈ gW := gW_in 495 (by decide +kernel) (by decide +kernel)
theorem ok_X3_allow : okM yX3_allow cX3_allow 3 none 2 := ⟨mc_X3_allow, mz_RX3, by decide +kernel⟩
theorem mi_X3_allow : Cond.instanceMethod yX3_allow ∈ gW := gW_in 494 (by decide +kernel) (by decide +kernel)
theorem ml_X3_allow : Cond.selects RX3 yX3_allow yX3_allow ∈ gW := gW_in 24 (by decide +kernel) (by decide +kernel)
def qX0_pairPosts_104 (R54 : Int32 → Int32 → Int32 → Int32 → St → Prop) (R63 : Int32 → Int32 → Int32 → Int32 → Int32 → St → Prop) (Q : St → Prop) (v3 : Int32) (v4 : Int32) (v5 : Int32) (v6 : Int32) (v7 : Int32) (σ : St) : Prop := ∀ x20 : Int32, x20 = v7 + 1 → R63 v3 v4 v5 v6 x20 σ
def qX0_pairPosts_63 (R54 : Int32 → Int32 → Int32 → Int32 → St → Prop) (R63 : Int32 → Int32 → Int32 → Int32 → Int32 → St → Prop) (Q : St → Prop) (v3 : Int32) (v4 : Int32) (v5 : Int32) (v6 : Int32) (v7 : Int32) (σ : St) : Prop := ((v4 ≤ v7 → ∀ x14 : Int32, x14 = v6 + 1 → R54 v3 v4 v5 x14 σ) ∧ (¬ v4 ≤ v7 → (vp_in v6 12 ∧ (vp_in v7 12 ∧ (pX0_meet (σ 24 (Int32.toNatClampNeg v6)) (σ 25 (Int32.toNatClampNeg v7)) v5 σ (fun r16 s15 => ((r16 = 0 → (qX0_pairPosts_104 R54 R63 Q v3 v4 v5 v6 v7 s15)) ∧ (¬ r16 = 0 → (pX3_allow v6 v7 s15 (fun s17 => (qX0_pairPosts_104 R54 R63 Q v3 v4 v5 v6 v7 s17)))))))))))
def qX0_pairPosts_l63 (R54 : Int32 → Int32 → Int32 → Int32 → St → Prop) (Q : St → Prop) : Nat → Int32 → Int32 → Int32 → Int32 → Int32 → St → Prop
  | 0 => fun _ _ _ _ _ _ => False
  | n + 1 => qX0_pairPosts_63 R54 (qX0_pairPosts_l63 R54 Q n) Q
def qX0_pairPosts_194 (R126 : Int32 → Int32 → Int32 → St → Prop) (Q : St → Prop) (v3 : Int32) (v4 : Int32) (v6 : Int32) (σ : St) : Prop := ∀ x19 : Int32, x19 = v6 + 1 → R126 v3 v4 x19 σ
def qX0_pairPosts_126 (R126 : Int32 → Int32 → Int32 → St → Prop) (Q : St → Prop) (v3 : Int32) (v4 : Int32) (v6 : Int32) (σ : St) : Prop := ((v3 ≤ v6 → (Q σ)) ∧ (¬ v3 ≤ v6 → (vp_in v6 12 ∧ ∀ x11 : Int32, x11 = (σ 28 (Int32.toNatClampNeg v6)) → ((x11 < 0 → (qX0_pairPosts_194 R126 Q v3 v4 v6 σ)) ∧ (¬ x11 < 0 → ((v4 ≤ x11 → (qX0_pairPosts_194 R126 Q v3 v4 v6 σ)) ∧ (¬ v4 ≤ x11 → (vp_in v6 12 ∧ (vp_in x11 12 ∧ (vp_in (σ 24 (Int32.toNatClampNeg v6)) 300 ∧ ∀ s12 : St, s12 = (st_up σ 20 (Int32.toNatClampNeg (σ 24 (Int32.toNatClampNeg v6))) (σ 25 (Int32.toNatClampNeg x11))) → (vp_in x11 12 ∧ (vp_in v6 12 ∧ (vp_in (s12 25 (Int32.toNatClampNeg x11)) 300 ∧ ∀ s13 : St, s13 = (st_up s12 21 (Int32.toNatClampNeg (s12 25 (Int32.toNatClampNeg x11))) (s12 24 (Int32.toNatClampNeg v6))) → (qX0_pairPosts_194 R126 Q v3 v4 v6 s13))))))))))))))
def qX0_pairPosts_l126  (Q : St → Prop) : Nat → Int32 → Int32 → Int32 → St → Prop
  | 0 => fun _ _ _ _ => False
  | n + 1 => qX0_pairPosts_126 (qX0_pairPosts_l126  Q n) Q
def qX0_pairPosts_54 (R54 : Int32 → Int32 → Int32 → Int32 → St → Prop) (Q : St → Prop) (v3 : Int32) (v4 : Int32) (v5 : Int32) (v6 : Int32) (σ : St) : Prop := ((v3 ≤ v6 → (pX3_solve σ (fun s9 => (∃ n, qX0_pairPosts_l126  Q n v3 v4 0 s9)))) ∧ (¬ v3 ≤ v6 → (∃ n, qX0_pairPosts_l63 R54 Q n v3 v4 v5 v6 0 σ)))
def qX0_pairPosts_l54  (Q : St → Prop) : Nat → Int32 → Int32 → Int32 → Int32 → St → Prop
  | 0 => fun _ _ _ _ _ => False
  | n + 1 => qX0_pairPosts_54 (qX0_pairPosts_l54  Q n) Q
def pX0_pairPosts (v1 : Int32) (v2 : Int32) (σ : St) (Q : St → Prop) : Prop := (pX2_gather_a24 v1 v2 σ (fun r2 s1 => (pX2_gather_a25 v1 (v2 + 1) s1 (fun r4 s3 => (pX6_wayToNext v2 s3 (fun r6 s5 => (pX3_start r2 r4 s5 (fun s7 => (∃ n, qX0_pairPosts_l54  Q n r2 r4 r6 0 s7)))))))))
set_option maxRecDepth 100000 in
set_option maxHeartbeats 4000000 in
theorem kX0_pairPosts (l : Launch) (D : va_G) (ad : Nat → Nat) (T : TT) (hI : injA 40 ad) (v1 : Int32) (v2 : Int32) (σ : St) (Q : St → Prop) (h : pX0_pairPosts v1 v2 σ Q) : Kv (KC l D ad T) (wC T ad) yX0_pairPosts cX0_pairPosts 8 none { frames := 17, cells := 0, slots := 0, locals := 409 } [.ref (ad 18), .int v1, .int v2] (wC T ad σ) Q := by
  refine st_MV (fr := 17) (lo := 409) (by decide) ⟨rfl, rfl⟩ rfl (Nat.le_of_ble_eq_true rfl) rfl (fun X C hD ret => ?_)
  replace hD : ∀ σ, DX X (wC T ad σ) := fun σ => hD _ (wC_D hI T σ)
  have t104 : ∀ (R54 : Int32 → Int32 → Int32 → Int32 → St → Prop) (hR54 : ∀ (v3 : Int32) (v4 : Int32) (v5 : Int32) (v6 : Int32) (σ : St), R54 v3 v4 v5 v6 σ → At X 8 (wC T ad σ) 54 [(0, .ref (ad 18)), (3, .int v3), (4, .int v4), (5, .int v5), (6, .int v6)] []) (R63 : Int32 → Int32 → Int32 → Int32 → Int32 → St → Prop) (hR63 : ∀ (v3 : Int32) (v4 : Int32) (v5 : Int32) (v6 : Int32) (v7 : Int32) (σ : St), R63 v3 v4 v5 v6 v7 σ → At X 8 (wC T ad σ) 63 [(0, .ref (ad 18)), (3, .int v3), (4, .int v4), (5, .int v5), (6, .int v6), (7, .int v7)] []) (v3 : Int32) (v4 : Int32) (v5 : Int32) (v6 : Int32) (v7 : Int32) (σ : St), qX0_pairPosts_104 R54 R63 Q v3 v4 v5 v6 v7 σ → At X 8 (wC T ad σ) 104 [(0, .ref (ad 18)), (3, .int v3), (4, .int v4), (5, .int v5), (6, .int v6), (7, .int v7)] [] := by
    intro R54 hR54 R63 hR63 v3 v4 v5 v6 v7 σ h
    unfold qX0_pairPosts_104 at h
    obtain ⟨x20, ex20⟩ : ∃ y : Int32, y = v7 + 1 := ⟨_, rfl⟩
    replace h := h x20 ex20
    refine at_iinc (v := x20) (lv' := [(0, .ref (ad 18)), (3, .int v3), (4, .int v4), (5, .int v5), (6, .int v6), (7, .int x20)]) C dX0_pairPosts_104 5 rfl (by rw [ex20]; rfl) (by decide) [1, 2, 3, 4, 5, 0] rfl ?_
    refine at_goto (tgt := 63) C dX0_pairPosts_107 (by decide) ?_
    exact hR63 _ _ _ _ _ _ h
  have tb63 : ∀ (R54 : Int32 → Int32 → Int32 → Int32 → St → Prop) (hR54 : ∀ (v3 : Int32) (v4 : Int32) (v5 : Int32) (v6 : Int32) (σ : St), R54 v3 v4 v5 v6 σ → At X 8 (wC T ad σ) 54 [(0, .ref (ad 18)), (3, .int v3), (4, .int v4), (5, .int v5), (6, .int v6)] []) (R63 : Int32 → Int32 → Int32 → Int32 → Int32 → St → Prop) (hR63 : ∀ (v3 : Int32) (v4 : Int32) (v5 : Int32) (v6 : Int32) (v7 : Int32) (σ : St), R63 v3 v4 v5 v6 v7 σ → At X 8 (wC T ad σ) 63 [(0, .ref (ad 18)), (3, .int v3), (4, .int v4), (5, .int v5), (6, .int v6), (7, .int v7)] []) (v3 : Int32) (v4 : Int32) (v5 : Int32) (v6 : Int32) (v7 : Int32) (σ : St), qX0_pairPosts_63 R54 R63 Q v3 v4 v5 v6 v7 σ → At X 8 (wC T ad σ) 63 [(0, .ref (ad 18)), (3, .int v3), (4, .int v4), (5, .int v5), (6, .int v6), (7, .int v7)] [] := by
    intro R54 hR54 R63 hR63 v3 v4 v5 v6 v7 σ h
    unfold qX0_pairPosts_63 at h
    refine at_iload C dX0_pairPosts_63 5 rfl ?_
    refine at_iload C dX0_pairPosts_65 2 rfl ?_
    refine at_icmp_ge (tgt := 110) C dX0_pairPosts_67 (by decide) (fun hc => ?_) (fun hc => ?_)
    · replace h := h.1 hc
      obtain ⟨x14, ex14⟩ : ∃ y : Int32, y = v6 + 1 := ⟨_, rfl⟩
      replace h := h x14 ex14
      refine at_iinc (v := x14) (lv' := [(0, .ref (ad 18)), (3, .int v3), (4, .int v4), (5, .int v5), (6, .int x14), (7, .int v7)]) C dX0_pairPosts_110 4 rfl (by rw [ex14]; rfl) (by decide) [1, 2, 3, 4, 0, 5] rfl ?_
      refine at_goto (tgt := 54) C dX0_pairPosts_113 (by decide) ?_
      refine at_sub [0, 1, 2, 3, 4] rfl ?_
      exact hR54 _ _ _ _ _ h
    · replace h := h.2 hc
      refine at_aload_n C dX0_pairPosts_70 0 rfl ?_
      refine at_aload_n C dX0_pairPosts_71 0 rfl ?_
      refine gC_X0_35 C dX0_pairPosts_72 ?_
      refine at_iload C dX0_pairPosts_75 4 rfl ?_
      obtain ⟨hi, h⟩ := h
      refine rC_24 C hi dX0_pairPosts_77 ?_
      refine at_aload_n C dX0_pairPosts_78 0 rfl ?_
      refine gC_X0_38 C dX0_pairPosts_79 ?_
      refine at_iload C dX0_pairPosts_82 5 rfl ?_
      obtain ⟨hi, h⟩ := h
      refine rC_25 C hi dX0_pairPosts_84 ?_
      refine at_iload C dX0_pairPosts_85 3 rfl ?_
      refine at_callVi C (kX0_meet l D ad T hI _ _ _ _ _ h) ok_X0_meet m_X0_93 mi_X0_meet ml_X0_meet (wC_g18 T ad _) rfl ⟨rfl, rfl, Nat.le_of_ble_eq_true rfl, Nat.le_of_ble_eq_true rfl⟩ rfl rfl (Nat.le_of_ble_eq_true rfl) dX0_pairPosts_87 (fun r16 s15 h => ?_)
      refine at_if_eq (tgt := 104) C dX0_pairPosts_90 (by decide) (fun hc => ?_) (fun hc => ?_)
      · replace h := h.1 hc
        exact t104 R54 hR54 R63 hR63 _ _ _ _ _ _ h
      · replace h := h.2 hc
        refine at_aload_n C dX0_pairPosts_93 0 rfl ?_
        refine gC_X0_12 C dX0_pairPosts_94 ?_
        refine at_iload C dX0_pairPosts_97 4 rfl ?_
        refine at_iload C dX0_pairPosts_99 5 rfl ?_
        refine at_callVNv C (kX3_allow l D ad T hI _ _ _ _ h) ok_X3_allow m_X0_97 mi_X3_allow ml_X3_allow (wC_g26 T ad _) rfl ⟨rfl, rfl, Nat.le_of_ble_eq_true rfl, Nat.le_of_ble_eq_true rfl⟩ rfl rfl (Nat.le_of_ble_eq_true rfl) dX0_pairPosts_101 (fun s17 h => ?_)
        exact t104 R54 hR54 R63 hR63 _ _ _ _ _ _ h
  have t63 : ∀ (R54 : Int32 → Int32 → Int32 → Int32 → St → Prop) (hR54 : ∀ (v3 : Int32) (v4 : Int32) (v5 : Int32) (v6 : Int32) (σ : St), R54 v3 v4 v5 v6 σ → At X 8 (wC T ad σ) 54 [(0, .ref (ad 18)), (3, .int v3), (4, .int v4), (5, .int v5), (6, .int v6)] []) (n : Nat) (v3 : Int32) (v4 : Int32) (v5 : Int32) (v6 : Int32) (v7 : Int32) (σ : St), qX0_pairPosts_l63 R54 Q n v3 v4 v5 v6 v7 σ → At X 8 (wC T ad σ) 63 [(0, .ref (ad 18)), (3, .int v3), (4, .int v4), (5, .int v5), (6, .int v6), (7, .int v7)] [] := by
    intro R54 hR54 n
    induction n with
    | zero => intro v3 v4 v5 v6 v7 σ h; exact False.elim h
    | succ n ih => intro v3 v4 v5 v6 v7 σ h; exact tb63 R54 hR54 (qX0_pairPosts_l63 R54 Q n) ih v3 v4 v5 v6 v7 σ h
  have t194 : ∀ (R126 : Int32 → Int32 → Int32 → St → Prop) (hR126 : ∀ (v3 : Int32) (v4 : Int32) (v6 : Int32) (σ : St), R126 v3 v4 v6 σ → At X 8 (wC T ad σ) 126 [(0, .ref (ad 18)), (3, .int v3), (4, .int v4), (6, .int v6)] []) (v3 : Int32) (v4 : Int32) (v6 : Int32) (σ : St), qX0_pairPosts_194 R126 Q v3 v4 v6 σ → At X 8 (wC T ad σ) 194 [(0, .ref (ad 18)), (3, .int v3), (4, .int v4), (6, .int v6)] [] := by
    intro R126 hR126 v3 v4 v6 σ h
    unfold qX0_pairPosts_194 at h
    obtain ⟨x19, ex19⟩ : ∃ y : Int32, y = v6 + 1 := ⟨_, rfl⟩
    replace h := h x19 ex19
    refine at_iinc (v := x19) (lv' := [(0, .ref (ad 18)), (3, .int v3), (4, .int v4), (6, .int x19)]) C dX0_pairPosts_194 3 rfl (by rw [ex19]; rfl) (by decide) [1, 2, 3, 0] rfl ?_
    refine at_goto (tgt := 126) C dX0_pairPosts_197 (by decide) ?_
    exact hR126 _ _ _ _ h
  have tb126 : ∀ (R126 : Int32 → Int32 → Int32 → St → Prop) (hR126 : ∀ (v3 : Int32) (v4 : Int32) (v6 : Int32) (σ : St), R126 v3 v4 v6 σ → At X 8 (wC T ad σ) 126 [(0, .ref (ad 18)), (3, .int v3), (4, .int v4), (6, .int v6)] []) (v3 : Int32) (v4 : Int32) (v6 : Int32) (σ : St), qX0_pairPosts_126 R126 Q v3 v4 v6 σ → At X 8 (wC T ad σ) 126 [(0, .ref (ad 18)), (3, .int v3), (4, .int v4), (6, .int v6)] [] := by
    intro R126 hR126 v3 v4 v6 σ h
    unfold qX0_pairPosts_126 at h
    refine at_iload C dX0_pairPosts_126 3 rfl ?_
    refine at_iload_n C dX0_pairPosts_128 1 rfl ?_
    refine at_icmp_ge (tgt := 200) C dX0_pairPosts_129 (by decide) (fun hc => ?_) (fun hc => ?_)
    · replace h := h.1 hc
      exact ret _ _ _ dX0_pairPosts_200 h
    · replace h := h.2 hc
      refine at_aload_n C dX0_pairPosts_132 0 rfl ?_
      refine gC_X0_12 C dX0_pairPosts_133 ?_
      refine gC_X0_103 C dX0_pairPosts_136 ?_
      refine at_iload C dX0_pairPosts_139 3 rfl ?_
      obtain ⟨hi, h⟩ := h
      refine rC_28 C hi dX0_pairPosts_141 ?_
      refine at_topi (fun x11 ex11 => ?_)
      replace h := h x11 ex11
      refine at_istore (lv' := [(0, .ref (ad 18)), (3, .int v3), (4, .int v4), (6, .int v6), (7, .int x11)]) C dX0_pairPosts_142 (by decide) [1, 2, 3, 4, 0] rfl ?_
      refine at_iload C dX0_pairPosts_144 4 rfl ?_
      refine at_if_lt (tgt := 194) C dX0_pairPosts_146 (by decide) (fun hc => ?_) (fun hc => ?_)
      · replace h := h.1 hc
        refine at_sub [0, 1, 2, 3] rfl ?_
        exact t194 R126 hR126 _ _ _ _ h
      · replace h := h.2 hc
        refine at_iload C dX0_pairPosts_149 4 rfl ?_
        refine at_iload C dX0_pairPosts_151 2 rfl ?_
        refine at_icmp_ge (tgt := 194) C dX0_pairPosts_153 (by decide) (fun hc => ?_) (fun hc => ?_)
        · replace h := h.1 hc
          refine at_sub [0, 1, 2, 3] rfl ?_
          exact t194 R126 hR126 _ _ _ _ h
        · replace h := h.2 hc
          refine at_aload_n C dX0_pairPosts_156 0 rfl ?_
          refine gC_X0_22 C dX0_pairPosts_157 ?_
          refine at_aload_n C dX0_pairPosts_160 0 rfl ?_
          refine gC_X0_35 C dX0_pairPosts_161 ?_
          refine at_iload C dX0_pairPosts_164 3 rfl ?_
          obtain ⟨hi, h⟩ := h
          refine rC_24 C hi dX0_pairPosts_166 ?_
          refine at_aload_n C dX0_pairPosts_167 0 rfl ?_
          refine gC_X0_38 C dX0_pairPosts_168 ?_
          refine at_iload C dX0_pairPosts_171 4 rfl ?_
          obtain ⟨hi, h⟩ := h
          refine rC_25 C hi dX0_pairPosts_173 ?_
          obtain ⟨hi, h⟩ := h
          refine sC_20 C hD hi dX0_pairPosts_174 (fun s12 es12 => ?_)
          replace h := h s12 es12
          refine at_aload_n C dX0_pairPosts_175 0 rfl ?_
          refine gC_X0_26 C dX0_pairPosts_176 ?_
          refine at_aload_n C dX0_pairPosts_179 0 rfl ?_
          refine gC_X0_38 C dX0_pairPosts_180 ?_
          refine at_iload C dX0_pairPosts_183 4 rfl ?_
          obtain ⟨hi, h⟩ := h
          refine rC_25 C hi dX0_pairPosts_185 ?_
          refine at_aload_n C dX0_pairPosts_186 0 rfl ?_
          refine gC_X0_35 C dX0_pairPosts_187 ?_
          refine at_iload C dX0_pairPosts_190 3 rfl ?_
          obtain ⟨hi, h⟩ := h
          refine rC_24 C hi dX0_pairPosts_192 ?_
          obtain ⟨hi, h⟩ := h
          refine sC_21 C hD hi dX0_pairPosts_193 (fun s13 es13 => ?_)
          replace h := h s13 es13
          refine at_sub [0, 1, 2, 3] rfl ?_
          exact t194 R126 hR126 _ _ _ _ h
  have t126 : ∀ (n : Nat) (v3 : Int32) (v4 : Int32) (v6 : Int32) (σ : St), qX0_pairPosts_l126  Q n v3 v4 v6 σ → At X 8 (wC T ad σ) 126 [(0, .ref (ad 18)), (3, .int v3), (4, .int v4), (6, .int v6)] [] := by
    intro  n
    induction n with
    | zero => intro v3 v4 v6 σ h; exact False.elim h
    | succ n ih => intro v3 v4 v6 σ h; exact tb126 (qX0_pairPosts_l126  Q n) ih v3 v4 v6 σ h
  have tb54 : ∀ (R54 : Int32 → Int32 → Int32 → Int32 → St → Prop) (hR54 : ∀ (v3 : Int32) (v4 : Int32) (v5 : Int32) (v6 : Int32) (σ : St), R54 v3 v4 v5 v6 σ → At X 8 (wC T ad σ) 54 [(0, .ref (ad 18)), (3, .int v3), (4, .int v4), (5, .int v5), (6, .int v6)] []) (v3 : Int32) (v4 : Int32) (v5 : Int32) (v6 : Int32) (σ : St), qX0_pairPosts_54 R54 Q v3 v4 v5 v6 σ → At X 8 (wC T ad σ) 54 [(0, .ref (ad 18)), (3, .int v3), (4, .int v4), (5, .int v5), (6, .int v6)] [] := by
    intro R54 hR54 v3 v4 v5 v6 σ h
    unfold qX0_pairPosts_54 at h
    refine at_iload C dX0_pairPosts_54 4 rfl ?_
    refine at_iload_n C dX0_pairPosts_56 1 rfl ?_
    refine at_icmp_ge (tgt := 116) C dX0_pairPosts_57 (by decide) (fun hc => ?_) (fun hc => ?_)
    · replace h := h.1 hc
      refine at_aload_n C dX0_pairPosts_116 0 rfl ?_
      refine gC_X0_12 C dX0_pairPosts_117 ?_
      refine at_callVNv C (kX3_solve l D ad T hI  _ _ h) ok_X3_solve m_X0_100 mi_X3_solve ml_X3_solve (wC_g26 T ad _) rfl ⟨rfl, rfl, Nat.le_of_ble_eq_true rfl, Nat.le_of_ble_eq_true rfl⟩ rfl rfl (Nat.le_of_ble_eq_true rfl) dX0_pairPosts_120 (fun s9 h => ?_)
      refine at_iconst (v := 0) C dX0_pairPosts_123 (by decide) ?_
      refine at_istore (lv' := [(0, .ref (ad 18)), (3, .int v3), (4, .int v4), (5, .int v5), (6, .int 0)]) C dX0_pairPosts_124 (by decide) [1, 2, 3, 4, 0] rfl ?_
      refine at_sub [0, 1, 2, 4] rfl ?_
      obtain ⟨n, h⟩ := h
      exact t126  n _ _ _ _ h
    · replace h := h.2 hc
      refine at_iconst (v := 0) C dX0_pairPosts_60 (by decide) ?_
      refine at_istore (lv' := [(0, .ref (ad 18)), (3, .int v3), (4, .int v4), (5, .int v5), (6, .int v6), (7, .int 0)]) C dX0_pairPosts_61 (by decide) [1, 2, 3, 4, 5, 0] rfl ?_
      obtain ⟨n, h⟩ := h
      exact t63 R54 hR54 n _ _ _ _ _ _ h
  have t54 : ∀ (n : Nat) (v3 : Int32) (v4 : Int32) (v5 : Int32) (v6 : Int32) (σ : St), qX0_pairPosts_l54  Q n v3 v4 v5 v6 σ → At X 8 (wC T ad σ) 54 [(0, .ref (ad 18)), (3, .int v3), (4, .int v4), (5, .int v5), (6, .int v6)] [] := by
    intro  n
    induction n with
    | zero => intro v3 v4 v5 v6 σ h; exact False.elim h
    | succ n ih => intro v3 v4 v5 v6 σ h; exact tb54 (qX0_pairPosts_l54  Q n) ih v3 v4 v5 v6 σ h
  unfold pX0_pairPosts at h
  refine at_aload_n C dX0_pairPosts_0 0 rfl ?_
  refine gC_X0_49 C dX0_pairPosts_1 ?_
  refine at_iload_n C dX0_pairPosts_4 1 rfl ?_
  refine at_iload_n C dX0_pairPosts_5 2 rfl ?_
  refine at_aload_n C dX0_pairPosts_6 0 rfl ?_
  refine gC_X0_35 C dX0_pairPosts_7 ?_
  refine at_callVNi C (kX2_gather_a24 l D ad T hI _ _ _ _ h) ok_X2_gather m_X0_82 mi_X2_gather ml_X2_gather (wC_g12 T ad _) rfl ⟨rfl, rfl, Nat.le_of_ble_eq_true rfl, Nat.le_of_ble_eq_true rfl⟩ rfl rfl (Nat.le_of_ble_eq_true rfl) dX0_pairPosts_10 (fun r2 s1 h => ?_)
  refine at_istore_n (lv' := [(0, .ref (ad 18)), (1, .int v1), (2, .int v2), (3, .int r2)]) C dX0_pairPosts_13 (by decide) [1, 2, 3, 0] rfl ?_
  refine at_aload_n C dX0_pairPosts_14 0 rfl ?_
  refine gC_X0_49 C dX0_pairPosts_15 ?_
  refine at_iload_n C dX0_pairPosts_18 1 rfl ?_
  refine at_iload_n C dX0_pairPosts_19 2 rfl ?_
  refine at_iconst (v := 1) C dX0_pairPosts_20 (by decide) ?_
  refine at_iadd C dX0_pairPosts_21 ?_
  refine at_aload_n C dX0_pairPosts_22 0 rfl ?_
  refine gC_X0_38 C dX0_pairPosts_23 ?_
  refine at_callVNi C (kX2_gather_a25 l D ad T hI _ _ _ _ h) ok_X2_gather m_X0_82 mi_X2_gather ml_X2_gather (wC_g12 T ad _) rfl ⟨rfl, rfl, Nat.le_of_ble_eq_true rfl, Nat.le_of_ble_eq_true rfl⟩ rfl rfl (Nat.le_of_ble_eq_true rfl) dX0_pairPosts_26 (fun r4 s3 h => ?_)
  refine at_istore (lv' := [(0, .ref (ad 18)), (1, .int v1), (2, .int v2), (3, .int r2), (4, .int r4)]) C dX0_pairPosts_29 (by decide) [1, 2, 3, 4, 0] rfl ?_
  refine at_aload_n C dX0_pairPosts_31 0 rfl ?_
  refine gC_X0_41 C dX0_pairPosts_32 ?_
  refine at_iload_n C dX0_pairPosts_35 2 rfl ?_
  refine at_callVNi C (kX6_wayToNext l D ad T hI _ _ _ h) ok_X6_wayToNext m_X0_86 mi_X6_wayToNext ml_X6_wayToNext (wC_g2 T ad _) rfl ⟨rfl, rfl, Nat.le_of_ble_eq_true rfl, Nat.le_of_ble_eq_true rfl⟩ rfl rfl (Nat.le_of_ble_eq_true rfl) dX0_pairPosts_36 (fun r6 s5 h => ?_)
  refine at_istore (lv' := [(0, .ref (ad 18)), (1, .int v1), (2, .int v2), (3, .int r2), (4, .int r4), (5, .int r6)]) C dX0_pairPosts_39 (by decide) [1, 2, 3, 4, 5, 0] rfl ?_
  refine at_aload_n C dX0_pairPosts_41 0 rfl ?_
  refine gC_X0_12 C dX0_pairPosts_42 ?_
  refine at_iload_n C dX0_pairPosts_45 3 rfl ?_
  refine at_iload C dX0_pairPosts_46 4 rfl ?_
  refine at_callVNv C (kX3_start l D ad T hI _ _ _ _ h) ok_X3_start m_X0_90 mi_X3_start ml_X3_start (wC_g26 T ad _) rfl ⟨rfl, rfl, Nat.le_of_ble_eq_true rfl, Nat.le_of_ble_eq_true rfl⟩ rfl rfl (Nat.le_of_ble_eq_true rfl) dX0_pairPosts_48 (fun s7 h => ?_)
  refine at_iconst (v := 0) C dX0_pairPosts_51 (by decide) ?_
  refine at_istore (lv' := [(0, .ref (ad 18)), (1, .int v1), (2, .int v2), (3, .int r2), (4, .int r4), (5, .int r6), (6, .int 0)]) C dX0_pairPosts_52 (by decide) [1, 2, 3, 4, 5, 6, 0] rfl ?_
  refine at_sub [0, 3, 4, 5, 6] rfl ?_
  obtain ⟨n, h⟩ := h
  exact t54  n _ _ _ _ _ h
theorem m_X0_75 : Cond.methodLink RX0 75 yX0_pairPosts ∈ gW := gW_in 454 (by decide +kernel) (by decide +kernel)
theorem mc_X0_pairPosts : Cond.code yX0_pairPosts cX0_pairPosts 8 none ∈ gW := gW_in 457 (by decide +kernel) (by decide +kernel)
theorem ok_X0_pairPosts : okM yX0_pairPosts cX0_pairPosts 8 none 2 := ⟨mc_X0_pairPosts, mz_RX0, by decide +kernel⟩
theorem mi_X0_pairPosts : Cond.instanceMethod yX0_pairPosts ∈ gW := gW_in 456 (by decide +kernel) (by decide +kernel)
theorem ml_X0_pairPosts : Cond.selects RX0 yX0_pairPosts yX0_pairPosts ∈ gW := gW_in 16 (by decide +kernel) (by decide +kernel)
theorem m_X0_29 : Cond.fieldLink RX0 29 RX0 "first" "[I" ∈ gW := gW_in 250 (by decide +kernel) (by decide +kernel)
theorem gC_X0_29 {X : XT} {l : Launch} {D : va_G} {ad : Nat → Nat} {T : TT} {cc : ByteArray} {nL fr lo : Nat} {σ : St} {pc : Nat} {lv : List (Nat × Value)} {st : List Value} (C : Cx X (KC l D ad T) cc RX0 nL fr lo) (d : decode cc pc = .ok (.getfield 29, 3)) (kk : At X nL (wC T ad σ) (pc + 3) lv (.ref (ad 22) :: st)) : At X nL (wC T ad σ) pc lv (.ref (ad 18) :: st) := at_get C ingX0 (ci := 0) rfl 18 (wC_g18 T ad σ) 7 (by decide) m_X0_29 rfl rfl d kk
theorem m_J6_265 : Cond.constant RJ6 265 (1431655765) ∈ gW := gW_in 527 (by decide +kernel) (by decide +kernel)
theorem m_J6_266 : Cond.constant RJ6 266 (858993459) ∈ gW := gW_in 528 (by decide +kernel) (by decide +kernel)
theorem m_J6_267 : Cond.constant RJ6 267 (252645135) ∈ gW := gW_in 529 (by decide +kernel) (by decide +kernel)
def pJ6_bitCount_0f7a4 (v0 : Int32) (σ : St) (Q : Int32 → St → Prop) : Prop := ∀ x1 : Int32, x1 = (v0 - (((Int32.toUInt32 v0 >>> (Int32.toUInt32 1 &&& Int32.toUInt32 31)).toInt32) &&& 1431655765)) → ∀ x2 : Int32, x2 = ((x1 &&& 858993459) + (((Int32.toUInt32 x1 >>> (Int32.toUInt32 2 &&& Int32.toUInt32 31)).toInt32) &&& 858993459)) → ∀ x3 : Int32, x3 = ((x2 + ((Int32.toUInt32 x2 >>> (Int32.toUInt32 4 &&& Int32.toUInt32 31)).toInt32)) &&& 252645135) → ∀ x4 : Int32, x4 = (x3 + ((Int32.toUInt32 x3 >>> (Int32.toUInt32 8 &&& Int32.toUInt32 31)).toInt32)) → ∀ x5 : Int32, x5 = (x4 + ((Int32.toUInt32 x4 >>> (Int32.toUInt32 16 &&& Int32.toUInt32 31)).toInt32)) → (Q (x5 &&& 63) σ)
set_option maxRecDepth 100000 in
set_option maxHeartbeats 4000000 in
theorem kJ6_bitCount_0f7a4 (l : Launch) (D : va_G) (ad : Nat → Nat) (T : TT) (hI : injA 40 ad) (v0 : Int32) (σ : St) (Q : Int32 → St → Prop) (h : pJ6_bitCount_0f7a4 v0 σ Q) : Ki (KC l D ad T) (wC T ad) yJ6_bitCount_0f7a4 cJ6_bitCount_0f7a4 1 (some .int) { frames := 0, cells := 0, slots := 0, locals := 0 } [.int v0] (wC T ad σ) Q := by
  refine st_MI (fr := 0) (lo := 0) (by decide) ⟨rfl, rfl⟩ rfl (Nat.le_of_ble_eq_true rfl) rfl (fun X C hD ret => ?_)
  replace hD : ∀ σ, DX X (wC T ad σ) := fun σ => hD _ (wC_D hI T σ)
  unfold pJ6_bitCount_0f7a4 at h
  refine at_iload_n C dJ6_bitCount_0f7a4_0 0 rfl ?_
  refine at_iload_n C dJ6_bitCount_0f7a4_1 0 rfl ?_
  refine at_iconst (v := 1) C dJ6_bitCount_0f7a4_2 (by decide) ?_
  refine at_iushr C dJ6_bitCount_0f7a4_3 ?_
  refine at_ldcw (v := 1431655765) C m_J6_265 dJ6_bitCount_0f7a4_4 ?_
  refine at_iand C dJ6_bitCount_0f7a4_7 ?_
  refine at_isub C dJ6_bitCount_0f7a4_8 ?_
  refine at_topi (fun x1 ex1 => ?_)
  replace h := h x1 ex1
  refine at_istore_n (lv' := [(0, .int x1)]) C dJ6_bitCount_0f7a4_9 (by decide) [0] rfl ?_
  refine at_iload_n C dJ6_bitCount_0f7a4_10 0 rfl ?_
  refine at_ldcw (v := 858993459) C m_J6_266 dJ6_bitCount_0f7a4_11 ?_
  refine at_iand C dJ6_bitCount_0f7a4_14 ?_
  refine at_iload_n C dJ6_bitCount_0f7a4_15 0 rfl ?_
  refine at_iconst (v := 2) C dJ6_bitCount_0f7a4_16 (by decide) ?_
  refine at_iushr C dJ6_bitCount_0f7a4_17 ?_
  refine at_ldcw (v := 858993459) C m_J6_266 dJ6_bitCount_0f7a4_18 ?_
  refine at_iand C dJ6_bitCount_0f7a4_21 ?_
  refine at_iadd C dJ6_bitCount_0f7a4_22 ?_
  refine at_topi (fun x2 ex2 => ?_)
  replace h := h x2 ex2
  refine at_istore_n (lv' := [(0, .int x2)]) C dJ6_bitCount_0f7a4_23 (by decide) [0] rfl ?_
  refine at_iload_n C dJ6_bitCount_0f7a4_24 0 rfl ?_
  refine at_iload_n C dJ6_bitCount_0f7a4_25 0 rfl ?_
  refine at_iconst (v := 4) C dJ6_bitCount_0f7a4_26 (by decide) ?_
  refine at_iushr C dJ6_bitCount_0f7a4_27 ?_
  refine at_iadd C dJ6_bitCount_0f7a4_28 ?_
  refine at_ldcw (v := 252645135) C m_J6_267 dJ6_bitCount_0f7a4_29 ?_
  refine at_iand C dJ6_bitCount_0f7a4_32 ?_
  refine at_topi (fun x3 ex3 => ?_)
  replace h := h x3 ex3
  refine at_istore_n (lv' := [(0, .int x3)]) C dJ6_bitCount_0f7a4_33 (by decide) [0] rfl ?_
  refine at_iload_n C dJ6_bitCount_0f7a4_34 0 rfl ?_
  refine at_iload_n C dJ6_bitCount_0f7a4_35 0 rfl ?_
  refine at_bipush (v := 8) C dJ6_bitCount_0f7a4_36 (by decide) ?_
  refine at_iushr C dJ6_bitCount_0f7a4_38 ?_
  refine at_iadd C dJ6_bitCount_0f7a4_39 ?_
  refine at_topi (fun x4 ex4 => ?_)
  replace h := h x4 ex4
  refine at_istore_n (lv' := [(0, .int x4)]) C dJ6_bitCount_0f7a4_40 (by decide) [0] rfl ?_
  refine at_iload_n C dJ6_bitCount_0f7a4_41 0 rfl ?_
  refine at_iload_n C dJ6_bitCount_0f7a4_42 0 rfl ?_
  refine at_bipush (v := 16) C dJ6_bitCount_0f7a4_43 (by decide) ?_
  refine at_iushr C dJ6_bitCount_0f7a4_45 ?_
  refine at_iadd C dJ6_bitCount_0f7a4_46 ?_
  refine at_topi (fun x5 ex5 => ?_)
  replace h := h x5 ex5
  refine at_istore_n (lv' := [(0, .int x5)]) C dJ6_bitCount_0f7a4_47 (by decide) [0] rfl ?_
  refine at_iload_n C dJ6_bitCount_0f7a4_48 0 rfl ?_
  refine at_bipush (v := 63) C dJ6_bitCount_0f7a4_49 (by decide) ?_
  refine at_iand C dJ6_bitCount_0f7a4_51 ?_
  exact ret _ _ _ _ dJ6_bitCount_0f7a4_52 h
theorem m_X1_37 : Cond.methodLink RX1 37 yJ6_bitCount_0f7a4 ∈ gW := gW_in 524 (by decide +kernel) (by decide +kernel)
theorem mc_J6_bitCount_0f7a4 : Cond.code yJ6_bitCount_0f7a4 cJ6_bitCount_0f7a4 1 (some .int) ∈ gW := gW_in 526 (by decide +kernel) (by decide +kernel)
theorem mz_RJ6 : Cond.initialized RJ6 ∈ gW := gW_in 93 (by decide +kernel) (by decide +kernel)
theorem ok_J6_bitCount_0f7a4 : okM yJ6_bitCount_0f7a4 cJ6_bitCount_0f7a4 1 (some .int) 1 := ⟨mc_J6_bitCount_0f7a4, mz_RJ6, by decide +kernel⟩
theorem ms_J6_bitCount_0f7a4 : Cond.static yJ6_bitCount_0f7a4 ∈ gW := gW_in 525 (by decide +kernel) (by decide +kernel)
def pX1_depth (v1 : Int32) (σ : St) (Q : Int32 → St → Prop) : Prop := (vp_in v1 20 ∧ (pJ6_bitCount_0f7a4 (σ 7 (Int32.toNatClampNeg v1)) σ (fun r2 s1 => (Q (r2 - 1) s1))))
set_option maxRecDepth 100000 in
set_option maxHeartbeats 4000000 in
theorem kX1_depth (l : Launch) (D : va_G) (ad : Nat → Nat) (T : TT) (hI : injA 40 ad) (v1 : Int32) (σ : St) (Q : Int32 → St → Prop) (h : pX1_depth v1 σ Q) : Ki (KC l D ad T) (wC T ad) yX1_depth cX1_depth 2 (some .int) { frames := 1, cells := 0, slots := 0, locals := 20 } [.ref (ad 4), .int v1] (wC T ad σ) Q := by
  refine st_MI (fr := 1) (lo := 20) (by decide) ⟨rfl, rfl⟩ rfl (Nat.le_of_ble_eq_true rfl) rfl (fun X C hD ret => ?_)
  replace hD : ∀ σ, DX X (wC T ad σ) := fun σ => hD _ (wC_D hI T σ)
  unfold pX1_depth at h
  refine at_aload_n C dX1_depth_0 0 rfl ?_
  refine gC_X1_18 C dX1_depth_1 ?_
  refine at_iload_n C dX1_depth_4 1 rfl ?_
  obtain ⟨hi, h⟩ := h
  refine rC_7 C hi dX1_depth_5 ?_
  refine at_callSi C (kJ6_bitCount_0f7a4 l D ad T hI _ _ _ h) ok_J6_bitCount_0f7a4 m_X1_37 ms_J6_bitCount_0f7a4 ⟨rfl, rfl, Nat.le_of_ble_eq_true rfl, Nat.le_of_ble_eq_true rfl⟩ rfl rfl (Nat.le_of_ble_eq_true rfl) dX1_depth_6 (fun r2 s1 h => ?_)
  refine at_iconst (v := 1) C dX1_depth_9 (by decide) ?_
  refine at_isub C dX1_depth_10 ?_
  exact ret _ _ _ _ dX1_depth_11 h
theorem m_X0_121 : Cond.methodLinkNest RX0 121 yX1_depth "HawkRidge" ∈ nW := nW_in 520 (by decide +kernel) (by decide +kernel)
theorem mc_X1_depth : Cond.code yX1_depth cX1_depth 2 (some .int) ∈ gW := gW_in 523 (by decide +kernel) (by decide +kernel)
theorem ok_X1_depth : okM yX1_depth cX1_depth 2 (some .int) 1 := ⟨mc_X1_depth, mz_RX1, by decide +kernel⟩
theorem mi_X1_depth : Cond.instanceMethod yX1_depth ∈ gW := gW_in 522 (by decide +kernel) (by decide +kernel)
theorem ml_X1_depth : Cond.selects RX1 yX1_depth yX1_depth ∈ gW := gW_in 31 (by decide +kernel) (by decide +kernel)
theorem m_X0_32 : Cond.fieldLink RX0 32 RX0 "birdKind" "[I" ∈ gW := gW_in 252 (by decide +kernel) (by decide +kernel)
theorem gC_X0_32 {X : XT} {l : Launch} {D : va_G} {ad : Nat → Nat} {T : TT} {cc : ByteArray} {nL fr lo : Nat} {σ : St} {pc : Nat} {lv : List (Nat × Value)} {st : List Value} (C : Cx X (KC l D ad T) cc RX0 nL fr lo) (d : decode cc pc = .ok (.getfield 32, 3)) (kk : At X nL (wC T ad σ) (pc + 3) lv (.ref (ad 23) :: st)) : At X nL (wC T ad σ) pc lv (.ref (ad 18) :: st) := at_get C ingX0 (ci := 0) rfl 18 (wC_g18 T ad σ) 8 (by decide) m_X0_32 rfl rfl d kk
def qX0_followBirds_133 (R17 : Int32 → Int32 → St → Prop) (Q : St → Prop) (v3 : Int32) (v4 : Int32) (σ : St) : Prop := ∀ x14 : Int32, x14 = v4 + 1 → R17 v3 x14 σ
def qX0_followBirds_17 (R17 : Int32 → Int32 → St → Prop) (Q : St → Prop) (v3 : Int32) (v4 : Int32) (σ : St) : Prop := ((v3 ≤ v4 → (Q σ)) ∧ (¬ v3 ≤ v4 → (vp_in v4 12 ∧ ∀ x3 : Int32, x3 = (σ 24 (Int32.toNatClampNeg v4)) → (vp_in x3 300 ∧ ∀ x4 : Int32, x4 = (σ 16 (Int32.toNatClampNeg x3)) → (vp_in x3 300 ∧ ((0 ≤ (σ 21 (Int32.toNatClampNeg x3)) → (vp_in x3 300 ∧ (vp_in (σ 21 (Int32.toNatClampNeg x3)) 300 ∧ ∀ x5 : Int32, x5 = (σ 22 (Int32.toNatClampNeg (σ 21 (Int32.toNatClampNeg x3)))) → (vp_in x3 300 ∧ ∀ s6 : St, s6 = (st_up σ 22 (Int32.toNatClampNeg x3) x5) → (pX1_depth x4 s6 (fun r8 s7 => (vp_in x5 300 ∧ (pX1_depth (s7 23 (Int32.toNatClampNeg x5)) s7 (fun r10 s9 => ((r8 ≤ r10 → (qX0_followBirds_133 R17 Q v3 v4 s9)) ∧ (¬ r8 ≤ r10 → (vp_in x5 300 ∧ ∀ s11 : St, s11 = (st_up s9 23 (Int32.toNatClampNeg x5) x4) → (qX0_followBirds_133 R17 Q v3 v4 s11))))))))))))) ∧ (¬ 0 ≤ (σ 21 (Int32.toNatClampNeg x3)) → (vp_in x3 300 ∧ ∀ s12 : St, s12 = (st_up σ 22 (Int32.toNatClampNeg x3) x3) → (vp_in x3 300 ∧ ∀ s13 : St, s13 = (st_up s12 23 (Int32.toNatClampNeg x3) x4) → (qX0_followBirds_133 R17 Q v3 v4 s13))))))))))
def qX0_followBirds_l17  (Q : St → Prop) : Nat → Int32 → Int32 → St → Prop
  | 0 => fun _ _ _ => False
  | n + 1 => qX0_followBirds_17 (qX0_followBirds_l17  Q n) Q
def pX0_followBirds (v1 : Int32) (v2 : Int32) (σ : St) (Q : St → Prop) : Prop := (pX2_gather_a24 v1 v2 σ (fun r2 s1 => (∃ n, qX0_followBirds_l17  Q n r2 0 s1)))
set_option maxRecDepth 100000 in
set_option maxHeartbeats 4000000 in
theorem kX0_followBirds (l : Launch) (D : va_G) (ad : Nat → Nat) (T : TT) (hI : injA 40 ad) (v1 : Int32) (v2 : Int32) (σ : St) (Q : St → Prop) (h : pX0_followBirds v1 v2 σ Q) : Kv (KC l D ad T) (wC T ad) yX0_followBirds cX0_followBirds 8 none { frames := 2, cells := 0, slots := 0, locals := 41 } [.ref (ad 18), .int v1, .int v2] (wC T ad σ) Q := by
  refine st_MV (fr := 2) (lo := 41) (by decide) ⟨rfl, rfl⟩ rfl (Nat.le_of_ble_eq_true rfl) rfl (fun X C hD ret => ?_)
  replace hD : ∀ σ, DX X (wC T ad σ) := fun σ => hD _ (wC_D hI T σ)
  have t133 : ∀ (R17 : Int32 → Int32 → St → Prop) (hR17 : ∀ (v3 : Int32) (v4 : Int32) (σ : St), R17 v3 v4 σ → At X 8 (wC T ad σ) 17 [(0, .ref (ad 18)), (3, .int v3), (4, .int v4)] []) (v3 : Int32) (v4 : Int32) (σ : St), qX0_followBirds_133 R17 Q v3 v4 σ → At X 8 (wC T ad σ) 133 [(0, .ref (ad 18)), (3, .int v3), (4, .int v4)] [] := by
    intro R17 hR17 v3 v4 σ h
    unfold qX0_followBirds_133 at h
    obtain ⟨x14, ex14⟩ : ∃ y : Int32, y = v4 + 1 := ⟨_, rfl⟩
    replace h := h x14 ex14
    refine at_iinc (v := x14) (lv' := [(0, .ref (ad 18)), (3, .int v3), (4, .int x14)]) C dX0_followBirds_133 2 rfl (by rw [ex14]; rfl) (by decide) [1, 2, 0] rfl ?_
    refine at_goto (tgt := 17) C dX0_followBirds_136 (by decide) ?_
    exact hR17 _ _ _ h
  have tb17 : ∀ (R17 : Int32 → Int32 → St → Prop) (hR17 : ∀ (v3 : Int32) (v4 : Int32) (σ : St), R17 v3 v4 σ → At X 8 (wC T ad σ) 17 [(0, .ref (ad 18)), (3, .int v3), (4, .int v4)] []) (v3 : Int32) (v4 : Int32) (σ : St), qX0_followBirds_17 R17 Q v3 v4 σ → At X 8 (wC T ad σ) 17 [(0, .ref (ad 18)), (3, .int v3), (4, .int v4)] [] := by
    intro R17 hR17 v3 v4 σ h
    unfold qX0_followBirds_17 at h
    refine at_iload C dX0_followBirds_17 2 rfl ?_
    refine at_iload_n C dX0_followBirds_19 1 rfl ?_
    refine at_icmp_ge (tgt := 139) C dX0_followBirds_20 (by decide) (fun hc => ?_) (fun hc => ?_)
    · replace h := h.1 hc
      exact ret _ _ _ dX0_followBirds_139 h
    · replace h := h.2 hc
      refine at_aload_n C dX0_followBirds_23 0 rfl ?_
      refine gC_X0_35 C dX0_followBirds_24 ?_
      refine at_iload C dX0_followBirds_27 2 rfl ?_
      obtain ⟨hi, h⟩ := h
      refine rC_24 C hi dX0_followBirds_29 ?_
      refine at_topi (fun x3 ex3 => ?_)
      replace h := h x3 ex3
      refine at_istore (lv' := [(0, .ref (ad 18)), (3, .int v3), (4, .int v4), (5, .int x3)]) C dX0_followBirds_30 (by decide) [1, 2, 3, 0] rfl ?_
      refine at_aload_n C dX0_followBirds_32 0 rfl ?_
      refine gC_X0_49 C dX0_followBirds_33 ?_
      refine gC_X0_106 C dX0_followBirds_36 ?_
      refine at_iload C dX0_followBirds_39 3 rfl ?_
      obtain ⟨hi, h⟩ := h
      refine rC_16 C hi dX0_followBirds_41 ?_
      refine at_topi (fun x4 ex4 => ?_)
      replace h := h x4 ex4
      refine at_istore (lv' := [(0, .ref (ad 18)), (3, .int v3), (4, .int v4), (5, .int x3), (6, .int x4)]) C dX0_followBirds_42 (by decide) [1, 2, 3, 4, 0] rfl ?_
      refine at_aload_n C dX0_followBirds_44 0 rfl ?_
      refine gC_X0_26 C dX0_followBirds_45 ?_
      refine at_iload C dX0_followBirds_48 3 rfl ?_
      obtain ⟨hi, h⟩ := h
      refine rC_21 C hi dX0_followBirds_50 ?_
      refine at_if_ge (tgt := 75) C dX0_followBirds_51 (by decide) (fun hc => ?_) (fun hc => ?_)
      · replace h := h.1 hc
        refine at_aload_n C dX0_followBirds_75 0 rfl ?_
        refine gC_X0_29 C dX0_followBirds_76 ?_
        refine at_aload_n C dX0_followBirds_79 0 rfl ?_
        refine gC_X0_26 C dX0_followBirds_80 ?_
        refine at_iload C dX0_followBirds_83 3 rfl ?_
        obtain ⟨hi, h⟩ := h
        refine rC_21 C hi dX0_followBirds_85 ?_
        obtain ⟨hi, h⟩ := h
        refine rC_22 C hi dX0_followBirds_86 ?_
        refine at_topi (fun x5 ex5 => ?_)
        replace h := h x5 ex5
        refine at_istore (lv' := [(0, .ref (ad 18)), (3, .int v3), (4, .int v4), (5, .int x3), (6, .int x4), (7, .int x5)]) C dX0_followBirds_87 (by decide) [1, 2, 3, 4, 5, 0] rfl ?_
        refine at_aload_n C dX0_followBirds_89 0 rfl ?_
        refine gC_X0_29 C dX0_followBirds_90 ?_
        refine at_iload C dX0_followBirds_93 3 rfl ?_
        refine at_iload C dX0_followBirds_95 5 rfl ?_
        obtain ⟨hi, h⟩ := h
        refine sC_22 C hD hi dX0_followBirds_97 (fun s6 es6 => ?_)
        replace h := h s6 es6
        refine at_aload_n C dX0_followBirds_98 0 rfl ?_
        refine gC_X0_45 C dX0_followBirds_99 ?_
        refine at_iload C dX0_followBirds_102 4 rfl ?_
        refine at_callVNi C (kX1_depth l D ad T hI _ _ _ h) ok_X1_depth m_X0_121 mi_X1_depth ml_X1_depth (wC_g4 T ad _) rfl ⟨rfl, rfl, Nat.le_of_ble_eq_true rfl, Nat.le_of_ble_eq_true rfl⟩ rfl rfl (Nat.le_of_ble_eq_true rfl) dX0_followBirds_104 (fun r8 s7 h => ?_)
        refine at_aload_n C dX0_followBirds_107 0 rfl ?_
        refine gC_X0_45 C dX0_followBirds_108 ?_
        refine at_aload_n C dX0_followBirds_111 0 rfl ?_
        refine gC_X0_32 C dX0_followBirds_112 ?_
        refine at_iload C dX0_followBirds_115 5 rfl ?_
        obtain ⟨hi, h⟩ := h
        refine rC_23 C hi dX0_followBirds_117 ?_
        refine at_callVNi C (kX1_depth l D ad T hI _ _ _ h) ok_X1_depth m_X0_121 mi_X1_depth ml_X1_depth (wC_g4 T ad _) rfl ⟨rfl, rfl, Nat.le_of_ble_eq_true rfl, Nat.le_of_ble_eq_true rfl⟩ rfl rfl (Nat.le_of_ble_eq_true rfl) dX0_followBirds_118 (fun r10 s9 h => ?_)
        refine at_icmp_le (tgt := 133) C dX0_followBirds_121 (by decide) (fun hc => ?_) (fun hc => ?_)
        · replace h := h.1 hc
          refine at_sub [0, 1, 2] rfl ?_
          exact t133 R17 hR17 _ _ _ h
        · replace h := h.2 hc
          refine at_aload_n C dX0_followBirds_124 0 rfl ?_
          refine gC_X0_32 C dX0_followBirds_125 ?_
          refine at_iload C dX0_followBirds_128 5 rfl ?_
          refine at_iload C dX0_followBirds_130 4 rfl ?_
          obtain ⟨hi, h⟩ := h
          refine sC_23 C hD hi dX0_followBirds_132 (fun s11 es11 => ?_)
          replace h := h s11 es11
          refine at_sub [0, 1, 2] rfl ?_
          exact t133 R17 hR17 _ _ _ h
      · replace h := h.2 hc
        refine at_aload_n C dX0_followBirds_54 0 rfl ?_
        refine gC_X0_29 C dX0_followBirds_55 ?_
        refine at_iload C dX0_followBirds_58 3 rfl ?_
        refine at_iload C dX0_followBirds_60 3 rfl ?_
        obtain ⟨hi, h⟩ := h
        refine sC_22 C hD hi dX0_followBirds_62 (fun s12 es12 => ?_)
        replace h := h s12 es12
        refine at_aload_n C dX0_followBirds_63 0 rfl ?_
        refine gC_X0_32 C dX0_followBirds_64 ?_
        refine at_iload C dX0_followBirds_67 3 rfl ?_
        refine at_iload C dX0_followBirds_69 4 rfl ?_
        obtain ⟨hi, h⟩ := h
        refine sC_23 C hD hi dX0_followBirds_71 (fun s13 es13 => ?_)
        replace h := h s13 es13
        refine at_goto (tgt := 133) C dX0_followBirds_72 (by decide) ?_
        refine at_sub [0, 1, 2] rfl ?_
        exact t133 R17 hR17 _ _ _ h
  have t17 : ∀ (n : Nat) (v3 : Int32) (v4 : Int32) (σ : St), qX0_followBirds_l17  Q n v3 v4 σ → At X 8 (wC T ad σ) 17 [(0, .ref (ad 18)), (3, .int v3), (4, .int v4)] [] := by
    intro  n
    induction n with
    | zero => intro v3 v4 σ h; exact False.elim h
    | succ n ih => intro v3 v4 σ h; exact tb17 (qX0_followBirds_l17  Q n) ih v3 v4 σ h
  unfold pX0_followBirds at h
  refine at_aload_n C dX0_followBirds_0 0 rfl ?_
  refine gC_X0_49 C dX0_followBirds_1 ?_
  refine at_iload_n C dX0_followBirds_4 1 rfl ?_
  refine at_iload_n C dX0_followBirds_5 2 rfl ?_
  refine at_aload_n C dX0_followBirds_6 0 rfl ?_
  refine gC_X0_35 C dX0_followBirds_7 ?_
  refine at_callVNi C (kX2_gather_a24 l D ad T hI _ _ _ _ h) ok_X2_gather m_X0_82 mi_X2_gather ml_X2_gather (wC_g12 T ad _) rfl ⟨rfl, rfl, Nat.le_of_ble_eq_true rfl, Nat.le_of_ble_eq_true rfl⟩ rfl rfl (Nat.le_of_ble_eq_true rfl) dX0_followBirds_10 (fun r2 s1 h => ?_)
  refine at_istore_n (lv' := [(0, .ref (ad 18)), (1, .int v1), (2, .int v2), (3, .int r2)]) C dX0_followBirds_13 (by decide) [1, 2, 3, 0] rfl ?_
  refine at_iconst (v := 0) C dX0_followBirds_14 (by decide) ?_
  refine at_istore (lv' := [(0, .ref (ad 18)), (1, .int v1), (2, .int v2), (3, .int r2), (4, .int 0)]) C dX0_followBirds_15 (by decide) [1, 2, 3, 4, 0] rfl ?_
  refine at_sub [0, 3, 4] rfl ?_
  obtain ⟨n, h⟩ := h
  exact t17  n _ _ _ h
theorem m_X0_79 : Cond.methodLink RX0 79 yX0_followBirds ∈ gW := gW_in 516 (by decide +kernel) (by decide +kernel)
theorem mc_X0_followBirds : Cond.code yX0_followBirds cX0_followBirds 8 none ∈ gW := gW_in 519 (by decide +kernel) (by decide +kernel)
theorem ok_X0_followBirds : okM yX0_followBirds cX0_followBirds 8 none 2 := ⟨mc_X0_followBirds, mz_RX0, by decide +kernel⟩
theorem mi_X0_followBirds : Cond.instanceMethod yX0_followBirds ∈ gW := gW_in 518 (by decide +kernel) (by decide +kernel)
theorem ml_X0_followBirds : Cond.selects RX0 yX0_followBirds yX0_followBirds ∈ gW := gW_in 30 (by decide +kernel) (by decide +kernel)
def qX0_pairDate_50 (R12 : Int32 → Int32 → St → Prop) (Q : St → Prop) (v1 : Int32) (v2 : Int32) (σ : St) : Prop := ∀ x6 : Int32, x6 = v2 + 1 → R12 v1 x6 σ
def qX0_pairDate_85 (R85 : Int32 → Int32 → St → Prop) (Q : St → Prop) (v1 : Int32) (v2 : Int32) (σ : St) : Prop := (((σ 2 1) ≤ v2 → (vp_in v1 180 ∧ ∀ s7 : St, s7 = (st_up σ 19 (Int32.toNatClampNeg v1) (vp_nar .boolean 1)) → (Q s7))) ∧ (¬ (σ 2 1) ≤ v2 → (pX0_followBirds v1 v2 σ (fun s8 => ∀ x10 : Int32, x10 = v2 + 1 → R85 v1 x10 s8))))
def qX0_pairDate_l85  (Q : St → Prop) : Nat → Int32 → Int32 → St → Prop
  | 0 => fun _ _ _ => False
  | n + 1 => qX0_pairDate_85 (qX0_pairDate_l85  Q n) Q
def qX0_pairDate_58 (R58 : Int32 → Int32 → St → Prop) (Q : St → Prop) (v1 : Int32) (v2 : Int32) (σ : St) : Prop := (((σ 2 1) ≤ (v2 + 1) → (∃ n, qX0_pairDate_l85  Q n v1 0 σ)) ∧ (¬ (σ 2 1) ≤ (v2 + 1) → (pX0_pairPosts v1 v2 σ (fun s3 => ∀ x5 : Int32, x5 = v2 + 1 → R58 v1 x5 s3))))
def qX0_pairDate_l58  (Q : St → Prop) : Nat → Int32 → Int32 → St → Prop
  | 0 => fun _ _ _ => False
  | n + 1 => qX0_pairDate_58 (qX0_pairDate_l58  Q n) Q
def qX0_pairDate_12 (R12 : Int32 → Int32 → St → Prop) (Q : St → Prop) (v1 : Int32) (v2 : Int32) (σ : St) : Prop := (((σ 12 6) ≤ v2 → (∃ n, qX0_pairDate_l58  Q n v1 0 σ)) ∧ (¬ (σ 12 6) ≤ v2 → (vp_in v2 300 ∧ ((¬ (σ 13 (Int32.toNatClampNeg v2)) = v1 → (qX0_pairDate_50 R12 Q v1 v2 σ)) ∧ ((σ 13 (Int32.toNatClampNeg v2)) = v1 → (vp_in v2 300 ∧ ∀ s1 : St, s1 = (st_up σ 20 (Int32.toNatClampNeg v2) (-1)) → (vp_in v2 300 ∧ ∀ s2 : St, s2 = (st_up s1 21 (Int32.toNatClampNeg v2) (-1)) → (qX0_pairDate_50 R12 Q v1 v2 s2))))))))
def qX0_pairDate_l12  (Q : St → Prop) : Nat → Int32 → Int32 → St → Prop
  | 0 => fun _ _ _ => False
  | n + 1 => qX0_pairDate_12 (qX0_pairDate_l12  Q n) Q
def pX0_pairDate (v1 : Int32) (σ : St) (Q : St → Prop) : Prop := (vp_in v1 180 ∧ (((σ 19 (Int32.toNatClampNeg v1)) = 0 → (∃ n, qX0_pairDate_l12  Q n v1 0 σ)) ∧ (¬ (σ 19 (Int32.toNatClampNeg v1)) = 0 → (Q σ))))
set_option maxRecDepth 100000 in
set_option maxHeartbeats 4000000 in
theorem kX0_pairDate (l : Launch) (D : va_G) (ad : Nat → Nat) (T : TT) (hI : injA 40 ad) (v1 : Int32) (σ : St) (Q : St → Prop) (h : pX0_pairDate v1 σ Q) : Kv (KC l D ad T) (wC T ad) yX0_pairDate cX0_pairDate 3 none { frames := 18, cells := 0, slots := 0, locals := 436 } [.ref (ad 18), .int v1] (wC T ad σ) Q := by
  refine st_MV (fr := 18) (lo := 436) (by decide) ⟨rfl, rfl⟩ rfl (Nat.le_of_ble_eq_true rfl) rfl (fun X C hD ret => ?_)
  replace hD : ∀ σ, DX X (wC T ad σ) := fun σ => hD _ (wC_D hI T σ)
  have t50 : ∀ (R12 : Int32 → Int32 → St → Prop) (hR12 : ∀ (v1 : Int32) (v2 : Int32) (σ : St), R12 v1 v2 σ → At X 3 (wC T ad σ) 12 [(0, .ref (ad 18)), (1, .int v1), (2, .int v2)] []) (v1 : Int32) (v2 : Int32) (σ : St), qX0_pairDate_50 R12 Q v1 v2 σ → At X 3 (wC T ad σ) 50 [(0, .ref (ad 18)), (1, .int v1), (2, .int v2)] [] := by
    intro R12 hR12 v1 v2 σ h
    unfold qX0_pairDate_50 at h
    obtain ⟨x6, ex6⟩ : ∃ y : Int32, y = v2 + 1 := ⟨_, rfl⟩
    replace h := h x6 ex6
    refine at_iinc (v := x6) (lv' := [(0, .ref (ad 18)), (1, .int v1), (2, .int x6)]) C dX0_pairDate_50 2 rfl (by rw [ex6]; rfl) (by decide) [1, 2, 0] rfl ?_
    refine at_goto (tgt := 12) C dX0_pairDate_53 (by decide) ?_
    exact hR12 _ _ _ h
  have tb85 : ∀ (R85 : Int32 → Int32 → St → Prop) (hR85 : ∀ (v1 : Int32) (v2 : Int32) (σ : St), R85 v1 v2 σ → At X 3 (wC T ad σ) 85 [(0, .ref (ad 18)), (1, .int v1), (2, .int v2)] []) (v1 : Int32) (v2 : Int32) (σ : St), qX0_pairDate_85 R85 Q v1 v2 σ → At X 3 (wC T ad σ) 85 [(0, .ref (ad 18)), (1, .int v1), (2, .int v2)] [] := by
    intro R85 hR85 v1 v2 σ h
    unfold qX0_pairDate_85 at h
    refine at_iload_n C dX0_pairDate_85 2 rfl ?_
    refine at_aload_n C dX0_pairDate_86 0 rfl ?_
    refine gC_X0_41 C dX0_pairDate_87 ?_
    refine gC_X0_70 C dX0_pairDate_90 ?_
    refine at_icmp_ge (tgt := 108) C dX0_pairDate_93 (by decide) (fun hc => ?_) (fun hc => ?_)
    · replace h := h.1 hc
      refine at_aload_n C dX0_pairDate_108 0 rfl ?_
      refine gC_X0_18 C dX0_pairDate_109 ?_
      refine at_iload_n C dX0_pairDate_112 1 rfl ?_
      refine at_iconst (v := 1) C dX0_pairDate_113 (by decide) ?_
      obtain ⟨hi, h⟩ := h
      refine sC_19 C hD hi dX0_pairDate_114 (fun s7 es7 => ?_)
      replace h := h s7 es7
      exact ret _ _ _ dX0_pairDate_115 h
    · replace h := h.2 hc
      refine at_aload_n C dX0_pairDate_96 0 rfl ?_
      refine at_iload_n C dX0_pairDate_97 1 rfl ?_
      refine at_iload_n C dX0_pairDate_98 2 rfl ?_
      refine at_callVv C (kX0_followBirds l D ad T hI _ _ _ _ h) ok_X0_followBirds m_X0_79 mi_X0_followBirds ml_X0_followBirds (wC_g18 T ad _) rfl ⟨rfl, rfl, Nat.le_of_ble_eq_true rfl, Nat.le_of_ble_eq_true rfl⟩ rfl rfl (Nat.le_of_ble_eq_true rfl) dX0_pairDate_99 (fun s8 h => ?_)
      obtain ⟨x10, ex10⟩ : ∃ y : Int32, y = v2 + 1 := ⟨_, rfl⟩
      replace h := h x10 ex10
      refine at_iinc (v := x10) (lv' := [(0, .ref (ad 18)), (1, .int v1), (2, .int x10)]) C dX0_pairDate_102 2 rfl (by rw [ex10]; rfl) (by decide) [1, 2, 0] rfl ?_
      refine at_goto (tgt := 85) C dX0_pairDate_105 (by decide) ?_
      exact hR85 _ _ _ h
  have t85 : ∀ (n : Nat) (v1 : Int32) (v2 : Int32) (σ : St), qX0_pairDate_l85  Q n v1 v2 σ → At X 3 (wC T ad σ) 85 [(0, .ref (ad 18)), (1, .int v1), (2, .int v2)] [] := by
    intro  n
    induction n with
    | zero => intro v1 v2 σ h; exact False.elim h
    | succ n ih => intro v1 v2 σ h; exact tb85 (qX0_pairDate_l85  Q n) ih v1 v2 σ h
  have tb58 : ∀ (R58 : Int32 → Int32 → St → Prop) (hR58 : ∀ (v1 : Int32) (v2 : Int32) (σ : St), R58 v1 v2 σ → At X 3 (wC T ad σ) 58 [(0, .ref (ad 18)), (1, .int v1), (2, .int v2)] []) (v1 : Int32) (v2 : Int32) (σ : St), qX0_pairDate_58 R58 Q v1 v2 σ → At X 3 (wC T ad σ) 58 [(0, .ref (ad 18)), (1, .int v1), (2, .int v2)] [] := by
    intro R58 hR58 v1 v2 σ h
    unfold qX0_pairDate_58 at h
    refine at_iload_n C dX0_pairDate_58 2 rfl ?_
    refine at_iconst (v := 1) C dX0_pairDate_59 (by decide) ?_
    refine at_iadd C dX0_pairDate_60 ?_
    refine at_aload_n C dX0_pairDate_61 0 rfl ?_
    refine gC_X0_41 C dX0_pairDate_62 ?_
    refine gC_X0_70 C dX0_pairDate_65 ?_
    refine at_icmp_ge (tgt := 83) C dX0_pairDate_68 (by decide) (fun hc => ?_) (fun hc => ?_)
    · replace h := h.1 hc
      refine at_iconst (v := 0) C dX0_pairDate_83 (by decide) ?_
      refine at_istore_n (lv' := [(0, .ref (ad 18)), (1, .int v1), (2, .int 0)]) C dX0_pairDate_84 (by decide) [1, 2, 0] rfl ?_
      obtain ⟨n, h⟩ := h
      exact t85  n _ _ _ h
    · replace h := h.2 hc
      refine at_aload_n C dX0_pairDate_71 0 rfl ?_
      refine at_iload_n C dX0_pairDate_72 1 rfl ?_
      refine at_iload_n C dX0_pairDate_73 2 rfl ?_
      refine at_callVv C (kX0_pairPosts l D ad T hI _ _ _ _ h) ok_X0_pairPosts m_X0_75 mi_X0_pairPosts ml_X0_pairPosts (wC_g18 T ad _) rfl ⟨rfl, rfl, Nat.le_of_ble_eq_true rfl, Nat.le_of_ble_eq_true rfl⟩ rfl rfl (Nat.le_of_ble_eq_true rfl) dX0_pairDate_74 (fun s3 h => ?_)
      obtain ⟨x5, ex5⟩ : ∃ y : Int32, y = v2 + 1 := ⟨_, rfl⟩
      replace h := h x5 ex5
      refine at_iinc (v := x5) (lv' := [(0, .ref (ad 18)), (1, .int v1), (2, .int x5)]) C dX0_pairDate_77 2 rfl (by rw [ex5]; rfl) (by decide) [1, 2, 0] rfl ?_
      refine at_goto (tgt := 58) C dX0_pairDate_80 (by decide) ?_
      exact hR58 _ _ _ h
  have t58 : ∀ (n : Nat) (v1 : Int32) (v2 : Int32) (σ : St), qX0_pairDate_l58  Q n v1 v2 σ → At X 3 (wC T ad σ) 58 [(0, .ref (ad 18)), (1, .int v1), (2, .int v2)] [] := by
    intro  n
    induction n with
    | zero => intro v1 v2 σ h; exact False.elim h
    | succ n ih => intro v1 v2 σ h; exact tb58 (qX0_pairDate_l58  Q n) ih v1 v2 σ h
  have tb12 : ∀ (R12 : Int32 → Int32 → St → Prop) (hR12 : ∀ (v1 : Int32) (v2 : Int32) (σ : St), R12 v1 v2 σ → At X 3 (wC T ad σ) 12 [(0, .ref (ad 18)), (1, .int v1), (2, .int v2)] []) (v1 : Int32) (v2 : Int32) (σ : St), qX0_pairDate_12 R12 Q v1 v2 σ → At X 3 (wC T ad σ) 12 [(0, .ref (ad 18)), (1, .int v1), (2, .int v2)] [] := by
    intro R12 hR12 v1 v2 σ h
    unfold qX0_pairDate_12 at h
    refine at_iload_n C dX0_pairDate_12 2 rfl ?_
    refine at_aload_n C dX0_pairDate_13 0 rfl ?_
    refine gC_X0_49 C dX0_pairDate_14 ?_
    refine gC_X0_53 C dX0_pairDate_17 ?_
    refine at_icmp_ge (tgt := 56) C dX0_pairDate_20 (by decide) (fun hc => ?_) (fun hc => ?_)
    · replace h := h.1 hc
      refine at_iconst (v := 0) C dX0_pairDate_56 (by decide) ?_
      refine at_istore_n (lv' := [(0, .ref (ad 18)), (1, .int v1), (2, .int 0)]) C dX0_pairDate_57 (by decide) [1, 2, 0] rfl ?_
      obtain ⟨n, h⟩ := h
      exact t58  n _ _ _ h
    · replace h := h.2 hc
      refine at_aload_n C dX0_pairDate_23 0 rfl ?_
      refine gC_X0_49 C dX0_pairDate_24 ?_
      refine gC_X0_63 C dX0_pairDate_27 ?_
      refine at_iload_n C dX0_pairDate_30 2 rfl ?_
      obtain ⟨hi, h⟩ := h
      refine rC_13 C hi dX0_pairDate_31 ?_
      refine at_iload_n C dX0_pairDate_32 1 rfl ?_
      refine at_icmp_ne (tgt := 50) C dX0_pairDate_33 (by decide) (fun hc => ?_) (fun hc => ?_)
      · replace h := h.1 hc
        exact t50 R12 hR12 _ _ _ h
      · replace h := h.2 hc
        refine at_aload_n C dX0_pairDate_36 0 rfl ?_
        refine gC_X0_22 C dX0_pairDate_37 ?_
        refine at_iload_n C dX0_pairDate_40 2 rfl ?_
        refine at_iconst (v := (-1)) C dX0_pairDate_41 (by decide) ?_
        obtain ⟨hi, h⟩ := h
        refine sC_20 C hD hi dX0_pairDate_42 (fun s1 es1 => ?_)
        replace h := h s1 es1
        refine at_aload_n C dX0_pairDate_43 0 rfl ?_
        refine gC_X0_26 C dX0_pairDate_44 ?_
        refine at_iload_n C dX0_pairDate_47 2 rfl ?_
        refine at_iconst (v := (-1)) C dX0_pairDate_48 (by decide) ?_
        obtain ⟨hi, h⟩ := h
        refine sC_21 C hD hi dX0_pairDate_49 (fun s2 es2 => ?_)
        replace h := h s2 es2
        exact t50 R12 hR12 _ _ _ h
  have t12 : ∀ (n : Nat) (v1 : Int32) (v2 : Int32) (σ : St), qX0_pairDate_l12  Q n v1 v2 σ → At X 3 (wC T ad σ) 12 [(0, .ref (ad 18)), (1, .int v1), (2, .int v2)] [] := by
    intro  n
    induction n with
    | zero => intro v1 v2 σ h; exact False.elim h
    | succ n ih => intro v1 v2 σ h; exact tb12 (qX0_pairDate_l12  Q n) ih v1 v2 σ h
  unfold pX0_pairDate at h
  refine at_aload_n C dX0_pairDate_0 0 rfl ?_
  refine gC_X0_18 C dX0_pairDate_1 ?_
  refine at_iload_n C dX0_pairDate_4 1 rfl ?_
  obtain ⟨hi, h⟩ := h
  refine rC_19 C hi dX0_pairDate_5 ?_
  refine at_if_eq (tgt := 10) C dX0_pairDate_6 (by decide) (fun hc => ?_) (fun hc => ?_)
  · replace h := h.1 hc
    refine at_iconst (v := 0) C dX0_pairDate_10 (by decide) ?_
    refine at_istore_n (lv' := [(0, .ref (ad 18)), (1, .int v1), (2, .int 0)]) C dX0_pairDate_11 (by decide) [1, 2, 0] rfl ?_
    obtain ⟨n, h⟩ := h
    exact t12  n _ _ _ h
  · replace h := h.2 hc
    exact ret _ _ _ dX0_pairDate_9 h
theorem m_X0_66 : Cond.methodLink RX0 66 yX0_pairDate ∈ gW := gW_in 546 (by decide +kernel) (by decide +kernel)
theorem mc_X0_pairDate : Cond.code yX0_pairDate cX0_pairDate 3 none ∈ gW := gW_in 453 (by decide +kernel) (by decide +kernel)
theorem ok_X0_pairDate : okM yX0_pairDate cX0_pairDate 3 none 1 := ⟨mc_X0_pairDate, mz_RX0, by decide +kernel⟩
theorem mi_X0_pairDate : Cond.instanceMethod yX0_pairDate ∈ gW := gW_in 452 (by decide +kernel) (by decide +kernel)
theorem ml_X0_pairDate : Cond.selects RX0 yX0_pairDate yX0_pairDate ∈ gW := gW_in 15 (by decide +kernel) (by decide +kernel)
def qX0_pairYear_38 (R2 : Int32 → Int32 → St → Prop) (Q : St → Prop) (v1 : Int32) (v2 : Int32) (σ : St) : Prop := ∀ x5 : Int32, x5 = v2 + 1 → R2 v1 x5 σ
def qX0_pairYear_2 (R2 : Int32 → Int32 → St → Prop) (Q : St → Prop) (v1 : Int32) (v2 : Int32) (σ : St) : Prop := (((σ 12 6) ≤ v2 → (Q σ)) ∧ (¬ (σ 12 6) ≤ v2 → (pX2_isIn v2 v1 σ (fun r2 s1 => ((r2 = 0 → (qX0_pairYear_38 R2 Q v1 v2 s1)) ∧ (¬ r2 = 0 → (vp_in v2 300 ∧ (pX0_pairDate (s1 13 (Int32.toNatClampNeg v2)) s1 (fun s3 => (qX0_pairYear_38 R2 Q v1 v2 s3))))))))))
def qX0_pairYear_l2  (Q : St → Prop) : Nat → Int32 → Int32 → St → Prop
  | 0 => fun _ _ _ => False
  | n + 1 => qX0_pairYear_2 (qX0_pairYear_l2  Q n) Q
def pX0_pairYear (v1 : Int32) (σ : St) (Q : St → Prop) : Prop := (∃ n, qX0_pairYear_l2  Q n v1 0 σ)
set_option maxRecDepth 100000 in
set_option maxHeartbeats 4000000 in
theorem kX0_pairYear (l : Launch) (D : va_G) (ad : Nat → Nat) (T : TT) (hI : injA 40 ad) (v1 : Int32) (σ : St) (Q : St → Prop) (h : pX0_pairYear v1 σ Q) : Kv (KC l D ad T) (wC T ad) yX0_pairYear cX0_pairYear 3 none { frames := 19, cells := 0, slots := 0, locals := 458 } [.ref (ad 18), .int v1] (wC T ad σ) Q := by
  refine st_MV (fr := 19) (lo := 458) (by decide) ⟨rfl, rfl⟩ rfl (Nat.le_of_ble_eq_true rfl) rfl (fun X C hD ret => ?_)
  replace hD : ∀ σ, DX X (wC T ad σ) := fun σ => hD _ (wC_D hI T σ)
  have t38 : ∀ (R2 : Int32 → Int32 → St → Prop) (hR2 : ∀ (v1 : Int32) (v2 : Int32) (σ : St), R2 v1 v2 σ → At X 3 (wC T ad σ) 2 [(0, .ref (ad 18)), (1, .int v1), (2, .int v2)] []) (v1 : Int32) (v2 : Int32) (σ : St), qX0_pairYear_38 R2 Q v1 v2 σ → At X 3 (wC T ad σ) 38 [(0, .ref (ad 18)), (1, .int v1), (2, .int v2)] [] := by
    intro R2 hR2 v1 v2 σ h
    unfold qX0_pairYear_38 at h
    obtain ⟨x5, ex5⟩ : ∃ y : Int32, y = v2 + 1 := ⟨_, rfl⟩
    replace h := h x5 ex5
    refine at_iinc (v := x5) (lv' := [(0, .ref (ad 18)), (1, .int v1), (2, .int x5)]) C dX0_pairYear_38 2 rfl (by rw [ex5]; rfl) (by decide) [1, 2, 0] rfl ?_
    refine at_goto (tgt := 2) C dX0_pairYear_41 (by decide) ?_
    exact hR2 _ _ _ h
  have tb2 : ∀ (R2 : Int32 → Int32 → St → Prop) (hR2 : ∀ (v1 : Int32) (v2 : Int32) (σ : St), R2 v1 v2 σ → At X 3 (wC T ad σ) 2 [(0, .ref (ad 18)), (1, .int v1), (2, .int v2)] []) (v1 : Int32) (v2 : Int32) (σ : St), qX0_pairYear_2 R2 Q v1 v2 σ → At X 3 (wC T ad σ) 2 [(0, .ref (ad 18)), (1, .int v1), (2, .int v2)] [] := by
    intro R2 hR2 v1 v2 σ h
    unfold qX0_pairYear_2 at h
    refine at_iload_n C dX0_pairYear_2 2 rfl ?_
    refine at_aload_n C dX0_pairYear_3 0 rfl ?_
    refine gC_X0_49 C dX0_pairYear_4 ?_
    refine gC_X0_53 C dX0_pairYear_7 ?_
    refine at_icmp_ge (tgt := 44) C dX0_pairYear_10 (by decide) (fun hc => ?_) (fun hc => ?_)
    · replace h := h.1 hc
      exact ret _ _ _ dX0_pairYear_44 h
    · replace h := h.2 hc
      refine at_aload_n C dX0_pairYear_13 0 rfl ?_
      refine gC_X0_49 C dX0_pairYear_14 ?_
      refine at_iload_n C dX0_pairYear_17 2 rfl ?_
      refine at_iload_n C dX0_pairYear_18 1 rfl ?_
      refine at_callVNi C (kX2_isIn l D ad T hI _ _ _ _ h) ok_X2_isIn m_X0_59 mi_X2_isIn ml_X2_isIn (wC_g12 T ad _) rfl ⟨rfl, rfl, Nat.le_of_ble_eq_true rfl, Nat.le_of_ble_eq_true rfl⟩ rfl rfl (Nat.le_of_ble_eq_true rfl) dX0_pairYear_19 (fun r2 s1 h => ?_)
      refine at_if_eq (tgt := 38) C dX0_pairYear_22 (by decide) (fun hc => ?_) (fun hc => ?_)
      · replace h := h.1 hc
        exact t38 R2 hR2 _ _ _ h
      · replace h := h.2 hc
        refine at_aload_n C dX0_pairYear_25 0 rfl ?_
        refine at_aload_n C dX0_pairYear_26 0 rfl ?_
        refine gC_X0_49 C dX0_pairYear_27 ?_
        refine gC_X0_63 C dX0_pairYear_30 ?_
        refine at_iload_n C dX0_pairYear_33 2 rfl ?_
        obtain ⟨hi, h⟩ := h
        refine rC_13 C hi dX0_pairYear_34 ?_
        refine at_callVv C (kX0_pairDate l D ad T hI _ _ _ h) ok_X0_pairDate m_X0_66 mi_X0_pairDate ml_X0_pairDate (wC_g18 T ad _) rfl ⟨rfl, rfl, Nat.le_of_ble_eq_true rfl, Nat.le_of_ble_eq_true rfl⟩ rfl rfl (Nat.le_of_ble_eq_true rfl) dX0_pairYear_35 (fun s3 h => ?_)
        exact t38 R2 hR2 _ _ _ h
  have t2 : ∀ (n : Nat) (v1 : Int32) (v2 : Int32) (σ : St), qX0_pairYear_l2  Q n v1 v2 σ → At X 3 (wC T ad σ) 2 [(0, .ref (ad 18)), (1, .int v1), (2, .int v2)] [] := by
    intro  n
    induction n with
    | zero => intro v1 v2 σ h; exact False.elim h
    | succ n ih => intro v1 v2 σ h; exact tb2 (qX0_pairYear_l2  Q n) ih v1 v2 σ h
  unfold pX0_pairYear at h
  refine at_iconst (v := 0) C dX0_pairYear_0 (by decide) ?_
  refine at_istore_n (lv' := [(0, .ref (ad 18)), (1, .int v1), (2, .int 0)]) C dX0_pairYear_1 (by decide) [1, 2, 0] rfl ?_
  obtain ⟨n, h⟩ := h
  exact t2  n _ _ _ h
