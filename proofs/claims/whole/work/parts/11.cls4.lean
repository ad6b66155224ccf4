theorem m_X8_149 : Cond.methodLinkNest RX8 149 yX0_pairYear "HawkRidge" ∈ nW := nW_in 538 (by decide +kernel) (by decide +kernel)
theorem mc_X0_pairYear : Cond.code yX0_pairYear cX0_pairYear 3 none ∈ gW := gW_in 541 (by decide +kernel) (by decide +kernel)
theorem ok_X0_pairYear : okM yX0_pairYear cX0_pairYear 3 none 1 := ⟨mc_X0_pairYear, mz_RX0, by decide +kernel⟩
theorem mi_X0_pairYear : Cond.instanceMethod yX0_pairYear ∈ gW := gW_in 540 (by decide +kernel) (by decide +kernel)
theorem ml_X0_pairYear : Cond.selects RX0 yX0_pairYear yX0_pairYear ∈ gW := gW_in 32 (by decide +kernel) (by decide +kernel)
theorem m_X2_38 : Cond.methodLink RX2 38 yX2_isIn ∈ gW := gW_in 551 (by decide +kernel) (by decide +kernel)
def qX2_shownIn_24 (R4 : Int32 → Int32 → Int32 → St → Prop) (Q : Int32 → St → Prop) (v1 : Int32) (v2 : Int32) (v3 : Int32) (σ : St) : Prop := ∀ x4 : Int32, x4 = v3 + 1 → R4 v1 v2 x4 σ
def qX2_shownIn_4 (R4 : Int32 → Int32 → Int32 → St → Prop) (Q : Int32 → St → Prop) (v1 : Int32) (v2 : Int32) (v3 : Int32) (σ : St) : Prop := (((σ 12 6) ≤ v3 → (Q v2 σ)) ∧ (¬ (σ 12 6) ≤ v3 → (pX2_isIn v3 v1 σ (fun r2 s1 => ((r2 = 0 → (qX2_shownIn_24 R4 Q v1 v2 v3 s1)) ∧ (¬ r2 = 0 → ∀ x3 : Int32, x3 = v2 + 1 → (qX2_shownIn_24 R4 Q v1 x3 v3 s1)))))))
def qX2_shownIn_l4  (Q : Int32 → St → Prop) : Nat → Int32 → Int32 → Int32 → St → Prop
  | 0 => fun _ _ _ _ => False
  | n + 1 => qX2_shownIn_4 (qX2_shownIn_l4  Q n) Q
def pX2_shownIn (v1 : Int32) (σ : St) (Q : Int32 → St → Prop) : Prop := (∃ n, qX2_shownIn_l4  Q n v1 0 0 σ)
set_option maxRecDepth 100000 in
set_option maxHeartbeats 4000000 in
theorem kX2_shownIn (l : Launch) (D : va_G) (ad : Nat → Nat) (T : TT) (hI : injA 40 ad) (v1 : Int32) (σ : St) (Q : Int32 → St → Prop) (h : pX2_shownIn v1 σ Q) : Ki (KC l D ad T) (wC T ad) yX2_shownIn cX2_shownIn 4 (some .int) { frames := 1, cells := 0, slots := 0, locals := 22 } [.ref (ad 12), .int v1] (wC T ad σ) Q := by
  refine st_MI (fr := 1) (lo := 22) (by decide) ⟨rfl, rfl⟩ rfl (Nat.le_of_ble_eq_true rfl) rfl (fun X C hD ret => ?_)
  replace hD : ∀ σ, DX X (wC T ad σ) := fun σ => hD _ (wC_D hI T σ)
  have t24 : ∀ (R4 : Int32 → Int32 → Int32 → St → Prop) (hR4 : ∀ (v1 : Int32) (v2 : Int32) (v3 : Int32) (σ : St), R4 v1 v2 v3 σ → At X 4 (wC T ad σ) 4 [(0, .ref (ad 12)), (1, .int v1), (2, .int v2), (3, .int v3)] []) (v1 : Int32) (v2 : Int32) (v3 : Int32) (σ : St), qX2_shownIn_24 R4 Q v1 v2 v3 σ → At X 4 (wC T ad σ) 24 [(0, .ref (ad 12)), (1, .int v1), (2, .int v2), (3, .int v3)] [] := by
    intro R4 hR4 v1 v2 v3 σ h
    unfold qX2_shownIn_24 at h
    obtain ⟨x4, ex4⟩ : ∃ y : Int32, y = v3 + 1 := ⟨_, rfl⟩
    replace h := h x4 ex4
    refine at_iinc (v := x4) (lv' := [(0, .ref (ad 12)), (1, .int v1), (2, .int v2), (3, .int x4)]) C dX2_shownIn_24 3 rfl (by rw [ex4]; rfl) (by decide) [1, 2, 3, 0] rfl ?_
    refine at_goto (tgt := 4) C dX2_shownIn_27 (by decide) ?_
    exact hR4 _ _ _ _ h
  have tb4 : ∀ (R4 : Int32 → Int32 → Int32 → St → Prop) (hR4 : ∀ (v1 : Int32) (v2 : Int32) (v3 : Int32) (σ : St), R4 v1 v2 v3 σ → At X 4 (wC T ad σ) 4 [(0, .ref (ad 12)), (1, .int v1), (2, .int v2), (3, .int v3)] []) (v1 : Int32) (v2 : Int32) (v3 : Int32) (σ : St), qX2_shownIn_4 R4 Q v1 v2 v3 σ → At X 4 (wC T ad σ) 4 [(0, .ref (ad 12)), (1, .int v1), (2, .int v2), (3, .int v3)] [] := by
    intro R4 hR4 v1 v2 v3 σ h
    unfold qX2_shownIn_4 at h
    refine at_iload_n C dX2_shownIn_4 3 rfl ?_
    refine at_aload_n C dX2_shownIn_5 0 rfl ?_
    refine gC_X2_31 C dX2_shownIn_6 ?_
    refine at_icmp_ge (tgt := 30) C dX2_shownIn_9 (by decide) (fun hc => ?_) (fun hc => ?_)
    · replace h := h.1 hc
      refine at_iload_n C dX2_shownIn_30 2 rfl ?_
      exact ret _ _ _ _ dX2_shownIn_31 h
    · replace h := h.2 hc
      refine at_aload_n C dX2_shownIn_12 0 rfl ?_
      refine at_iload_n C dX2_shownIn_13 3 rfl ?_
      refine at_iload_n C dX2_shownIn_14 1 rfl ?_
      refine at_callVi C (kX2_isIn l D ad T hI _ _ _ _ h) ok_X2_isIn m_X2_38 mi_X2_isIn ml_X2_isIn (wC_g12 T ad _) rfl ⟨rfl, rfl, Nat.le_of_ble_eq_true rfl, Nat.le_of_ble_eq_true rfl⟩ rfl rfl (Nat.le_of_ble_eq_true rfl) dX2_shownIn_15 (fun r2 s1 h => ?_)
      refine at_if_eq (tgt := 24) C dX2_shownIn_18 (by decide) (fun hc => ?_) (fun hc => ?_)
      · replace h := h.1 hc
        exact t24 R4 hR4 _ _ _ _ h
      · replace h := h.2 hc
        obtain ⟨x3, ex3⟩ : ∃ y : Int32, y = v2 + 1 := ⟨_, rfl⟩
        replace h := h x3 ex3
        refine at_iinc (v := x3) (lv' := [(0, .ref (ad 12)), (1, .int v1), (2, .int x3), (3, .int v3)]) C dX2_shownIn_21 2 rfl (by rw [ex3]; rfl) (by decide) [1, 2, 0, 3] rfl ?_
        exact t24 R4 hR4 _ _ _ _ h
  have t4 : ∀ (n : Nat) (v1 : Int32) (v2 : Int32) (v3 : Int32) (σ : St), qX2_shownIn_l4  Q n v1 v2 v3 σ → At X 4 (wC T ad σ) 4 [(0, .ref (ad 12)), (1, .int v1), (2, .int v2), (3, .int v3)] [] := by
    intro  n
    induction n with
    | zero => intro v1 v2 v3 σ h; exact False.elim h
    | succ n ih => intro v1 v2 v3 σ h; exact tb4 (qX2_shownIn_l4  Q n) ih v1 v2 v3 σ h
  unfold pX2_shownIn at h
  refine at_iconst (v := 0) C dX2_shownIn_0 (by decide) ?_
  refine at_istore_n (lv' := [(0, .ref (ad 12)), (1, .int v1), (2, .int 0)]) C dX2_shownIn_1 (by decide) [1, 2, 0] rfl ?_
  refine at_iconst (v := 0) C dX2_shownIn_2 (by decide) ?_
  refine at_istore_n (lv' := [(0, .ref (ad 12)), (1, .int v1), (2, .int 0), (3, .int 0)]) C dX2_shownIn_3 (by decide) [1, 2, 3, 0] rfl ?_
  obtain ⟨n, h⟩ := h
  exact t4  n _ _ _ _ h
theorem m_X8_171 : Cond.methodLinkNest RX8 171 yX2_shownIn "HawkRidge" ∈ nW := nW_in 547 (by decide +kernel) (by decide +kernel)
theorem mc_X2_shownIn : Cond.code yX2_shownIn cX2_shownIn 4 (some .int) ∈ gW := gW_in 550 (by decide +kernel) (by decide +kernel)
theorem ok_X2_shownIn : okM yX2_shownIn cX2_shownIn 4 (some .int) 1 := ⟨mc_X2_shownIn, mz_RX2, by decide +kernel⟩
theorem mi_X2_shownIn : Cond.instanceMethod yX2_shownIn ∈ gW := gW_in 549 (by decide +kernel) (by decide +kernel)
theorem ml_X2_shownIn : Cond.selects RX2 yX2_shownIn yX2_shownIn ∈ gW := gW_in 34 (by decide +kernel) (by decide +kernel)
def qX0_pairsIn_39 (R4 : Int32 → Int32 → Int32 → St → Prop) (Q : Int32 → St → Prop) (v1 : Int32) (v2 : Int32) (v3 : Int32) (σ : St) : Prop := ∀ x4 : Int32, x4 = v3 + 1 → R4 v1 v2 x4 σ
def qX0_pairsIn_4 (R4 : Int32 → Int32 → Int32 → St → Prop) (Q : Int32 → St → Prop) (v1 : Int32) (v2 : Int32) (v3 : Int32) (σ : St) : Prop := (((σ 12 6) ≤ v3 → (Q v2 σ)) ∧ (¬ (σ 12 6) ≤ v3 → (pX2_isIn v3 v1 σ (fun r2 s1 => ((r2 = 0 → (qX0_pairsIn_39 R4 Q v1 v2 v3 s1)) ∧ (¬ r2 = 0 → (vp_in v3 300 ∧ (((s1 20 (Int32.toNatClampNeg v3)) < 0 → (qX0_pairsIn_39 R4 Q v1 v2 v3 s1)) ∧ (¬ (s1 20 (Int32.toNatClampNeg v3)) < 0 → ∀ x3 : Int32, x3 = v2 + 1 → (qX0_pairsIn_39 R4 Q v1 x3 v3 s1))))))))))
def qX0_pairsIn_l4  (Q : Int32 → St → Prop) : Nat → Int32 → Int32 → Int32 → St → Prop
  | 0 => fun _ _ _ _ => False
  | n + 1 => qX0_pairsIn_4 (qX0_pairsIn_l4  Q n) Q
def pX0_pairsIn (v1 : Int32) (σ : St) (Q : Int32 → St → Prop) : Prop := (∃ n, qX0_pairsIn_l4  Q n v1 0 0 σ)
set_option maxRecDepth 100000 in
set_option maxHeartbeats 4000000 in
theorem kX0_pairsIn (l : Launch) (D : va_G) (ad : Nat → Nat) (T : TT) (hI : injA 40 ad) (v1 : Int32) (σ : St) (Q : Int32 → St → Prop) (h : pX0_pairsIn v1 σ Q) : Ki (KC l D ad T) (wC T ad) yX0_pairsIn cX0_pairsIn 4 (some .int) { frames := 1, cells := 0, slots := 0, locals := 22 } [.ref (ad 18), .int v1] (wC T ad σ) Q := by
  refine st_MI (fr := 1) (lo := 22) (by decide) ⟨rfl, rfl⟩ rfl (Nat.le_of_ble_eq_true rfl) rfl (fun X C hD ret => ?_)
  replace hD : ∀ σ, DX X (wC T ad σ) := fun σ => hD _ (wC_D hI T σ)
  have t39 : ∀ (R4 : Int32 → Int32 → Int32 → St → Prop) (hR4 : ∀ (v1 : Int32) (v2 : Int32) (v3 : Int32) (σ : St), R4 v1 v2 v3 σ → At X 4 (wC T ad σ) 4 [(0, .ref (ad 18)), (1, .int v1), (2, .int v2), (3, .int v3)] []) (v1 : Int32) (v2 : Int32) (v3 : Int32) (σ : St), qX0_pairsIn_39 R4 Q v1 v2 v3 σ → At X 4 (wC T ad σ) 39 [(0, .ref (ad 18)), (1, .int v1), (2, .int v2), (3, .int v3)] [] := by
    intro R4 hR4 v1 v2 v3 σ h
    unfold qX0_pairsIn_39 at h
    obtain ⟨x4, ex4⟩ : ∃ y : Int32, y = v3 + 1 := ⟨_, rfl⟩
    replace h := h x4 ex4
    refine at_iinc (v := x4) (lv' := [(0, .ref (ad 18)), (1, .int v1), (2, .int v2), (3, .int x4)]) C dX0_pairsIn_39 3 rfl (by rw [ex4]; rfl) (by decide) [1, 2, 3, 0] rfl ?_
    refine at_goto (tgt := 4) C dX0_pairsIn_42 (by decide) ?_
    exact hR4 _ _ _ _ h
  have tb4 : ∀ (R4 : Int32 → Int32 → Int32 → St → Prop) (hR4 : ∀ (v1 : Int32) (v2 : Int32) (v3 : Int32) (σ : St), R4 v1 v2 v3 σ → At X 4 (wC T ad σ) 4 [(0, .ref (ad 18)), (1, .int v1), (2, .int v2), (3, .int v3)] []) (v1 : Int32) (v2 : Int32) (v3 : Int32) (σ : St), qX0_pairsIn_4 R4 Q v1 v2 v3 σ → At X 4 (wC T ad σ) 4 [(0, .ref (ad 18)), (1, .int v1), (2, .int v2), (3, .int v3)] [] := by
    intro R4 hR4 v1 v2 v3 σ h
    unfold qX0_pairsIn_4 at h
    refine at_iload_n C dX0_pairsIn_4 3 rfl ?_
    refine at_aload_n C dX0_pairsIn_5 0 rfl ?_
    refine gC_X0_49 C dX0_pairsIn_6 ?_
    refine gC_X0_53 C dX0_pairsIn_9 ?_
    refine at_icmp_ge (tgt := 45) C dX0_pairsIn_12 (by decide) (fun hc => ?_) (fun hc => ?_)
    · replace h := h.1 hc
      refine at_iload_n C dX0_pairsIn_45 2 rfl ?_
      exact ret _ _ _ _ dX0_pairsIn_46 h
    · replace h := h.2 hc
      refine at_aload_n C dX0_pairsIn_15 0 rfl ?_
      refine gC_X0_49 C dX0_pairsIn_16 ?_
      refine at_iload_n C dX0_pairsIn_19 3 rfl ?_
      refine at_iload_n C dX0_pairsIn_20 1 rfl ?_
      refine at_callVNi C (kX2_isIn l D ad T hI _ _ _ _ h) ok_X2_isIn m_X0_59 mi_X2_isIn ml_X2_isIn (wC_g12 T ad _) rfl ⟨rfl, rfl, Nat.le_of_ble_eq_true rfl, Nat.le_of_ble_eq_true rfl⟩ rfl rfl (Nat.le_of_ble_eq_true rfl) dX0_pairsIn_21 (fun r2 s1 h => ?_)
      refine at_if_eq (tgt := 39) C dX0_pairsIn_24 (by decide) (fun hc => ?_) (fun hc => ?_)
      · replace h := h.1 hc
        exact t39 R4 hR4 _ _ _ _ h
      · replace h := h.2 hc
        refine at_aload_n C dX0_pairsIn_27 0 rfl ?_
        refine gC_X0_22 C dX0_pairsIn_28 ?_
        refine at_iload_n C dX0_pairsIn_31 3 rfl ?_
        obtain ⟨hi, h⟩ := h
        refine rC_20 C hi dX0_pairsIn_32 ?_
        refine at_if_lt (tgt := 39) C dX0_pairsIn_33 (by decide) (fun hc => ?_) (fun hc => ?_)
        · replace h := h.1 hc
          exact t39 R4 hR4 _ _ _ _ h
        · replace h := h.2 hc
          obtain ⟨x3, ex3⟩ : ∃ y : Int32, y = v2 + 1 := ⟨_, rfl⟩
          replace h := h x3 ex3
          refine at_iinc (v := x3) (lv' := [(0, .ref (ad 18)), (1, .int v1), (2, .int x3), (3, .int v3)]) C dX0_pairsIn_36 2 rfl (by rw [ex3]; rfl) (by decide) [1, 2, 0, 3] rfl ?_
          exact t39 R4 hR4 _ _ _ _ h
  have t4 : ∀ (n : Nat) (v1 : Int32) (v2 : Int32) (v3 : Int32) (σ : St), qX0_pairsIn_l4  Q n v1 v2 v3 σ → At X 4 (wC T ad σ) 4 [(0, .ref (ad 18)), (1, .int v1), (2, .int v2), (3, .int v3)] [] := by
    intro  n
    induction n with
    | zero => intro v1 v2 v3 σ h; exact False.elim h
    | succ n ih => intro v1 v2 v3 σ h; exact tb4 (qX0_pairsIn_l4  Q n) ih v1 v2 v3 σ h
  unfold pX0_pairsIn at h
  refine at_iconst (v := 0) C dX0_pairsIn_0 (by decide) ?_
  refine at_istore_n (lv' := [(0, .ref (ad 18)), (1, .int v1), (2, .int 0)]) C dX0_pairsIn_1 (by decide) [1, 2, 0] rfl ?_
  refine at_iconst (v := 0) C dX0_pairsIn_2 (by decide) ?_
  refine at_istore_n (lv' := [(0, .ref (ad 18)), (1, .int v1), (2, .int 0), (3, .int 0)]) C dX0_pairsIn_3 (by decide) [1, 2, 3, 0] rfl ?_
  obtain ⟨n, h⟩ := h
  exact t4  n _ _ _ _ h
theorem m_X8_174 : Cond.methodLinkNest RX8 174 yX0_pairsIn "HawkRidge" ∈ nW := nW_in 552 (by decide +kernel) (by decide +kernel)
theorem mc_X0_pairsIn : Cond.code yX0_pairsIn cX0_pairsIn 4 (some .int) ∈ gW := gW_in 555 (by decide +kernel) (by decide +kernel)
theorem ok_X0_pairsIn : okM yX0_pairsIn cX0_pairsIn 4 (some .int) 1 := ⟨mc_X0_pairsIn, mz_RX0, by decide +kernel⟩
theorem mi_X0_pairsIn : Cond.instanceMethod yX0_pairsIn ∈ gW := gW_in 554 (by decide +kernel) (by decide +kernel)
theorem ml_X0_pairsIn : Cond.selects RX0 yX0_pairsIn yX0_pairsIn ∈ gW := gW_in 35 (by decide +kernel) (by decide +kernel)
def qX0_birdsIn_27 (R4 : Int32 → Int32 → Int32 → St → Prop) (Q : Int32 → St → Prop) (v1 : Int32) (v2 : Int32) (v3 : Int32) (σ : St) : Prop := ∀ x4 : Int32, x4 = v3 + 1 → R4 v1 v2 x4 σ
def qX0_birdsIn_4 (R4 : Int32 → Int32 → Int32 → St → Prop) (Q : Int32 → St → Prop) (v1 : Int32) (v2 : Int32) (v3 : Int32) (σ : St) : Prop := (((σ 12 6) ≤ v3 → (Q v2 σ)) ∧ (¬ (σ 12 6) ≤ v3 → (pX0_isBirdOf v3 v1 σ (fun r2 s1 => ((r2 = 0 → (qX0_birdsIn_27 R4 Q v1 v2 v3 s1)) ∧ (¬ r2 = 0 → ∀ x3 : Int32, x3 = v2 + 1 → (qX0_birdsIn_27 R4 Q v1 x3 v3 s1)))))))
def qX0_birdsIn_l4  (Q : Int32 → St → Prop) : Nat → Int32 → Int32 → Int32 → St → Prop
  | 0 => fun _ _ _ _ => False
  | n + 1 => qX0_birdsIn_4 (qX0_birdsIn_l4  Q n) Q
def pX0_birdsIn (v1 : Int32) (σ : St) (Q : Int32 → St → Prop) : Prop := (∃ n, qX0_birdsIn_l4  Q n v1 0 0 σ)
set_option maxRecDepth 100000 in
set_option maxHeartbeats 4000000 in
theorem kX0_birdsIn (l : Launch) (D : va_G) (ad : Nat → Nat) (T : TT) (hI : injA 40 ad) (v1 : Int32) (σ : St) (Q : Int32 → St → Prop) (h : pX0_birdsIn v1 σ Q) : Ki (KC l D ad T) (wC T ad) yX0_birdsIn cX0_birdsIn 4 (some .int) { frames := 2, cells := 0, slots := 0, locals := 44 } [.ref (ad 18), .int v1] (wC T ad σ) Q := by
  refine st_MI (fr := 2) (lo := 44) (by decide) ⟨rfl, rfl⟩ rfl (Nat.le_of_ble_eq_true rfl) rfl (fun X C hD ret => ?_)
  replace hD : ∀ σ, DX X (wC T ad σ) := fun σ => hD _ (wC_D hI T σ)
  have t27 : ∀ (R4 : Int32 → Int32 → Int32 → St → Prop) (hR4 : ∀ (v1 : Int32) (v2 : Int32) (v3 : Int32) (σ : St), R4 v1 v2 v3 σ → At X 4 (wC T ad σ) 4 [(0, .ref (ad 18)), (1, .int v1), (2, .int v2), (3, .int v3)] []) (v1 : Int32) (v2 : Int32) (v3 : Int32) (σ : St), qX0_birdsIn_27 R4 Q v1 v2 v3 σ → At X 4 (wC T ad σ) 27 [(0, .ref (ad 18)), (1, .int v1), (2, .int v2), (3, .int v3)] [] := by
    intro R4 hR4 v1 v2 v3 σ h
    unfold qX0_birdsIn_27 at h
    obtain ⟨x4, ex4⟩ : ∃ y : Int32, y = v3 + 1 := ⟨_, rfl⟩
    replace h := h x4 ex4
    refine at_iinc (v := x4) (lv' := [(0, .ref (ad 18)), (1, .int v1), (2, .int v2), (3, .int x4)]) C dX0_birdsIn_27 3 rfl (by rw [ex4]; rfl) (by decide) [1, 2, 3, 0] rfl ?_
    refine at_goto (tgt := 4) C dX0_birdsIn_30 (by decide) ?_
    exact hR4 _ _ _ _ h
  have tb4 : ∀ (R4 : Int32 → Int32 → Int32 → St → Prop) (hR4 : ∀ (v1 : Int32) (v2 : Int32) (v3 : Int32) (σ : St), R4 v1 v2 v3 σ → At X 4 (wC T ad σ) 4 [(0, .ref (ad 18)), (1, .int v1), (2, .int v2), (3, .int v3)] []) (v1 : Int32) (v2 : Int32) (v3 : Int32) (σ : St), qX0_birdsIn_4 R4 Q v1 v2 v3 σ → At X 4 (wC T ad σ) 4 [(0, .ref (ad 18)), (1, .int v1), (2, .int v2), (3, .int v3)] [] := by
    intro R4 hR4 v1 v2 v3 σ h
    unfold qX0_birdsIn_4 at h
    refine at_iload_n C dX0_birdsIn_4 3 rfl ?_
    refine at_aload_n C dX0_birdsIn_5 0 rfl ?_
    refine gC_X0_49 C dX0_birdsIn_6 ?_
    refine gC_X0_53 C dX0_birdsIn_9 ?_
    refine at_icmp_ge (tgt := 33) C dX0_birdsIn_12 (by decide) (fun hc => ?_) (fun hc => ?_)
    · replace h := h.1 hc
      refine at_iload_n C dX0_birdsIn_33 2 rfl ?_
      exact ret _ _ _ _ dX0_birdsIn_34 h
    · replace h := h.2 hc
      refine at_aload_n C dX0_birdsIn_15 0 rfl ?_
      refine at_iload_n C dX0_birdsIn_16 3 rfl ?_
      refine at_iload_n C dX0_birdsIn_17 1 rfl ?_
      refine at_callVi C (kX0_isBirdOf l D ad T hI _ _ _ _ h) ok_X0_isBirdOf m_X0_124 mi_X0_isBirdOf ml_X0_isBirdOf (wC_g18 T ad _) rfl ⟨rfl, rfl, Nat.le_of_ble_eq_true rfl, Nat.le_of_ble_eq_true rfl⟩ rfl rfl (Nat.le_of_ble_eq_true rfl) dX0_birdsIn_18 (fun r2 s1 h => ?_)
      refine at_if_eq (tgt := 27) C dX0_birdsIn_21 (by decide) (fun hc => ?_) (fun hc => ?_)
      · replace h := h.1 hc
        exact t27 R4 hR4 _ _ _ _ h
      · replace h := h.2 hc
        obtain ⟨x3, ex3⟩ : ∃ y : Int32, y = v2 + 1 := ⟨_, rfl⟩
        replace h := h x3 ex3
        refine at_iinc (v := x3) (lv' := [(0, .ref (ad 18)), (1, .int v1), (2, .int x3), (3, .int v3)]) C dX0_birdsIn_24 2 rfl (by rw [ex3]; rfl) (by decide) [1, 2, 0, 3] rfl ?_
        exact t27 R4 hR4 _ _ _ _ h
  have t4 : ∀ (n : Nat) (v1 : Int32) (v2 : Int32) (v3 : Int32) (σ : St), qX0_birdsIn_l4  Q n v1 v2 v3 σ → At X 4 (wC T ad σ) 4 [(0, .ref (ad 18)), (1, .int v1), (2, .int v2), (3, .int v3)] [] := by
    intro  n
    induction n with
    | zero => intro v1 v2 v3 σ h; exact False.elim h
    | succ n ih => intro v1 v2 v3 σ h; exact tb4 (qX0_birdsIn_l4  Q n) ih v1 v2 v3 σ h
  unfold pX0_birdsIn at h
  refine at_iconst (v := 0) C dX0_birdsIn_0 (by decide) ?_
  refine at_istore_n (lv' := [(0, .ref (ad 18)), (1, .int v1), (2, .int 0)]) C dX0_birdsIn_1 (by decide) [1, 2, 0] rfl ?_
  refine at_iconst (v := 0) C dX0_birdsIn_2 (by decide) ?_
  refine at_istore_n (lv' := [(0, .ref (ad 18)), (1, .int v1), (2, .int 0), (3, .int 0)]) C dX0_birdsIn_3 (by decide) [1, 2, 3, 0] rfl ?_
  obtain ⟨n, h⟩ := h
  exact t4  n _ _ _ _ h
theorem m_X8_177 : Cond.methodLinkNest RX8 177 yX0_birdsIn "HawkRidge" ∈ nW := nW_in 556 (by decide +kernel) (by decide +kernel)
theorem mc_X0_birdsIn : Cond.code yX0_birdsIn cX0_birdsIn 4 (some .int) ∈ gW := gW_in 559 (by decide +kernel) (by decide +kernel)
theorem ok_X0_birdsIn : okM yX0_birdsIn cX0_birdsIn 4 (some .int) 1 := ⟨mc_X0_birdsIn, mz_RX0, by decide +kernel⟩
theorem mi_X0_birdsIn : Cond.instanceMethod yX0_birdsIn ∈ gW := gW_in 558 (by decide +kernel) (by decide +kernel)
theorem ml_X0_birdsIn : Cond.selects RX0 yX0_birdsIn yX0_birdsIn ∈ gW := gW_in 36 (by decide +kernel) (by decide +kernel)
theorem m_X7_18 : Cond.methodLinkNest RX7 18 yX8_dateOf "HawkRidge" ∈ nW := nW_in 568 (by decide +kernel) (by decide +kernel)
theorem m_X7_22 : Cond.methodLink RX7 22 yJ6_bitCount_0f7a4 ∈ gW := gW_in 569 (by decide +kernel) (by decide +kernel)
def qX7_hoursOff_4 (R4 : Int32 → Int32 → Int32 → St → Prop) (Q : Int32 → St → Prop) (v1 : Int32) (v2 : Int32) (v3 : Int32) (σ : St) : Prop := ((30 ≤ v3 → (Q v2 σ)) ∧ (¬ 30 ≤ v3 → (pX8_dateOf v1 v3 σ (fun r2 s1 => (vp_in r2 180 ∧ (pJ6_bitCount_0f7a4 (s1 11 (Int32.toNatClampNeg r2)) s1 (fun r4 s3 => ∀ x5 : Int32, x5 = (v2 + r4) → ∀ x6 : Int32, x6 = v3 + 1 → R4 v1 x5 x6 s3)))))))
def qX7_hoursOff_l4  (Q : Int32 → St → Prop) : Nat → Int32 → Int32 → Int32 → St → Prop
  | 0 => fun _ _ _ _ => False
  | n + 1 => qX7_hoursOff_4 (qX7_hoursOff_l4  Q n) Q
def pX7_hoursOff (v1 : Int32) (σ : St) (Q : Int32 → St → Prop) : Prop := (∃ n, qX7_hoursOff_l4  Q n v1 0 0 σ)
set_option maxRecDepth 100000 in
set_option maxHeartbeats 4000000 in
theorem kX7_hoursOff (l : Launch) (D : va_G) (ad : Nat → Nat) (T : TT) (hI : injA 40 ad) (v1 : Int32) (σ : St) (Q : Int32 → St → Prop) (h : pX7_hoursOff v1 σ Q) : Ki (KC l D ad T) (wC T ad) yX7_hoursOff cX7_hoursOff 4 (some .int) { frames := 1, cells := 0, slots := 0, locals := 21 } [.ref (ad 9), .int v1] (wC T ad σ) Q := by
  refine st_MI (fr := 1) (lo := 21) (by decide) ⟨rfl, rfl⟩ rfl (Nat.le_of_ble_eq_true rfl) rfl (fun X C hD ret => ?_)
  replace hD : ∀ σ, DX X (wC T ad σ) := fun σ => hD _ (wC_D hI T σ)
  have tb4 : ∀ (R4 : Int32 → Int32 → Int32 → St → Prop) (hR4 : ∀ (v1 : Int32) (v2 : Int32) (v3 : Int32) (σ : St), R4 v1 v2 v3 σ → At X 4 (wC T ad σ) 4 [(0, .ref (ad 9)), (1, .int v1), (2, .int v2), (3, .int v3)] []) (v1 : Int32) (v2 : Int32) (v3 : Int32) (σ : St), qX7_hoursOff_4 R4 Q v1 v2 v3 σ → At X 4 (wC T ad σ) 4 [(0, .ref (ad 9)), (1, .int v1), (2, .int v2), (3, .int v3)] [] := by
    intro R4 hR4 v1 v2 v3 σ h
    unfold qX7_hoursOff_4 at h
    refine at_iload_n C dX7_hoursOff_4 3 rfl ?_
    refine at_bipush (v := 30) C dX7_hoursOff_5 (by decide) ?_
    refine at_icmp_ge (tgt := 32) C dX7_hoursOff_7 (by decide) (fun hc => ?_) (fun hc => ?_)
    · replace h := h.1 hc
      refine at_iload_n C dX7_hoursOff_32 2 rfl ?_
      exact ret _ _ _ _ dX7_hoursOff_33 h
    · replace h := h.2 hc
      refine at_iload_n C dX7_hoursOff_10 2 rfl ?_
      refine at_aload_n C dX7_hoursOff_11 0 rfl ?_
      refine gC_X7_15 C dX7_hoursOff_12 ?_
      refine at_iload_n C dX7_hoursOff_15 1 rfl ?_
      refine at_iload_n C dX7_hoursOff_16 3 rfl ?_
      refine at_callSNi C (kX8_dateOf l D ad T hI _ _ _ _ h) ok_X8_dateOf m_X7_18 ms_X8_dateOf ⟨rfl, rfl, Nat.le_of_ble_eq_true rfl, Nat.le_of_ble_eq_true rfl⟩ rfl rfl (Nat.le_of_ble_eq_true rfl) dX7_hoursOff_17 (fun r2 s1 h => ?_)
      obtain ⟨hi, h⟩ := h
      refine rC_11 C hi dX7_hoursOff_20 ?_
      refine at_callSi C (kJ6_bitCount_0f7a4 l D ad T hI _ _ _ h) ok_J6_bitCount_0f7a4 m_X7_22 ms_J6_bitCount_0f7a4 ⟨rfl, rfl, Nat.le_of_ble_eq_true rfl, Nat.le_of_ble_eq_true rfl⟩ rfl rfl (Nat.le_of_ble_eq_true rfl) dX7_hoursOff_21 (fun r4 s3 h => ?_)
      refine at_iadd C dX7_hoursOff_24 ?_
      refine at_topi (fun x5 ex5 => ?_)
      replace h := h x5 ex5
      refine at_istore_n (lv' := [(0, .ref (ad 9)), (1, .int v1), (2, .int x5), (3, .int v3)]) C dX7_hoursOff_25 (by decide) [1, 2, 0, 3] rfl ?_
      obtain ⟨x6, ex6⟩ : ∃ y : Int32, y = v3 + 1 := ⟨_, rfl⟩
      replace h := h x6 ex6
      refine at_iinc (v := x6) (lv' := [(0, .ref (ad 9)), (1, .int v1), (2, .int x5), (3, .int x6)]) C dX7_hoursOff_26 3 rfl (by rw [ex6]; rfl) (by decide) [1, 2, 3, 0] rfl ?_
      refine at_goto (tgt := 4) C dX7_hoursOff_29 (by decide) ?_
      exact hR4 _ _ _ _ h
  have t4 : ∀ (n : Nat) (v1 : Int32) (v2 : Int32) (v3 : Int32) (σ : St), qX7_hoursOff_l4  Q n v1 v2 v3 σ → At X 4 (wC T ad σ) 4 [(0, .ref (ad 9)), (1, .int v1), (2, .int v2), (3, .int v3)] [] := by
    intro  n
    induction n with
    | zero => intro v1 v2 v3 σ h; exact False.elim h
    | succ n ih => intro v1 v2 v3 σ h; exact tb4 (qX7_hoursOff_l4  Q n) ih v1 v2 v3 σ h
  unfold pX7_hoursOff at h
  refine at_iconst (v := 0) C dX7_hoursOff_0 (by decide) ?_
  refine at_istore_n (lv' := [(0, .ref (ad 9)), (1, .int v1), (2, .int 0)]) C dX7_hoursOff_1 (by decide) [1, 2, 0] rfl ?_
  refine at_iconst (v := 0) C dX7_hoursOff_2 (by decide) ?_
  refine at_istore_n (lv' := [(0, .ref (ad 9)), (1, .int v1), (2, .int 0), (3, .int 0)]) C dX7_hoursOff_3 (by decide) [1, 2, 3, 0] rfl ?_
  obtain ⟨n, h⟩ := h
  exact t4  n _ _ _ _ h
theorem m_X8_180 : Cond.methodLinkNest RX8 180 yX7_hoursOff "HawkRidge" ∈ nW := nW_in 564 (by decide +kernel) (by decide +kernel)
theorem mc_X7_hoursOff : Cond.code yX7_hoursOff cX7_hoursOff 4 (some .int) ∈ gW := gW_in 567 (by decide +kernel) (by decide +kernel)
theorem ok_X7_hoursOff : okM yX7_hoursOff cX7_hoursOff 4 (some .int) 1 := ⟨mc_X7_hoursOff, mz_RX7, by decide +kernel⟩
theorem mi_X7_hoursOff : Cond.instanceMethod yX7_hoursOff ∈ gW := gW_in 566 (by decide +kernel) (by decide +kernel)
theorem ml_X7_hoursOff : Cond.selects RX7 yX7_hoursOff yX7_hoursOff ∈ gW := gW_in 38 (by decide +kernel) (by decide +kernel)
theorem m_X8_58 : Cond.fieldLink RX8 58 RX8 "missed" "LHawkRidge$Missed;" ∈ gW := gW_in 323 (by decide +kernel) (by decide +kernel)
theorem gC_X8_58 {X : XT} {l : Launch} {D : va_G} {ad : Nat → Nat} {T : TT} {cc : ByteArray} {nL fr lo : Nat} {σ : St} {pc : Nat} {lv : List (Nat × Value)} {st : List Value} (C : Cx X (KC l D ad T) cc RX8 nL fr lo) (d : decode cc pc = .ok (.getfield 58, 3)) (kk : At X nL (wC T ad σ) (pc + 3) lv (.ref (ad 36) :: st)) : At X nL (wC T ad σ) pc lv (.ref (ad 0) :: st) := at_get C ingX8 (ci := 8) rfl 0 (wC_g0 T ad σ) 6 (by decide) m_X8_58 rfl rfl d kk
theorem m_X4_9 : Cond.fieldLink RX4 9 RX4 "seen" "[I" ∈ gW := gW_in 304 (by decide +kernel) (by decide +kernel)
theorem gC_X4_9 {X : XT} {l : Launch} {D : va_G} {ad : Nat → Nat} {T : TT} {cc : ByteArray} {nL fr lo : Nat} {σ : St} {pc : Nat} {lv : List (Nat × Value)} {st : List Value} (C : Cx X (KC l D ad T) cc RX4 nL fr lo) (d : decode cc pc = .ok (.getfield 9, 3)) (kk : At X nL (wC T ad σ) (pc + 3) lv (.ref (ad 37) :: st)) : At X nL (wC T ad σ) pc lv (.ref (ad 36) :: st) := at_get C ingX4 (ci := 4) rfl 36 (wC_g36 T ad σ) 0 (by decide) m_X4_9 rfl rfl d kk
theorem m_X4_15 : Cond.fieldLink RX4 15 RX4 "open" "[I" ∈ gW := gW_in 306 (by decide +kernel) (by decide +kernel)
theorem gC_X4_15 {X : XT} {l : Launch} {D : va_G} {ad : Nat → Nat} {T : TT} {cc : ByteArray} {nL fr lo : Nat} {σ : St} {pc : Nat} {lv : List (Nat × Value)} {st : List Value} (C : Cx X (KC l D ad T) cc RX4 nL fr lo) (d : decode cc pc = .ok (.getfield 15, 3)) (kk : At X nL (wC T ad σ) (pc + 3) lv (.ref (ad 38) :: st)) : At X nL (wC T ad σ) pc lv (.ref (ad 36) :: st) := at_get C ingX4 (ci := 4) rfl 36 (wC_g36 T ad σ) 1 (by decide) m_X4_15 rfl rfl d kk
theorem m_X4_18 : Cond.fieldLink RX4 18 RX4 "shut" "[I" ∈ gW := gW_in 308 (by decide +kernel) (by decide +kernel)
theorem gC_X4_18 {X : XT} {l : Launch} {D : va_G} {ad : Nat → Nat} {T : TT} {cc : ByteArray} {nL fr lo : Nat} {σ : St} {pc : Nat} {lv : List (Nat × Value)} {st : List Value} (C : Cx X (KC l D ad T) cc RX4 nL fr lo) (d : decode cc pc = .ok (.getfield 18, 3)) (kk : At X nL (wC T ad σ) (pc + 3) lv (.ref (ad 39) :: st)) : At X nL (wC T ad σ) pc lv (.ref (ad 36) :: st) := at_get C ingX4 (ci := 4) rfl 36 (wC_g36 T ad σ) 2 (by decide) m_X4_18 rfl rfl d kk
def qX4_clear_2 (R2 : Int32 → St → Prop) (Q : St → Prop) (v1 : Int32) (σ : St) : Prop := ((4 ≤ v1 → (Q σ)) ∧ (¬ 4 ≤ v1 → (vp_in v1 4 ∧ ∀ s1 : St, s1 = (st_up σ 37 (Int32.toNatClampNeg v1) 0) → (vp_in v1 4 ∧ ∀ s2 : St, s2 = (st_up s1 38 (Int32.toNatClampNeg v1) 0) → (vp_in v1 4 ∧ ∀ s3 : St, s3 = (st_up s2 39 (Int32.toNatClampNeg v1) 0) → ∀ x4 : Int32, x4 = v1 + 1 → R2 x4 s3)))))
def qX4_clear_l2  (Q : St → Prop) : Nat → Int32 → St → Prop
  | 0 => fun _ _ => False
  | n + 1 => qX4_clear_2 (qX4_clear_l2  Q n) Q
def pX4_clear  (σ : St) (Q : St → Prop) : Prop := (∃ n, qX4_clear_l2  Q n 0 σ)
set_option maxRecDepth 100000 in
set_option maxHeartbeats 4000000 in
theorem kX4_clear (l : Launch) (D : va_G) (ad : Nat → Nat) (T : TT) (hI : injA 40 ad)  (σ : St) (Q : St → Prop) (h : pX4_clear  σ Q) : Kv (KC l D ad T) (wC T ad) yX4_clear cX4_clear 2 none { frames := 0, cells := 0, slots := 0, locals := 0 } [.ref (ad 36)] (wC T ad σ) Q := by
  refine st_MV (fr := 0) (lo := 0) (by decide) ⟨rfl, rfl⟩ rfl (Nat.le_of_ble_eq_true rfl) rfl (fun X C hD ret => ?_)
  replace hD : ∀ σ, DX X (wC T ad σ) := fun σ => hD _ (wC_D hI T σ)
  have tb2 : ∀ (R2 : Int32 → St → Prop) (hR2 : ∀ (v1 : Int32) (σ : St), R2 v1 σ → At X 2 (wC T ad σ) 2 [(0, .ref (ad 36)), (1, .int v1)] []) (v1 : Int32) (σ : St), qX4_clear_2 R2 Q v1 σ → At X 2 (wC T ad σ) 2 [(0, .ref (ad 36)), (1, .int v1)] [] := by
    intro R2 hR2 v1 σ h
    unfold qX4_clear_2 at h
    refine at_iload_n C dX4_clear_2 1 rfl ?_
    refine at_iconst (v := 4) C dX4_clear_3 (by decide) ?_
    refine at_icmp_ge (tgt := 34) C dX4_clear_4 (by decide) (fun hc => ?_) (fun hc => ?_)
    · replace h := h.1 hc
      exact ret _ _ _ dX4_clear_34 h
    · replace h := h.2 hc
      refine at_aload_n C dX4_clear_7 0 rfl ?_
      refine gC_X4_9 C dX4_clear_8 ?_
      refine at_iload_n C dX4_clear_11 1 rfl ?_
      refine at_iconst (v := 0) C dX4_clear_12 (by decide) ?_
      obtain ⟨hi, h⟩ := h
      refine sC_37 C hD hi dX4_clear_13 (fun s1 es1 => ?_)
      replace h := h s1 es1
      refine at_aload_n C dX4_clear_14 0 rfl ?_
      refine gC_X4_15 C dX4_clear_15 ?_
      refine at_iload_n C dX4_clear_18 1 rfl ?_
      refine at_iconst (v := 0) C dX4_clear_19 (by decide) ?_
      obtain ⟨hi, h⟩ := h
      refine sC_38 C hD hi dX4_clear_20 (fun s2 es2 => ?_)
      replace h := h s2 es2
      refine at_aload_n C dX4_clear_21 0 rfl ?_
      refine gC_X4_18 C dX4_clear_22 ?_
      refine at_iload_n C dX4_clear_25 1 rfl ?_
      refine at_iconst (v := 0) C dX4_clear_26 (by decide) ?_
      obtain ⟨hi, h⟩ := h
      refine sC_39 C hD hi dX4_clear_27 (fun s3 es3 => ?_)
      replace h := h s3 es3
      obtain ⟨x4, ex4⟩ : ∃ y : Int32, y = v1 + 1 := ⟨_, rfl⟩
      replace h := h x4 ex4
      refine at_iinc (v := x4) (lv' := [(0, .ref (ad 36)), (1, .int x4)]) C dX4_clear_28 1 rfl (by rw [ex4]; rfl) (by decide) [1, 0] rfl ?_
      refine at_goto (tgt := 2) C dX4_clear_31 (by decide) ?_
      exact hR2 _ _ h
  have t2 : ∀ (n : Nat) (v1 : Int32) (σ : St), qX4_clear_l2  Q n v1 σ → At X 2 (wC T ad σ) 2 [(0, .ref (ad 36)), (1, .int v1)] [] := by
    intro  n
    induction n with
    | zero => intro v1 σ h; exact False.elim h
    | succ n ih => intro v1 σ h; exact tb2 (qX4_clear_l2  Q n) ih v1 σ h
  unfold pX4_clear at h
  refine at_iconst (v := 0) C dX4_clear_0 (by decide) ?_
  refine at_istore_n (lv' := [(0, .ref (ad 36)), (1, .int 0)]) C dX4_clear_1 (by decide) [1, 0] rfl ?_
  obtain ⟨n, h⟩ := h
  exact t2  n _ _ h
theorem m_X8_214 : Cond.methodLinkNest RX8 214 yX4_clear "HawkRidge" ∈ nW := nW_in 574 (by decide +kernel) (by decide +kernel)
theorem mc_X4_clear : Cond.code yX4_clear cX4_clear 2 none ∈ gW := gW_in 577 (by decide +kernel) (by decide +kernel)
theorem mz_RX4 : Cond.initialized RX4 ∈ gW := gW_in 90 (by decide +kernel) (by decide +kernel)
theorem ok_X4_clear : okM yX4_clear cX4_clear 2 none 0 := ⟨mc_X4_clear, mz_RX4, by decide +kernel⟩
theorem mi_X4_clear : Cond.instanceMethod yX4_clear ∈ gW := gW_in 576 (by decide +kernel) (by decide +kernel)
theorem ml_X4_clear : Cond.selects RX4 yX4_clear yX4_clear ∈ gW := gW_in 40 (by decide +kernel) (by decide +kernel)
theorem m_X8_215 : Cond.fieldLinkNest RX8 215 RX4 "open" "[I" "HawkRidge" ∈ nW := nW_in 307 (by decide +kernel) (by decide +kernel)
theorem gC_X8_215 {X : XT} {l : Launch} {D : va_G} {ad : Nat → Nat} {T : TT} {cc : ByteArray} {nL fr lo : Nat} {σ : St} {pc : Nat} {lv : List (Nat × Value)} {st : List Value} (C : Cx X (KC l D ad T) cc RX8 nL fr lo) (d : decode cc pc = .ok (.getfield 215, 3)) (kk : At X nL (wC T ad σ) (pc + 3) lv (.ref (ad 38) :: st)) : At X nL (wC T ad σ) pc lv (.ref (ad 36) :: st) := at_getN C ingX4 (ci := 4) rfl 36 (wC_g36 T ad σ) 1 (by decide) m_X8_215 rfl rfl d kk
theorem m_X8_218 : Cond.fieldLinkNest RX8 218 RX4 "shut" "[I" "HawkRidge" ∈ nW := nW_in 309 (by decide +kernel) (by decide +kernel)
theorem gC_X8_218 {X : XT} {l : Launch} {D : va_G} {ad : Nat → Nat} {T : TT} {cc : ByteArray} {nL fr lo : Nat} {σ : St} {pc : Nat} {lv : List (Nat × Value)} {st : List Value} (C : Cx X (KC l D ad T) cc RX8 nL fr lo) (d : decode cc pc = .ok (.getfield 218, 3)) (kk : At X nL (wC T ad σ) (pc + 3) lv (.ref (ad 39) :: st)) : At X nL (wC T ad σ) pc lv (.ref (ad 36) :: st) := at_getN C ingX4 (ci := 4) rfl 36 (wC_g36 T ad σ) 2 (by decide) m_X8_218 rfl rfl d kk
theorem m_X7_9 : Cond.fieldLink RX7 9 RX7 "windOf" "[I" ∈ gW := gW_in 154 (by decide +kernel) (by decide +kernel)
theorem gC_X7_9 {X : XT} {l : Launch} {D : va_G} {ad : Nat → Nat} {T : TT} {cc : ByteArray} {nL fr lo : Nat} {σ : St} {pc : Nat} {lv : List (Nat × Value)} {st : List Value} (C : Cx X (KC l D ad T) cc RX7 nL fr lo) (d : decode cc pc = .ok (.getfield 9, 3)) (kk : At X nL (wC T ad σ) (pc + 3) lv (.ref (ad 10) :: st)) : At X nL (wC T ad σ) pc lv (.ref (ad 9) :: st) := at_get C ingX7 (ci := 7) rfl 9 (wC_g9 T ad σ) 0 (by decide) m_X7_9 rfl rfl d kk
def qX7_addHours_a38_a39_3 (R3 : Int32 → Int32 → St → Prop) (Q : St → Prop) (v1 : Int32) (v4 : Int32) (σ : St) : Prop := ((30 ≤ v4 → (Q σ)) ∧ (¬ 30 ≤ v4 → (pX8_dateOf v1 v4 σ (fun r2 s1 => (vp_in r2 180 ∧ (pJ6_bitCount_0f7a4 (s1 11 (Int32.toNatClampNeg r2)) s1 (fun r4 s3 => (vp_in r2 180 ∧ (vp_in (s3 10 (Int32.toNatClampNeg r2)) 4 ∧ (vp_in (s3 10 (Int32.toNatClampNeg r2)) 4 ∧ ∀ s5 : St, s5 = (st_up s3 39 (Int32.toNatClampNeg (s3 10 (Int32.toNatClampNeg r2))) ((s3 39 (Int32.toNatClampNeg (s3 10 (Int32.toNatClampNeg r2)))) + r4)) → (vp_in r2 180 ∧ (vp_in (s5 10 (Int32.toNatClampNeg r2)) 4 ∧ (vp_in (s5 10 (Int32.toNatClampNeg r2)) 4 ∧ ∀ s6 : St, s6 = (st_up s5 38 (Int32.toNatClampNeg (s5 10 (Int32.toNatClampNeg r2))) ((s5 38 (Int32.toNatClampNeg (s5 10 (Int32.toNatClampNeg r2)))) + (10 - r4))) → ∀ x7 : Int32, x7 = v4 + 1 → R3 v1 x7 s6)))))))))))))
def qX7_addHours_a38_a39_l3  (Q : St → Prop) : Nat → Int32 → Int32 → St → Prop
  | 0 => fun _ _ _ => False
  | n + 1 => qX7_addHours_a38_a39_3 (qX7_addHours_a38_a39_l3  Q n) Q
def pX7_addHours_a38_a39 (v1 : Int32) (σ : St) (Q : St → Prop) : Prop := (∃ n, qX7_addHours_a38_a39_l3  Q n v1 0 σ)
set_option maxRecDepth 100000 in
set_option maxHeartbeats 4000000 in
theorem kX7_addHours_a38_a39 (l : Launch) (D : va_G) (ad : Nat → Nat) (T : TT) (hI : injA 40 ad) (v1 : Int32) (σ : St) (Q : St → Prop) (h : pX7_addHours_a38_a39 v1 σ Q) : Kv (KC l D ad T) (wC T ad) yX7_addHours cX7_addHours 7 none { frames := 1, cells := 0, slots := 0, locals := 21 } [.ref (ad 9), .int v1, .ref (ad 38), .ref (ad 39)] (wC T ad σ) Q := by
  refine st_MV (fr := 1) (lo := 21) (by decide) ⟨rfl, rfl⟩ rfl (Nat.le_of_ble_eq_true rfl) rfl (fun X C hD ret => ?_)
  replace hD : ∀ σ, DX X (wC T ad σ) := fun σ => hD _ (wC_D hI T σ)
  have tb3 : ∀ (R3 : Int32 → Int32 → St → Prop) (hR3 : ∀ (v1 : Int32) (v4 : Int32) (σ : St), R3 v1 v4 σ → At X 7 (wC T ad σ) 3 [(0, .ref (ad 9)), (1, .int v1), (2, .ref (ad 38)), (3, .ref (ad 39)), (4, .int v4)] []) (v1 : Int32) (v4 : Int32) (σ : St), qX7_addHours_a38_a39_3 R3 Q v1 v4 σ → At X 7 (wC T ad σ) 3 [(0, .ref (ad 9)), (1, .int v1), (2, .ref (ad 38)), (3, .ref (ad 39)), (4, .int v4)] [] := by
    intro R3 hR3 v1 v4 σ h
    unfold qX7_addHours_a38_a39_3 at h
    refine at_iload C dX7_addHours_3 4 rfl ?_
    refine at_bipush (v := 30) C dX7_addHours_5 (by decide) ?_
    refine at_icmp_ge (tgt := 67) C dX7_addHours_7 (by decide) (fun hc => ?_) (fun hc => ?_)
    · replace h := h.1 hc
      exact ret _ _ _ dX7_addHours_67 h
    · replace h := h.2 hc
      refine at_iload_n C dX7_addHours_10 1 rfl ?_
      refine at_iload C dX7_addHours_11 4 rfl ?_
      refine at_callSNi C (kX8_dateOf l D ad T hI _ _ _ _ h) ok_X8_dateOf m_X7_18 ms_X8_dateOf ⟨rfl, rfl, Nat.le_of_ble_eq_true rfl, Nat.le_of_ble_eq_true rfl⟩ rfl rfl (Nat.le_of_ble_eq_true rfl) dX7_addHours_13 (fun r2 s1 h => ?_)
      refine at_istore (lv' := [(0, .ref (ad 9)), (1, .int v1), (2, .ref (ad 38)), (3, .ref (ad 39)), (4, .int v4), (5, .int r2)]) C dX7_addHours_16 (by decide) [1, 2, 3, 4, 5, 0] rfl ?_
      refine at_aload_n C dX7_addHours_18 0 rfl ?_
      refine gC_X7_15 C dX7_addHours_19 ?_
      refine at_iload C dX7_addHours_22 5 rfl ?_
      obtain ⟨hi, h⟩ := h
      refine rC_11 C hi dX7_addHours_24 ?_
      refine at_callSi C (kJ6_bitCount_0f7a4 l D ad T hI _ _ _ h) ok_J6_bitCount_0f7a4 m_X7_22 ms_J6_bitCount_0f7a4 ⟨rfl, rfl, Nat.le_of_ble_eq_true rfl, Nat.le_of_ble_eq_true rfl⟩ rfl rfl (Nat.le_of_ble_eq_true rfl) dX7_addHours_25 (fun r4 s3 h => ?_)
      refine at_istore (lv' := [(0, .ref (ad 9)), (1, .int v1), (2, .ref (ad 38)), (3, .ref (ad 39)), (4, .int v4), (5, .int r2), (6, .int r4)]) C dX7_addHours_28 (by decide) [1, 2, 3, 4, 5, 6, 0] rfl ?_
      refine at_aload_n C dX7_addHours_30 3 rfl ?_
      refine at_aload_n C dX7_addHours_31 0 rfl ?_
      refine gC_X7_9 C dX7_addHours_32 ?_
      refine at_iload C dX7_addHours_35 5 rfl ?_
      obtain ⟨hi, h⟩ := h
      refine rC_10 C hi dX7_addHours_37 ?_
      refine at_dup2 C dX7_addHours_38 rfl rfl ?_
      obtain ⟨hi, h⟩ := h
      refine rC_39 C hi dX7_addHours_39 ?_
      refine at_iload C dX7_addHours_40 6 rfl ?_
      refine at_iadd C dX7_addHours_42 ?_
      obtain ⟨hi, h⟩ := h
      refine sC_39 C hD hi dX7_addHours_43 (fun s5 es5 => ?_)
      replace h := h s5 es5
      refine at_aload_n C dX7_addHours_44 2 rfl ?_
      refine at_aload_n C dX7_addHours_45 0 rfl ?_
      refine gC_X7_9 C dX7_addHours_46 ?_
      refine at_iload C dX7_addHours_49 5 rfl ?_
      obtain ⟨hi, h⟩ := h
      refine rC_10 C hi dX7_addHours_51 ?_
      refine at_dup2 C dX7_addHours_52 rfl rfl ?_
      obtain ⟨hi, h⟩ := h
      refine rC_38 C hi dX7_addHours_53 ?_
      refine at_bipush (v := 10) C dX7_addHours_54 (by decide) ?_
      refine at_iload C dX7_addHours_56 6 rfl ?_
      refine at_isub C dX7_addHours_58 ?_
      refine at_iadd C dX7_addHours_59 ?_
      obtain ⟨hi, h⟩ := h
      refine sC_38 C hD hi dX7_addHours_60 (fun s6 es6 => ?_)
      replace h := h s6 es6
      obtain ⟨x7, ex7⟩ : ∃ y : Int32, y = v4 + 1 := ⟨_, rfl⟩
      replace h := h x7 ex7
      refine at_iinc (v := x7) (lv' := [(0, .ref (ad 9)), (1, .int v1), (2, .ref (ad 38)), (3, .ref (ad 39)), (4, .int x7), (5, .int r2), (6, .int r4)]) C dX7_addHours_61 4 rfl (by rw [ex7]; rfl) (by decide) [1, 2, 3, 4, 0, 5, 6] rfl ?_
      refine at_goto (tgt := 3) C dX7_addHours_64 (by decide) ?_
      refine at_sub [0, 1, 2, 3, 4] rfl ?_
      exact hR3 _ _ _ h
  have t3 : ∀ (n : Nat) (v1 : Int32) (v4 : Int32) (σ : St), qX7_addHours_a38_a39_l3  Q n v1 v4 σ → At X 7 (wC T ad σ) 3 [(0, .ref (ad 9)), (1, .int v1), (2, .ref (ad 38)), (3, .ref (ad 39)), (4, .int v4)] [] := by
    intro  n
    induction n with
    | zero => intro v1 v4 σ h; exact False.elim h
    | succ n ih => intro v1 v4 σ h; exact tb3 (qX7_addHours_a38_a39_l3  Q n) ih v1 v4 σ h
  unfold pX7_addHours_a38_a39 at h
  refine at_iconst (v := 0) C dX7_addHours_0 (by decide) ?_
  refine at_istore (lv' := [(0, .ref (ad 9)), (1, .int v1), (2, .ref (ad 38)), (3, .ref (ad 39)), (4, .int 0)]) C dX7_addHours_1 (by decide) [1, 2, 3, 4, 0] rfl ?_
  obtain ⟨n, h⟩ := h
  exact t3  n _ _ _ h
theorem m_X8_221 : Cond.methodLinkNest RX8 221 yX7_addHours "HawkRidge" ∈ nW := nW_in 578 (by decide +kernel) (by decide +kernel)
theorem mc_X7_addHours : Cond.code yX7_addHours cX7_addHours 7 none ∈ gW := gW_in 581 (by decide +kernel) (by decide +kernel)
theorem ok_X7_addHours : okM yX7_addHours cX7_addHours 7 none 3 := ⟨mc_X7_addHours, mz_RX7, by decide +kernel⟩
theorem mi_X7_addHours : Cond.instanceMethod yX7_addHours ∈ gW := gW_in 580 (by decide +kernel) (by decide +kernel)
theorem ml_X7_addHours : Cond.selects RX7 yX7_addHours yX7_addHours ∈ gW := gW_in 41 (by decide +kernel) (by decide +kernel)
theorem m_X8_225 : Cond.fieldLinkNest RX8 225 RX4 "seen" "[I" "HawkRidge" ∈ nW := nW_in 305 (by decide +kernel) (by decide +kernel)
theorem gC_X8_225 {X : XT} {l : Launch} {D : va_G} {ad : Nat → Nat} {T : TT} {cc : ByteArray} {nL fr lo : Nat} {σ : St} {pc : Nat} {lv : List (Nat × Value)} {st : List Value} (C : Cx X (KC l D ad T) cc RX8 nL fr lo) (d : decode cc pc = .ok (.getfield 225, 3)) (kk : At X nL (wC T ad σ) (pc + 3) lv (.ref (ad 37) :: st)) : At X nL (wC T ad σ) pc lv (.ref (ad 36) :: st) := at_getN C ingX4 (ci := 4) rfl 36 (wC_g36 T ad σ) 0 (by decide) m_X8_225 rfl rfl d kk
theorem m_X0_127 : Cond.fieldLinkNest RX0 127 RX7 "windOf" "[I" "HawkRidge" ∈ nW := nW_in 156 (by decide +kernel) (by decide +kernel)
theorem gC_X0_127 {X : XT} {l : Launch} {D : va_G} {ad : Nat → Nat} {T : TT} {cc : ByteArray} {nL fr lo : Nat} {σ : St} {pc : Nat} {lv : List (Nat × Value)} {st : List Value} (C : Cx X (KC l D ad T) cc RX0 nL fr lo) (d : decode cc pc = .ok (.getfield 127, 3)) (kk : At X nL (wC T ad σ) (pc + 3) lv (.ref (ad 10) :: st)) : At X nL (wC T ad σ) pc lv (.ref (ad 9) :: st) := at_getN C ingX7 (ci := 7) rfl 9 (wC_g9 T ad σ) 0 (by decide) m_X0_127 rfl rfl d kk
def qX0_addWinds_a9_a37_46 (R3 : Int32 → Int32 → St → Prop) (Q : St → Prop) (v1 : Int32) (v4 : Int32) (σ : St) : Prop := ∀ x4 : Int32, x4 = v4 + 1 → R3 v1 x4 σ
def qX0_addWinds_a9_a37_3 (R3 : Int32 → Int32 → St → Prop) (Q : St → Prop) (v1 : Int32) (v4 : Int32) (σ : St) : Prop := (((σ 12 6) ≤ v4 → (Q σ)) ∧ (¬ (σ 12 6) ≤ v4 → (pX0_isBirdOf v4 v1 σ (fun r2 s1 => ((r2 = 0 → (qX0_addWinds_a9_a37_46 R3 Q v1 v4 s1)) ∧ (¬ r2 = 0 → (vp_in v4 300 ∧ (vp_in (s1 13 (Int32.toNatClampNeg v4)) 180 ∧ (vp_in (s1 10 (Int32.toNatClampNeg (s1 13 (Int32.toNatClampNeg v4)))) 4 ∧ (vp_in (s1 10 (Int32.toNatClampNeg (s1 13 (Int32.toNatClampNeg v4)))) 4 ∧ ∀ s3 : St, s3 = (st_up s1 37 (Int32.toNatClampNeg (s1 10 (Int32.toNatClampNeg (s1 13 (Int32.toNatClampNeg v4))))) ((s1 37 (Int32.toNatClampNeg (s1 10 (Int32.toNatClampNeg (s1 13 (Int32.toNatClampNeg v4)))))) + 1)) → (qX0_addWinds_a9_a37_46 R3 Q v1 v4 s3)))))))))))
def qX0_addWinds_a9_a37_l3  (Q : St → Prop) : Nat → Int32 → Int32 → St → Prop
  | 0 => fun _ _ _ => False
  | n + 1 => qX0_addWinds_a9_a37_3 (qX0_addWinds_a9_a37_l3  Q n) Q
def pX0_addWinds_a9_a37 (v1 : Int32) (σ : St) (Q : St → Prop) : Prop := (∃ n, qX0_addWinds_a9_a37_l3  Q n v1 0 σ)
set_option maxRecDepth 100000 in
set_option maxHeartbeats 4000000 in
theorem kX0_addWinds_a9_a37 (l : Launch) (D : va_G) (ad : Nat → Nat) (T : TT) (hI : injA 40 ad) (v1 : Int32) (σ : St) (Q : St → Prop) (h : pX0_addWinds_a9_a37 v1 σ Q) : Kv (KC l D ad T) (wC T ad) yX0_addWinds cX0_addWinds 5 none { frames := 2, cells := 0, slots := 0, locals := 44 } [.ref (ad 18), .int v1, .ref (ad 9), .ref (ad 37)] (wC T ad σ) Q := by
  refine st_MV (fr := 2) (lo := 44) (by decide) ⟨rfl, rfl⟩ rfl (Nat.le_of_ble_eq_true rfl) rfl (fun X C hD ret => ?_)
  replace hD : ∀ σ, DX X (wC T ad σ) := fun σ => hD _ (wC_D hI T σ)
  have t46 : ∀ (R3 : Int32 → Int32 → St → Prop) (hR3 : ∀ (v1 : Int32) (v4 : Int32) (σ : St), R3 v1 v4 σ → At X 5 (wC T ad σ) 3 [(0, .ref (ad 18)), (1, .int v1), (2, .ref (ad 9)), (3, .ref (ad 37)), (4, .int v4)] []) (v1 : Int32) (v4 : Int32) (σ : St), qX0_addWinds_a9_a37_46 R3 Q v1 v4 σ → At X 5 (wC T ad σ) 46 [(0, .ref (ad 18)), (1, .int v1), (2, .ref (ad 9)), (3, .ref (ad 37)), (4, .int v4)] [] := by
    intro R3 hR3 v1 v4 σ h
    unfold qX0_addWinds_a9_a37_46 at h
    obtain ⟨x4, ex4⟩ : ∃ y : Int32, y = v4 + 1 := ⟨_, rfl⟩
    replace h := h x4 ex4
    refine at_iinc (v := x4) (lv' := [(0, .ref (ad 18)), (1, .int v1), (2, .ref (ad 9)), (3, .ref (ad 37)), (4, .int x4)]) C dX0_addWinds_46 4 rfl (by rw [ex4]; rfl) (by decide) [1, 2, 3, 4, 0] rfl ?_
    refine at_goto (tgt := 3) C dX0_addWinds_49 (by decide) ?_
    exact hR3 _ _ _ h
  have tb3 : ∀ (R3 : Int32 → Int32 → St → Prop) (hR3 : ∀ (v1 : Int32) (v4 : Int32) (σ : St), R3 v1 v4 σ → At X 5 (wC T ad σ) 3 [(0, .ref (ad 18)), (1, .int v1), (2, .ref (ad 9)), (3, .ref (ad 37)), (4, .int v4)] []) (v1 : Int32) (v4 : Int32) (σ : St), qX0_addWinds_a9_a37_3 R3 Q v1 v4 σ → At X 5 (wC T ad σ) 3 [(0, .ref (ad 18)), (1, .int v1), (2, .ref (ad 9)), (3, .ref (ad 37)), (4, .int v4)] [] := by
    intro R3 hR3 v1 v4 σ h
    unfold qX0_addWinds_a9_a37_3 at h
    refine at_iload C dX0_addWinds_3 4 rfl ?_
    refine at_aload_n C dX0_addWinds_5 0 rfl ?_
    refine gC_X0_49 C dX0_addWinds_6 ?_
    refine gC_X0_53 C dX0_addWinds_9 ?_
    refine at_icmp_ge (tgt := 52) C dX0_addWinds_12 (by decide) (fun hc => ?_) (fun hc => ?_)
    · replace h := h.1 hc
      exact ret _ _ _ dX0_addWinds_52 h
    · replace h := h.2 hc
      refine at_aload_n C dX0_addWinds_15 0 rfl ?_
      refine at_iload C dX0_addWinds_16 4 rfl ?_
      refine at_iload_n C dX0_addWinds_18 1 rfl ?_
      refine at_callVi C (kX0_isBirdOf l D ad T hI _ _ _ _ h) ok_X0_isBirdOf m_X0_124 mi_X0_isBirdOf ml_X0_isBirdOf (wC_g18 T ad _) rfl ⟨rfl, rfl, Nat.le_of_ble_eq_true rfl, Nat.le_of_ble_eq_true rfl⟩ rfl rfl (Nat.le_of_ble_eq_true rfl) dX0_addWinds_19 (fun r2 s1 h => ?_)
      refine at_if_eq (tgt := 46) C dX0_addWinds_22 (by decide) (fun hc => ?_) (fun hc => ?_)
      · replace h := h.1 hc
        exact t46 R3 hR3 _ _ _ h
      · replace h := h.2 hc
        refine at_aload_n C dX0_addWinds_25 3 rfl ?_
        refine at_aload_n C dX0_addWinds_26 2 rfl ?_
        refine gC_X0_127 C dX0_addWinds_27 ?_
        refine at_aload_n C dX0_addWinds_30 0 rfl ?_
        refine gC_X0_49 C dX0_addWinds_31 ?_
        refine gC_X0_63 C dX0_addWinds_34 ?_
        refine at_iload C dX0_addWinds_37 4 rfl ?_
        obtain ⟨hi, h⟩ := h
        refine rC_13 C hi dX0_addWinds_39 ?_
        obtain ⟨hi, h⟩ := h
        refine rC_10 C hi dX0_addWinds_40 ?_
        refine at_dup2 C dX0_addWinds_41 rfl rfl ?_
        obtain ⟨hi, h⟩ := h
        refine rC_37 C hi dX0_addWinds_42 ?_
        refine at_iconst (v := 1) C dX0_addWinds_43 (by decide) ?_
        refine at_iadd C dX0_addWinds_44 ?_
        obtain ⟨hi, h⟩ := h
        refine sC_37 C hD hi dX0_addWinds_45 (fun s3 es3 => ?_)
        replace h := h s3 es3
        exact t46 R3 hR3 _ _ _ h
  have t3 : ∀ (n : Nat) (v1 : Int32) (v4 : Int32) (σ : St), qX0_addWinds_a9_a37_l3  Q n v1 v4 σ → At X 5 (wC T ad σ) 3 [(0, .ref (ad 18)), (1, .int v1), (2, .ref (ad 9)), (3, .ref (ad 37)), (4, .int v4)] [] := by
    intro  n
    induction n with
    | zero => intro v1 v4 σ h; exact False.elim h
    | succ n ih => intro v1 v4 σ h; exact tb3 (qX0_addWinds_a9_a37_l3  Q n) ih v1 v4 σ h
  unfold pX0_addWinds_a9_a37 at h
  refine at_iconst (v := 0) C dX0_addWinds_0 (by decide) ?_
  refine at_istore (lv' := [(0, .ref (ad 18)), (1, .int v1), (2, .ref (ad 9)), (3, .ref (ad 37)), (4, .int 0)]) C dX0_addWinds_1 (by decide) [1, 2, 3, 4, 0] rfl ?_
  obtain ⟨n, h⟩ := h
  exact t3  n _ _ _ h
theorem m_X8_228 : Cond.methodLinkNest RX8 228 yX0_addWinds "HawkRidge" ∈ nW := nW_in 582 (by decide +kernel) (by decide +kernel)
theorem mc_X0_addWinds : Cond.code yX0_addWinds cX0_addWinds 5 none ∈ gW := gW_in 585 (by decide +kernel) (by decide +kernel)
theorem ok_X0_addWinds : okM yX0_addWinds cX0_addWinds 5 none 3 := ⟨mc_X0_addWinds, mz_RX0, by decide +kernel⟩
theorem mi_X0_addWinds : Cond.instanceMethod yX0_addWinds ∈ gW := gW_in 584 (by decide +kernel) (by decide +kernel)
theorem ml_X0_addWinds : Cond.selects RX0 yX0_addWinds yX0_addWinds ∈ gW := gW_in 42 (by decide +kernel) (by decide +kernel)
def qX4_sum_a37_4 (R4 : Int32 → Int32 → St → Prop) (Q : Int32 → St → Prop) (v1 : Int32) (v2 : Int32) (σ : St) : Prop := ((4 ≤ v2 → (Q v1 σ)) ∧ (¬ 4 ≤ v2 → (vp_in v2 4 ∧ ∀ x1 : Int32, x1 = (v1 + (σ 37 (Int32.toNatClampNeg v2))) → ∀ x2 : Int32, x2 = v2 + 1 → R4 x1 x2 σ)))
def qX4_sum_a37_l4  (Q : Int32 → St → Prop) : Nat → Int32 → Int32 → St → Prop
  | 0 => fun _ _ _ => False
  | n + 1 => qX4_sum_a37_4 (qX4_sum_a37_l4  Q n) Q
def pX4_sum_a37  (σ : St) (Q : Int32 → St → Prop) : Prop := (∃ n, qX4_sum_a37_l4  Q n 0 0 σ)
set_option maxRecDepth 100000 in
set_option maxHeartbeats 4000000 in
theorem kX4_sum_a37 (l : Launch) (D : va_G) (ad : Nat → Nat) (T : TT) (hI : injA 40 ad)  (σ : St) (Q : Int32 → St → Prop) (h : pX4_sum_a37  σ Q) : Ki (KC l D ad T) (wC T ad) yX4_sum cX4_sum 3 (some .int) { frames := 0, cells := 0, slots := 0, locals := 0 } [.ref (ad 37)] (wC T ad σ) Q := by
  refine st_MI (fr := 0) (lo := 0) (by decide) ⟨rfl, rfl⟩ rfl (Nat.le_of_ble_eq_true rfl) rfl (fun X C hD ret => ?_)
  replace hD : ∀ σ, DX X (wC T ad σ) := fun σ => hD _ (wC_D hI T σ)
  have tb4 : ∀ (R4 : Int32 → Int32 → St → Prop) (hR4 : ∀ (v1 : Int32) (v2 : Int32) (σ : St), R4 v1 v2 σ → At X 3 (wC T ad σ) 4 [(0, .ref (ad 37)), (1, .int v1), (2, .int v2)] []) (v1 : Int32) (v2 : Int32) (σ : St), qX4_sum_a37_4 R4 Q v1 v2 σ → At X 3 (wC T ad σ) 4 [(0, .ref (ad 37)), (1, .int v1), (2, .int v2)] [] := by
    intro R4 hR4 v1 v2 σ h
    unfold qX4_sum_a37_4 at h
    refine at_iload_n C dX4_sum_4 2 rfl ?_
    refine at_iconst (v := 4) C dX4_sum_5 (by decide) ?_
    refine at_icmp_ge (tgt := 21) C dX4_sum_6 (by decide) (fun hc => ?_) (fun hc => ?_)
    · replace h := h.1 hc
      refine at_iload_n C dX4_sum_21 1 rfl ?_
      exact ret _ _ _ _ dX4_sum_22 h
    · replace h := h.2 hc
      refine at_iload_n C dX4_sum_9 1 rfl ?_
      refine at_aload_n C dX4_sum_10 0 rfl ?_
      refine at_iload_n C dX4_sum_11 2 rfl ?_
      obtain ⟨hi, h⟩ := h
      refine rC_37 C hi dX4_sum_12 ?_
      refine at_iadd C dX4_sum_13 ?_
      refine at_topi (fun x1 ex1 => ?_)
      replace h := h x1 ex1
      refine at_istore_n (lv' := [(0, .ref (ad 37)), (1, .int x1), (2, .int v2)]) C dX4_sum_14 (by decide) [1, 0, 2] rfl ?_
      obtain ⟨x2, ex2⟩ : ∃ y : Int32, y = v2 + 1 := ⟨_, rfl⟩
      replace h := h x2 ex2
      refine at_iinc (v := x2) (lv' := [(0, .ref (ad 37)), (1, .int x1), (2, .int x2)]) C dX4_sum_15 2 rfl (by rw [ex2]; rfl) (by decide) [1, 2, 0] rfl ?_
      refine at_goto (tgt := 4) C dX4_sum_18 (by decide) ?_
      exact hR4 _ _ _ h
  have t4 : ∀ (n : Nat) (v1 : Int32) (v2 : Int32) (σ : St), qX4_sum_a37_l4  Q n v1 v2 σ → At X 3 (wC T ad σ) 4 [(0, .ref (ad 37)), (1, .int v1), (2, .int v2)] [] := by
    intro  n
    induction n with
    | zero => intro v1 v2 σ h; exact False.elim h
    | succ n ih => intro v1 v2 σ h; exact tb4 (qX4_sum_a37_l4  Q n) ih v1 v2 σ h
  unfold pX4_sum_a37 at h
  refine at_iconst (v := 0) C dX4_sum_0 (by decide) ?_
  refine at_istore_n (lv' := [(0, .ref (ad 37)), (1, .int 0)]) C dX4_sum_1 (by decide) [1, 0] rfl ?_
  refine at_iconst (v := 0) C dX4_sum_2 (by decide) ?_
  refine at_istore_n (lv' := [(0, .ref (ad 37)), (1, .int 0), (2, .int 0)]) C dX4_sum_3 (by decide) [1, 2, 0] rfl ?_
  obtain ⟨n, h⟩ := h
  exact t4  n _ _ _ h
theorem m_X4_21 : Cond.methodLink RX4 21 yX4_sum ∈ gW := gW_in 590 (by decide +kernel) (by decide +kernel)
theorem mc_X4_sum : Cond.code yX4_sum cX4_sum 3 (some .int) ∈ gW := gW_in 592 (by decide +kernel) (by decide +kernel)
theorem ok_X4_sum : okM yX4_sum cX4_sum 3 (some .int) 1 := ⟨mc_X4_sum, mz_RX4, by decide +kernel⟩
theorem ms_X4_sum : Cond.static yX4_sum ∈ gW := gW_in 591 (by decide +kernel) (by decide +kernel)
def qX4_sum_a38_4 (R4 : Int32 → Int32 → St → Prop) (Q : Int32 → St → Prop) (v1 : Int32) (v2 : Int32) (σ : St) : Prop := ((4 ≤ v2 → (Q v1 σ)) ∧ (¬ 4 ≤ v2 → (vp_in v2 4 ∧ ∀ x1 : Int32, x1 = (v1 + (σ 38 (Int32.toNatClampNeg v2))) → ∀ x2 : Int32, x2 = v2 + 1 → R4 x1 x2 σ)))
def qX4_sum_a38_l4  (Q : Int32 → St → Prop) : Nat → Int32 → Int32 → St → Prop
  | 0 => fun _ _ _ => False
  | n + 1 => qX4_sum_a38_4 (qX4_sum_a38_l4  Q n) Q
def pX4_sum_a38  (σ : St) (Q : Int32 → St → Prop) : Prop := (∃ n, qX4_sum_a38_l4  Q n 0 0 σ)
set_option maxRecDepth 100000 in
set_option maxHeartbeats 4000000 in
theorem kX4_sum_a38 (l : Launch) (D : va_G) (ad : Nat → Nat) (T : TT) (hI : injA 40 ad)  (σ : St) (Q : Int32 → St → Prop) (h : pX4_sum_a38  σ Q) : Ki (KC l D ad T) (wC T ad) yX4_sum cX4_sum 3 (some .int) { frames := 0, cells := 0, slots := 0, locals := 0 } [.ref (ad 38)] (wC T ad σ) Q := by
  refine st_MI (fr := 0) (lo := 0) (by decide) ⟨rfl, rfl⟩ rfl (Nat.le_of_ble_eq_true rfl) rfl (fun X C hD ret => ?_)
  replace hD : ∀ σ, DX X (wC T ad σ) := fun σ => hD _ (wC_D hI T σ)
  have tb4 : ∀ (R4 : Int32 → Int32 → St → Prop) (hR4 : ∀ (v1 : Int32) (v2 : Int32) (σ : St), R4 v1 v2 σ → At X 3 (wC T ad σ) 4 [(0, .ref (ad 38)), (1, .int v1), (2, .int v2)] []) (v1 : Int32) (v2 : Int32) (σ : St), qX4_sum_a38_4 R4 Q v1 v2 σ → At X 3 (wC T ad σ) 4 [(0, .ref (ad 38)), (1, .int v1), (2, .int v2)] [] := by
    intro R4 hR4 v1 v2 σ h
    unfold qX4_sum_a38_4 at h
    refine at_iload_n C dX4_sum_4 2 rfl ?_
    refine at_iconst (v := 4) C dX4_sum_5 (by decide) ?_
    refine at_icmp_ge (tgt := 21) C dX4_sum_6 (by decide) (fun hc => ?_) (fun hc => ?_)
    · replace h := h.1 hc
      refine at_iload_n C dX4_sum_21 1 rfl ?_
      exact ret _ _ _ _ dX4_sum_22 h
    · replace h := h.2 hc
      refine at_iload_n C dX4_sum_9 1 rfl ?_
      refine at_aload_n C dX4_sum_10 0 rfl ?_
      refine at_iload_n C dX4_sum_11 2 rfl ?_
      obtain ⟨hi, h⟩ := h
      refine rC_38 C hi dX4_sum_12 ?_
      refine at_iadd C dX4_sum_13 ?_
      refine at_topi (fun x1 ex1 => ?_)
      replace h := h x1 ex1
      refine at_istore_n (lv' := [(0, .ref (ad 38)), (1, .int x1), (2, .int v2)]) C dX4_sum_14 (by decide) [1, 0, 2] rfl ?_
      obtain ⟨x2, ex2⟩ : ∃ y : Int32, y = v2 + 1 := ⟨_, rfl⟩
      replace h := h x2 ex2
      refine at_iinc (v := x2) (lv' := [(0, .ref (ad 38)), (1, .int x1), (2, .int x2)]) C dX4_sum_15 2 rfl (by rw [ex2]; rfl) (by decide) [1, 2, 0] rfl ?_
      refine at_goto (tgt := 4) C dX4_sum_18 (by decide) ?_
      exact hR4 _ _ _ h
  have t4 : ∀ (n : Nat) (v1 : Int32) (v2 : Int32) (σ : St), qX4_sum_a38_l4  Q n v1 v2 σ → At X 3 (wC T ad σ) 4 [(0, .ref (ad 38)), (1, .int v1), (2, .int v2)] [] := by
    intro  n
    induction n with
    | zero => intro v1 v2 σ h; exact False.elim h
    | succ n ih => intro v1 v2 σ h; exact tb4 (qX4_sum_a38_l4  Q n) ih v1 v2 σ h
  unfold pX4_sum_a38 at h
  refine at_iconst (v := 0) C dX4_sum_0 (by decide) ?_
  refine at_istore_n (lv' := [(0, .ref (ad 38)), (1, .int 0)]) C dX4_sum_1 (by decide) [1, 0] rfl ?_
  refine at_iconst (v := 0) C dX4_sum_2 (by decide) ?_
  refine at_istore_n (lv' := [(0, .ref (ad 38)), (1, .int 0), (2, .int 0)]) C dX4_sum_3 (by decide) [1, 2, 0] rfl ?_
  obtain ⟨n, h⟩ := h
  exact t4  n _ _ _ h
theorem m_X4_25 : Cond.constantLong RX4 25 (1000) ∈ gW := gW_in 593 (by decide +kernel) (by decide +kernel)
def qX4_thousandths_114 (R24 : Int32 → Int32 → Int64 → Int64 → Int32 → St → Prop) (Q : Int32 → St → Prop) (v1 : Int32) (v2 : Int32) (v3 : Int64) (v5 : Int64) (v7 : Int32) (σ : St) : Prop := ∀ x7 : Int32, x7 = v7 + 1 → R24 v1 v2 v3 v5 x7 σ
def qX4_thousandths_78 (R24 : Int32 → Int32 → Int64 → Int64 → Int32 → St → Prop) (Q : Int32 → St → Prop) (v1 : Int32) (v2 : Int32) (v3 : Int64) (v5 : Int64) (v7 : Int32) (v8 : Int64) (k0 : Int64) (σ : St) : Prop := (((lg_cmp k0 0) ≤ 0 → (qX4_thousandths_114 R24 Q v1 v2 v3 v5 v7 σ)) ∧ (¬ (lg_cmp k0 0) ≤ 0 → (vp_in v7 4 ∧ ∀ x5 : Int64, x5 = ((v3 * k0) + (((Int32.toInt64 (σ 39 (Int32.toNatClampNeg v7))) * v8) * v5)) → ∀ x6 : Int64, x6 = (v5 * k0) → (qX4_thousandths_114 R24 Q v1 v2 x5 x6 v7 σ))))
def qX4_thousandths_53 (R24 : Int32 → Int32 → Int64 → Int64 → Int32 → St → Prop) (Q : Int32 → St → Prop) (v1 : Int32) (v2 : Int32) (v3 : Int64) (v5 : Int64) (v7 : Int32) (k0 : Int64) (σ : St) : Prop := (vp_in v7 4 ∧ (((σ 38 (Int32.toNatClampNeg v7)) ≤ 0 → (qX4_thousandths_78 R24 Q v1 v2 v3 v5 v7 k0 (Int32.toInt64 v2) σ)) ∧ (¬ (σ 38 (Int32.toNatClampNeg v7)) ≤ 0 → (vp_in v7 4 ∧ (qX4_thousandths_78 R24 Q v1 v2 v3 v5 v7 k0 (Int32.toInt64 (σ 38 (Int32.toNatClampNeg v7))) σ)))))
def qX4_thousandths_24 (R24 : Int32 → Int32 → Int64 → Int64 → Int32 → St → Prop) (Q : Int32 → St → Prop) (v1 : Int32) (v2 : Int32) (v3 : Int64) (v5 : Int64) (v7 : Int32) (σ : St) : Prop := ((4 ≤ v7 → ((0 < (lg_cmp v5 0) → (¬ v5 = 0 ∧ (Q (Int64.toInt32 ((1000 * v3) / v5)) σ))) ∧ (¬ 0 < (lg_cmp v5 0) → (Q 0 σ)))) ∧ (¬ 4 ≤ v7 → (vp_in v7 4 ∧ (((σ 38 (Int32.toNatClampNeg v7)) ≤ 0 → (qX4_thousandths_53 R24 Q v1 v2 v3 v5 v7 (Int32.toInt64 v1) σ)) ∧ (¬ (σ 38 (Int32.toNatClampNeg v7)) ≤ 0 → (vp_in v7 4 ∧ (qX4_thousandths_53 R24 Q v1 v2 v3 v5 v7 (Int32.toInt64 (σ 37 (Int32.toNatClampNeg v7))) σ)))))))
def qX4_thousandths_l24  (Q : Int32 → St → Prop) : Nat → Int32 → Int32 → Int64 → Int64 → Int32 → St → Prop
  | 0 => fun _ _ _ _ _ _ => False
  | n + 1 => qX4_thousandths_24 (qX4_thousandths_l24  Q n) Q
def pX4_thousandths  (σ : St) (Q : Int32 → St → Prop) : Prop := (pX4_sum_a37 σ (fun r2 s1 => (pX4_sum_a38 s1 (fun r4 s3 => (∃ n, qX4_thousandths_l24  Q n r2 r4 0 1 0 s3)))))
set_option maxRecDepth 100000 in
set_option maxHeartbeats 4000000 in
theorem kX4_thousandths (l : Launch) (D : va_G) (ad : Nat → Nat) (T : TT) (hI : injA 40 ad)  (σ : St) (Q : Int32 → St → Prop) (h : pX4_thousandths  σ Q) : Ki (KC l D ad T) (wC T ad) yX4_thousandths cX4_thousandths 12 (some .int) { frames := 1, cells := 0, slots := 0, locals := 22 } [.ref (ad 36)] (wC T ad σ) Q := by
  refine st_MI (fr := 1) (lo := 22) (by decide) ⟨rfl, rfl⟩ rfl (Nat.le_of_ble_eq_true rfl) rfl (fun X C hD ret => ?_)
  replace hD : ∀ σ, DX X (wC T ad σ) := fun σ => hD _ (wC_D hI T σ)
  have t114 : ∀ (R24 : Int32 → Int32 → Int64 → Int64 → Int32 → St → Prop) (hR24 : ∀ (v1 : Int32) (v2 : Int32) (v3 : Int64) (v5 : Int64) (v7 : Int32) (σ : St), R24 v1 v2 v3 v5 v7 σ → At X 12 (wC T ad σ) 24 [(0, .ref (ad 36)), (1, .int v1), (2, .int v2), (3, .long v3), (5, .long v5), (7, .int v7)] []) (v1 : Int32) (v2 : Int32) (v3 : Int64) (v5 : Int64) (v7 : Int32) (σ : St), qX4_thousandths_114 R24 Q v1 v2 v3 v5 v7 σ → At X 12 (wC T ad σ) 114 [(0, .ref (ad 36)), (1, .int v1), (2, .int v2), (3, .long v3), (5, .long v5), (7, .int v7)] [] := by
    intro R24 hR24 v1 v2 v3 v5 v7 σ h
    unfold qX4_thousandths_114 at h
    obtain ⟨x7, ex7⟩ : ∃ y : Int32, y = v7 + 1 := ⟨_, rfl⟩
    replace h := h x7 ex7
    refine at_iinc (v := x7) (lv' := [(0, .ref (ad 36)), (1, .int v1), (2, .int v2), (3, .long v3), (5, .long v5), (7, .int x7)]) C dX4_thousandths_114 5 rfl (by rw [ex7]; rfl) (by decide) [1, 2, 3, 4, 5, 0] rfl ?_
    refine at_goto (tgt := 24) C dX4_thousandths_117 (by decide) ?_
    exact hR24 _ _ _ _ _ _ h
  have t78 : ∀ (R24 : Int32 → Int32 → Int64 → Int64 → Int32 → St → Prop) (hR24 : ∀ (v1 : Int32) (v2 : Int32) (v3 : Int64) (v5 : Int64) (v7 : Int32) (σ : St), R24 v1 v2 v3 v5 v7 σ → At X 12 (wC T ad σ) 24 [(0, .ref (ad 36)), (1, .int v1), (2, .int v2), (3, .long v3), (5, .long v5), (7, .int v7)] []) (v1 : Int32) (v2 : Int32) (v3 : Int64) (v5 : Int64) (v7 : Int32) (v8 : Int64) (k0 : Int64) (σ : St), qX4_thousandths_78 R24 Q v1 v2 v3 v5 v7 v8 k0 σ → At X 12 (wC T ad σ) 78 [(0, .ref (ad 36)), (1, .int v1), (2, .int v2), (3, .long v3), (5, .long v5), (7, .int v7), (8, .long v8)] [.long k0] := by
    intro R24 hR24 v1 v2 v3 v5 v7 v8 k0 σ h
    unfold qX4_thousandths_78 at h
    refine at_lstore (lv' := [(0, .ref (ad 36)), (1, .int v1), (2, .int v2), (3, .long v3), (5, .long v5), (7, .int v7), (8, .long v8), (10, .long k0)]) C dX4_thousandths_78 (by decide) [1, 2, 3, 4, 5, 6, 7, 0] rfl ?_
    refine at_lload C dX4_thousandths_80 7 rfl ?_
    refine at_lconst (v := 0) C dX4_thousandths_82 (by decide) ?_
    refine at_lcmp C dX4_thousandths_83 ?_
    refine at_if_le (tgt := 114) C dX4_thousandths_84 (by decide) (fun hc => ?_) (fun hc => ?_)
    · replace h := h.1 hc
      refine at_sub [0, 1, 2, 3, 4, 5] rfl ?_
      exact t114 R24 hR24 _ _ _ _ _ _ h
    · replace h := h.2 hc
      refine at_lload_n C dX4_thousandths_87 3 rfl ?_
      refine at_lload C dX4_thousandths_88 7 rfl ?_
      refine at_lmul C dX4_thousandths_90 ?_
      refine at_aload_n C dX4_thousandths_91 0 rfl ?_
      refine gC_X4_18 C dX4_thousandths_92 ?_
      refine at_iload C dX4_thousandths_95 5 rfl ?_
      obtain ⟨hi, h⟩ := h
      refine rC_39 C hi dX4_thousandths_97 ?_
      refine at_i2l C dX4_thousandths_98 ?_
      refine at_lload C dX4_thousandths_99 6 rfl ?_
      refine at_lmul C dX4_thousandths_101 ?_
      refine at_lload C dX4_thousandths_102 4 rfl ?_
      refine at_lmul C dX4_thousandths_104 ?_
      refine at_ladd C dX4_thousandths_105 ?_
      refine at_topl (fun x5 ex5 => ?_)
      replace h := h x5 ex5
      refine at_lstore_n (lv' := [(0, .ref (ad 36)), (1, .int v1), (2, .int v2), (3, .long x5), (5, .long v5), (7, .int v7), (8, .long v8), (10, .long k0)]) C dX4_thousandths_106 (by decide) [1, 2, 3, 0, 4, 5, 6, 7] rfl ?_
      refine at_lload C dX4_thousandths_107 4 rfl ?_
      refine at_lload C dX4_thousandths_109 7 rfl ?_
      refine at_lmul C dX4_thousandths_111 ?_
      refine at_topl (fun x6 ex6 => ?_)
      replace h := h x6 ex6
      refine at_lstore (lv' := [(0, .ref (ad 36)), (1, .int v1), (2, .int v2), (3, .long x5), (5, .long x6), (7, .int v7), (8, .long v8), (10, .long k0)]) C dX4_thousandths_112 (by decide) [1, 2, 3, 4, 0, 5, 6, 7] rfl ?_
      refine at_sub [0, 1, 2, 3, 4, 5] rfl ?_
      exact t114 R24 hR24 _ _ _ _ _ _ h
  have t53 : ∀ (R24 : Int32 → Int32 → Int64 → Int64 → Int32 → St → Prop) (hR24 : ∀ (v1 : Int32) (v2 : Int32) (v3 : Int64) (v5 : Int64) (v7 : Int32) (σ : St), R24 v1 v2 v3 v5 v7 σ → At X 12 (wC T ad σ) 24 [(0, .ref (ad 36)), (1, .int v1), (2, .int v2), (3, .long v3), (5, .long v5), (7, .int v7)] []) (v1 : Int32) (v2 : Int32) (v3 : Int64) (v5 : Int64) (v7 : Int32) (k0 : Int64) (σ : St), qX4_thousandths_53 R24 Q v1 v2 v3 v5 v7 k0 σ → At X 12 (wC T ad σ) 53 [(0, .ref (ad 36)), (1, .int v1), (2, .int v2), (3, .long v3), (5, .long v5), (7, .int v7)] [.long k0] := by
    intro R24 hR24 v1 v2 v3 v5 v7 k0 σ h
    unfold qX4_thousandths_53 at h
    refine at_lstore (lv' := [(0, .ref (ad 36)), (1, .int v1), (2, .int v2), (3, .long v3), (5, .long v5), (7, .int v7), (8, .long k0)]) C dX4_thousandths_53 (by decide) [1, 2, 3, 4, 5, 6, 0] rfl ?_
    refine at_aload_n C dX4_thousandths_55 0 rfl ?_
    refine gC_X4_15 C dX4_thousandths_56 ?_
    refine at_iload C dX4_thousandths_59 5 rfl ?_
    obtain ⟨hi, h⟩ := h
    refine rC_38 C hi dX4_thousandths_61 ?_
    refine at_if_le (tgt := 76) C dX4_thousandths_62 (by decide) (fun hc => ?_) (fun hc => ?_)
    · replace h := h.1 hc
      refine at_iload_n C dX4_thousandths_76 2 rfl ?_
      refine at_i2l C dX4_thousandths_77 ?_
      exact t78 R24 hR24 _ _ _ _ _ _ _ _ h
    · replace h := h.2 hc
      refine at_aload_n C dX4_thousandths_65 0 rfl ?_
      refine gC_X4_15 C dX4_thousandths_66 ?_
      refine at_iload C dX4_thousandths_69 5 rfl ?_
      obtain ⟨hi, h⟩ := h
      refine rC_38 C hi dX4_thousandths_71 ?_
      refine at_i2l C dX4_thousandths_72 ?_
      refine at_goto (tgt := 78) C dX4_thousandths_73 (by decide) ?_
      exact t78 R24 hR24 _ _ _ _ _ _ _ _ h
  have tb24 : ∀ (R24 : Int32 → Int32 → Int64 → Int64 → Int32 → St → Prop) (hR24 : ∀ (v1 : Int32) (v2 : Int32) (v3 : Int64) (v5 : Int64) (v7 : Int32) (σ : St), R24 v1 v2 v3 v5 v7 σ → At X 12 (wC T ad σ) 24 [(0, .ref (ad 36)), (1, .int v1), (2, .int v2), (3, .long v3), (5, .long v5), (7, .int v7)] []) (v1 : Int32) (v2 : Int32) (v3 : Int64) (v5 : Int64) (v7 : Int32) (σ : St), qX4_thousandths_24 R24 Q v1 v2 v3 v5 v7 σ → At X 12 (wC T ad σ) 24 [(0, .ref (ad 36)), (1, .int v1), (2, .int v2), (3, .long v3), (5, .long v5), (7, .int v7)] [] := by
    intro R24 hR24 v1 v2 v3 v5 v7 σ h
    unfold qX4_thousandths_24 at h
    refine at_iload C dX4_thousandths_24 5 rfl ?_
    refine at_iconst (v := 4) C dX4_thousandths_26 (by decide) ?_
    refine at_icmp_ge (tgt := 120) C dX4_thousandths_27 (by decide) (fun hc => ?_) (fun hc => ?_)
    · replace h := h.1 hc
      refine at_lload C dX4_thousandths_120 4 rfl ?_
      refine at_lconst (v := 0) C dX4_thousandths_122 (by decide) ?_
      refine at_lcmp C dX4_thousandths_123 ?_
      refine at_if_gt (tgt := 129) C dX4_thousandths_124 (by decide) (fun hc => ?_) (fun hc => ?_)
      · replace h := h.1 hc
        refine at_ldc2 (v := 1000) C m_X4_25 dX4_thousandths_129 ?_
        refine at_lload_n C dX4_thousandths_132 3 rfl ?_
        refine at_lmul C dX4_thousandths_133 ?_
        refine at_lload C dX4_thousandths_134 4 rfl ?_
        obtain ⟨hz, h⟩ := h
        refine at_ldiv C dX4_thousandths_136 hz ?_
        refine at_l2i C dX4_thousandths_137 ?_
        exact ret _ _ _ _ dX4_thousandths_138 h
      · replace h := h.2 hc
        refine at_iconst (v := 0) C dX4_thousandths_127 (by decide) ?_
        exact ret _ _ _ _ dX4_thousandths_128 h
    · replace h := h.2 hc
      refine at_aload_n C dX4_thousandths_30 0 rfl ?_
      refine gC_X4_15 C dX4_thousandths_31 ?_
      refine at_iload C dX4_thousandths_34 5 rfl ?_
      obtain ⟨hi, h⟩ := h
      refine rC_38 C hi dX4_thousandths_36 ?_
      refine at_if_le (tgt := 51) C dX4_thousandths_37 (by decide) (fun hc => ?_) (fun hc => ?_)
      · replace h := h.1 hc
        refine at_iload_n C dX4_thousandths_51 1 rfl ?_
        refine at_i2l C dX4_thousandths_52 ?_
        exact t53 R24 hR24 _ _ _ _ _ _ _ h
      · replace h := h.2 hc
        refine at_aload_n C dX4_thousandths_40 0 rfl ?_
        refine gC_X4_9 C dX4_thousandths_41 ?_
        refine at_iload C dX4_thousandths_44 5 rfl ?_
        obtain ⟨hi, h⟩ := h
        refine rC_37 C hi dX4_thousandths_46 ?_
        refine at_i2l C dX4_thousandths_47 ?_
        refine at_goto (tgt := 53) C dX4_thousandths_48 (by decide) ?_
        exact t53 R24 hR24 _ _ _ _ _ _ _ h
  have t24 : ∀ (n : Nat) (v1 : Int32) (v2 : Int32) (v3 : Int64) (v5 : Int64) (v7 : Int32) (σ : St), qX4_thousandths_l24  Q n v1 v2 v3 v5 v7 σ → At X 12 (wC T ad σ) 24 [(0, .ref (ad 36)), (1, .int v1), (2, .int v2), (3, .long v3), (5, .long v5), (7, .int v7)] [] := by
    intro  n
    induction n with
    | zero => intro v1 v2 v3 v5 v7 σ h; exact False.elim h
    | succ n ih => intro v1 v2 v3 v5 v7 σ h; exact tb24 (qX4_thousandths_l24  Q n) ih v1 v2 v3 v5 v7 σ h
  unfold pX4_thousandths at h
  refine at_aload_n C dX4_thousandths_0 0 rfl ?_
  refine gC_X4_9 C dX4_thousandths_1 ?_
  refine at_callSi C (kX4_sum_a37 l D ad T hI  _ _ h) ok_X4_sum m_X4_21 ms_X4_sum ⟨rfl, rfl, Nat.le_of_ble_eq_true rfl, Nat.le_of_ble_eq_true rfl⟩ rfl rfl (Nat.le_of_ble_eq_true rfl) dX4_thousandths_4 (fun r2 s1 h => ?_)
  refine at_istore_n (lv' := [(0, .ref (ad 36)), (1, .int r2)]) C dX4_thousandths_7 (by decide) [1, 0] rfl ?_
  refine at_aload_n C dX4_thousandths_8 0 rfl ?_
  refine gC_X4_15 C dX4_thousandths_9 ?_
  refine at_callSi C (kX4_sum_a38 l D ad T hI  _ _ h) ok_X4_sum m_X4_21 ms_X4_sum ⟨rfl, rfl, Nat.le_of_ble_eq_true rfl, Nat.le_of_ble_eq_true rfl⟩ rfl rfl (Nat.le_of_ble_eq_true rfl) dX4_thousandths_12 (fun r4 s3 h => ?_)
  refine at_istore_n (lv' := [(0, .ref (ad 36)), (1, .int r2), (2, .int r4)]) C dX4_thousandths_15 (by decide) [1, 2, 0] rfl ?_
  refine at_lconst (v := 0) C dX4_thousandths_16 (by decide) ?_
  refine at_lstore_n (lv' := [(0, .ref (ad 36)), (1, .int r2), (2, .int r4), (3, .long 0)]) C dX4_thousandths_17 (by decide) [1, 2, 3, 0] rfl ?_
  refine at_lconst (v := 1) C dX4_thousandths_18 (by decide) ?_
  refine at_lstore (lv' := [(0, .ref (ad 36)), (1, .int r2), (2, .int r4), (3, .long 0), (5, .long 1)]) C dX4_thousandths_19 (by decide) [1, 2, 3, 4, 0] rfl ?_
  refine at_iconst (v := 0) C dX4_thousandths_21 (by decide) ?_
  refine at_istore (lv' := [(0, .ref (ad 36)), (1, .int r2), (2, .int r4), (3, .long 0), (5, .long 1), (7, .int 0)]) C dX4_thousandths_22 (by decide) [1, 2, 3, 4, 5, 0] rfl ?_
  obtain ⟨n, h⟩ := h
  exact t24  n _ _ _ _ _ _ h
theorem m_X8_232 : Cond.methodLinkNest RX8 232 yX4_thousandths "HawkRidge" ∈ nW := nW_in 586 (by decide +kernel) (by decide +kernel)
theorem mc_X4_thousandths : Cond.code yX4_thousandths cX4_thousandths 12 (some .int) ∈ gW := gW_in 589 (by decide +kernel) (by decide +kernel)
theorem ok_X4_thousandths : okM yX4_thousandths cX4_thousandths 12 (some .int) 0 := ⟨mc_X4_thousandths, mz_RX4, by decide +kernel⟩
theorem mi_X4_thousandths : Cond.instanceMethod yX4_thousandths ∈ gW := gW_in 588 (by decide +kernel) (by decide +kernel)
theorem ml_X4_thousandths : Cond.selects RX4 yX4_thousandths yX4_thousandths ∈ gW := gW_in 43 (by decide +kernel) (by decide +kernel)
def pX8_missedOf (v1 : Int32) (σ : St) (Q : Int32 → St → Prop) : Prop := (pX4_clear σ (fun s1 => (pX7_addHours_a38_a39 v1 s1 (fun s3 => (pX0_addWinds_a9_a37 v1 s3 (fun s5 => (pX4_thousandths s5 (fun r8 s7 => (Q r8 s7)))))))))
set_option maxRecDepth 100000 in
set_option maxHeartbeats 4000000 in
theorem kX8_missedOf (l : Launch) (D : va_G) (ad : Nat → Nat) (T : TT) (hI : injA 40 ad) (v1 : Int32) (σ : St) (Q : Int32 → St → Prop) (h : pX8_missedOf v1 σ Q) : Ki (KC l D ad T) (wC T ad) yX8_missedOf cX8_missedOf 2 (some .int) { frames := 3, cells := 0, slots := 0, locals := 68 } [.ref (ad 0), .int v1] (wC T ad σ) Q := by
  refine st_MI (fr := 3) (lo := 68) (by decide) ⟨rfl, rfl⟩ rfl (Nat.le_of_ble_eq_true rfl) rfl (fun X C hD ret => ?_)
  replace hD : ∀ σ, DX X (wC T ad σ) := fun σ => hD _ (wC_D hI T σ)
  unfold pX8_missedOf at h
  refine at_aload_n C dX8_missedOf_0 0 rfl ?_
  refine gC_X8_58 C dX8_missedOf_1 ?_
  refine at_callVNv C (kX4_clear l D ad T hI  _ _ h) ok_X4_clear m_X8_214 mi_X4_clear ml_X4_clear (wC_g36 T ad _) rfl ⟨rfl, rfl, Nat.le_of_ble_eq_true rfl, Nat.le_of_ble_eq_true rfl⟩ rfl rfl (Nat.le_of_ble_eq_true rfl) dX8_missedOf_4 (fun s1 h => ?_)
  refine at_aload_n C dX8_missedOf_7 0 rfl ?_
  refine gC_X8_26 C dX8_missedOf_8 ?_
  refine at_iload_n C dX8_missedOf_11 1 rfl ?_
  refine at_aload_n C dX8_missedOf_12 0 rfl ?_
  refine gC_X8_58 C dX8_missedOf_13 ?_
  refine gC_X8_215 C dX8_missedOf_16 ?_
  refine at_aload_n C dX8_missedOf_19 0 rfl ?_
  refine gC_X8_58 C dX8_missedOf_20 ?_
  refine gC_X8_218 C dX8_missedOf_23 ?_
  refine at_callVNv C (kX7_addHours_a38_a39 l D ad T hI _ _ _ h) ok_X7_addHours m_X8_221 mi_X7_addHours ml_X7_addHours (wC_g9 T ad _) rfl ⟨rfl, rfl, Nat.le_of_ble_eq_true rfl, Nat.le_of_ble_eq_true rfl⟩ rfl rfl (Nat.le_of_ble_eq_true rfl) dX8_missedOf_26 (fun s3 h => ?_)
  refine at_aload_n C dX8_missedOf_29 0 rfl ?_
  refine gC_X8_42 C dX8_missedOf_30 ?_
  refine at_iload_n C dX8_missedOf_33 1 rfl ?_
  refine at_aload_n C dX8_missedOf_34 0 rfl ?_
  refine gC_X8_26 C dX8_missedOf_35 ?_
  refine at_aload_n C dX8_missedOf_38 0 rfl ?_
  refine gC_X8_58 C dX8_missedOf_39 ?_
  refine gC_X8_225 C dX8_missedOf_42 ?_
  refine at_callVNv C (kX0_addWinds_a9_a37 l D ad T hI _ _ _ h) ok_X0_addWinds m_X8_228 mi_X0_addWinds ml_X0_addWinds (wC_g18 T ad _) rfl ⟨rfl, rfl, Nat.le_of_ble_eq_true rfl, Nat.le_of_ble_eq_true rfl⟩ rfl rfl (Nat.le_of_ble_eq_true rfl) dX8_missedOf_45 (fun s5 h => ?_)
  refine at_aload_n C dX8_missedOf_48 0 rfl ?_
  refine gC_X8_58 C dX8_missedOf_49 ?_
  refine at_callVNi C (kX4_thousandths l D ad T hI  _ _ h) ok_X4_thousandths m_X8_232 mi_X4_thousandths ml_X4_thousandths (wC_g36 T ad _) rfl ⟨rfl, rfl, Nat.le_of_ble_eq_true rfl, Nat.le_of_ble_eq_true rfl⟩ rfl rfl (Nat.le_of_ble_eq_true rfl) dX8_missedOf_52 (fun r8 s7 h => ?_)
  exact ret _ _ _ _ dX8_missedOf_55 h
theorem m_X8_183 : Cond.methodLink RX8 183 yX8_missedOf ∈ gW := gW_in 570 (by decide +kernel) (by decide +kernel)
theorem mc_X8_missedOf : Cond.code yX8_missedOf cX8_missedOf 2 (some .int) ∈ gW := gW_in 573 (by decide +kernel) (by decide +kernel)
theorem ok_X8_missedOf : okM yX8_missedOf cX8_missedOf 2 (some .int) 1 := ⟨mc_X8_missedOf, mz_RX8, by decide +kernel⟩
theorem mi_X8_missedOf : Cond.instanceMethod yX8_missedOf ∈ gW := gW_in 572 (by decide +kernel) (by decide +kernel)
theorem ml_X8_missedOf : Cond.selects RX8 yX8_missedOf yX8_missedOf ∈ gW := gW_in 39 (by decide +kernel) (by decide +kernel)
def pX8_totalOf (v1 : Int32) (σ : St) (Q : Int32 → St → Prop) : Prop := (pX0_birdsIn v1 σ (fun r2 s1 => (pX8_missedOf v1 s1 (fun r4 s3 => (Q ((1000 * r2) + r4) s3)))))
set_option maxRecDepth 100000 in
set_option maxHeartbeats 4000000 in
theorem kX8_totalOf (l : Launch) (D : va_G) (ad : Nat → Nat) (T : TT) (hI : injA 40 ad) (v1 : Int32) (σ : St) (Q : Int32 → St → Prop) (h : pX8_totalOf v1 σ Q) : Ki (KC l D ad T) (wC T ad) yX8_totalOf cX8_totalOf 2 (some .int) { frames := 4, cells := 0, slots := 0, locals := 89 } [.ref (ad 0), .int v1] (wC T ad σ) Q := by
  refine st_MI (fr := 4) (lo := 89) (by decide) ⟨rfl, rfl⟩ rfl (Nat.le_of_ble_eq_true rfl) rfl (fun X C hD ret => ?_)
  replace hD : ∀ σ, DX X (wC T ad σ) := fun σ => hD _ (wC_D hI T σ)
  unfold pX8_totalOf at h
  refine at_sipush (v := 1000) C dX8_totalOf_0 (by decide) ?_
  refine at_aload_n C dX8_totalOf_3 0 rfl ?_
  refine gC_X8_42 C dX8_totalOf_4 ?_
  refine at_iload_n C dX8_totalOf_7 1 rfl ?_
  refine at_callVNi C (kX0_birdsIn l D ad T hI _ _ _ h) ok_X0_birdsIn m_X8_177 mi_X0_birdsIn ml_X0_birdsIn (wC_g18 T ad _) rfl ⟨rfl, rfl, Nat.le_of_ble_eq_true rfl, Nat.le_of_ble_eq_true rfl⟩ rfl rfl (Nat.le_of_ble_eq_true rfl) dX8_totalOf_8 (fun r2 s1 h => ?_)
  refine at_imul C dX8_totalOf_11 ?_
  refine at_aload_n C dX8_totalOf_12 0 rfl ?_
  refine at_iload_n C dX8_totalOf_13 1 rfl ?_
  refine at_callVi C (kX8_missedOf l D ad T hI _ _ _ h) ok_X8_missedOf m_X8_183 mi_X8_missedOf ml_X8_missedOf (wC_g0 T ad _) rfl ⟨rfl, rfl, Nat.le_of_ble_eq_true rfl, Nat.le_of_ble_eq_true rfl⟩ rfl rfl (Nat.le_of_ble_eq_true rfl) dX8_totalOf_14 (fun r4 s3 h => ?_)
  refine at_iadd C dX8_totalOf_17 ?_
  exact ret _ _ _ _ dX8_totalOf_18 h
theorem m_X8_186 : Cond.methodLink RX8 186 yX8_totalOf ∈ gW := gW_in 594 (by decide +kernel) (by decide +kernel)
theorem mc_X8_totalOf : Cond.code yX8_totalOf cX8_totalOf 2 (some .int) ∈ gW := gW_in 597 (by decide +kernel) (by decide +kernel)
theorem ok_X8_totalOf : okM yX8_totalOf cX8_totalOf 2 (some .int) 1 := ⟨mc_X8_totalOf, mz_RX8, by decide +kernel⟩
theorem mi_X8_totalOf : Cond.instanceMethod yX8_totalOf ∈ gW := gW_in 596 (by decide +kernel) (by decide +kernel)
theorem ml_X8_totalOf : Cond.selects RX8 yX8_totalOf yX8_totalOf ∈ gW := gW_in 44 (by decide +kernel) (by decide +kernel)
def pX8_year (v1 : Int32) (v2 : Int32) (σ : St) (Q : Int32 → St → Prop) : Prop := (pX8_isYear v1 σ (fun r2 s1 => ((¬ r2 = 0 → (pX0_pairYear v1 s1 (fun s3 => ((v2 = 0 → (pX2_shownIn v1 s3 (fun r6 s5 => (Q r6 s5)))) ∧ (¬ v2 = 0 → ((v2 = 1 → (pX0_pairsIn v1 s3 (fun r8 s7 => (Q r8 s7)))) ∧ (¬ v2 = 1 → ((v2 = 2 → (pX0_birdsIn v1 s3 (fun r10 s9 => (Q r10 s9)))) ∧ (¬ v2 = 2 → ((v2 = 3 → (pX7_hoursOff v1 s3 (fun r12 s11 => (Q r12 s11)))) ∧ (¬ v2 = 3 → ((v2 = 4 → (pX8_missedOf v1 s3 (fun r14 s13 => (Q r14 s13)))) ∧ (¬ v2 = 4 → ((v2 = 5 → (pX8_totalOf v1 s3 (fun r16 s15 => (Q r16 s15)))) ∧ (¬ v2 = 5 → (Q (-1) s3)))))))))))))))) ∧ (r2 = 0 → (Q (-1) s1)))))
set_option maxRecDepth 100000 in
set_option maxHeartbeats 4000000 in
theorem kX8_year (l : Launch) (D : va_G) (ad : Nat → Nat) (T : TT) (hI : injA 40 ad) (v1 : Int32) (v2 : Int32) (σ : St) (Q : Int32 → St → Prop) (h : pX8_year v1 v2 σ Q) : Ki (KC l D ad T) (wC T ad) yX8_year cX8_year 3 (some .int) { frames := 20, cells := 0, slots := 0, locals := 480 } [.ref (ad 0), .int v1, .int v2] (wC T ad σ) Q := by
  refine st_MI (fr := 20) (lo := 480) (by decide) ⟨rfl, rfl⟩ rfl (Nat.le_of_ble_eq_true rfl) rfl (fun X C hD ret => ?_)
  replace hD : ∀ σ, DX X (wC T ad σ) := fun σ => hD _ (wC_D hI T σ)
  unfold pX8_year at h
  refine at_iload_n C dX8_year_0 1 rfl ?_
  refine at_callSi C (kX8_isYear l D ad T hI _ _ _ h) ok_X8_isYear m_X8_143 ms_X8_isYear ⟨rfl, rfl, Nat.le_of_ble_eq_true rfl, Nat.le_of_ble_eq_true rfl⟩ rfl rfl (Nat.le_of_ble_eq_true rfl) dX8_year_1 (fun r2 s1 h => ?_)
  refine at_if_ne (tgt := 9) C dX8_year_4 (by decide) (fun hc => ?_) (fun hc => ?_)
  · replace h := h.1 hc
    refine at_aload_n C dX8_year_9 0 rfl ?_
    refine gC_X8_42 C dX8_year_10 ?_
    refine at_iload_n C dX8_year_13 1 rfl ?_
    refine at_callVNv C (kX0_pairYear l D ad T hI _ _ _ h) ok_X0_pairYear m_X8_149 mi_X0_pairYear ml_X0_pairYear (wC_g18 T ad _) rfl ⟨rfl, rfl, Nat.le_of_ble_eq_true rfl, Nat.le_of_ble_eq_true rfl⟩ rfl rfl (Nat.le_of_ble_eq_true rfl) dX8_year_14 (fun s3 h => ?_)
    refine at_iload_n C dX8_year_17 2 rfl ?_
    by_cases hc0 : v2 = 0
    · replace h := h.1 hc0
      refine at_tabIn (off := 38) (tgt := 56) C dX8_year_18 (by rw [hc0]; decide) (by rw [hc0]; decide) (by rw [hc0]; rfl) (by decide) ?_
      refine at_aload_n C dX8_year_56 0 rfl ?_
      refine gC_X8_33 C dX8_year_57 ?_
      refine at_iload_n C dX8_year_60 1 rfl ?_
      refine at_callVNi C (kX2_shownIn l D ad T hI _ _ _ h) ok_X2_shownIn m_X8_171 mi_X2_shownIn ml_X2_shownIn (wC_g12 T ad _) rfl ⟨rfl, rfl, Nat.le_of_ble_eq_true rfl, Nat.le_of_ble_eq_true rfl⟩ rfl rfl (Nat.le_of_ble_eq_true rfl) dX8_year_61 (fun r6 s5 h => ?_)
      exact ret _ _ _ _ dX8_year_64 h
    · replace h := h.2 hc0
      by_cases hc1 : v2 = 1
      · replace h := h.1 hc1
        refine at_tabIn (off := 47) (tgt := 65) C dX8_year_18 (by rw [hc1]; decide) (by rw [hc1]; decide) (by rw [hc1]; rfl) (by decide) ?_
        refine at_aload_n C dX8_year_65 0 rfl ?_
        refine gC_X8_42 C dX8_year_66 ?_
        refine at_iload_n C dX8_year_69 1 rfl ?_
        refine at_callVNi C (kX0_pairsIn l D ad T hI _ _ _ h) ok_X0_pairsIn m_X8_174 mi_X0_pairsIn ml_X0_pairsIn (wC_g18 T ad _) rfl ⟨rfl, rfl, Nat.le_of_ble_eq_true rfl, Nat.le_of_ble_eq_true rfl⟩ rfl rfl (Nat.le_of_ble_eq_true rfl) dX8_year_70 (fun r8 s7 h => ?_)
        exact ret _ _ _ _ dX8_year_73 h
      · replace h := h.2 hc1
        by_cases hc2 : v2 = 2
        · replace h := h.1 hc2
          refine at_tabIn (off := 56) (tgt := 74) C dX8_year_18 (by rw [hc2]; decide) (by rw [hc2]; decide) (by rw [hc2]; rfl) (by decide) ?_
          refine at_aload_n C dX8_year_74 0 rfl ?_
          refine gC_X8_42 C dX8_year_75 ?_
          refine at_iload_n C dX8_year_78 1 rfl ?_
          refine at_callVNi C (kX0_birdsIn l D ad T hI _ _ _ h) ok_X0_birdsIn m_X8_177 mi_X0_birdsIn ml_X0_birdsIn (wC_g18 T ad _) rfl ⟨rfl, rfl, Nat.le_of_ble_eq_true rfl, Nat.le_of_ble_eq_true rfl⟩ rfl rfl (Nat.le_of_ble_eq_true rfl) dX8_year_79 (fun r10 s9 h => ?_)
          exact ret _ _ _ _ dX8_year_82 h
        · replace h := h.2 hc2
          by_cases hc3 : v2 = 3
          · replace h := h.1 hc3
            refine at_tabIn (off := 65) (tgt := 83) C dX8_year_18 (by rw [hc3]; decide) (by rw [hc3]; decide) (by rw [hc3]; rfl) (by decide) ?_
            refine at_aload_n C dX8_year_83 0 rfl ?_
            refine gC_X8_26 C dX8_year_84 ?_
            refine at_iload_n C dX8_year_87 1 rfl ?_
            refine at_callVNi C (kX7_hoursOff l D ad T hI _ _ _ h) ok_X7_hoursOff m_X8_180 mi_X7_hoursOff ml_X7_hoursOff (wC_g9 T ad _) rfl ⟨rfl, rfl, Nat.le_of_ble_eq_true rfl, Nat.le_of_ble_eq_true rfl⟩ rfl rfl (Nat.le_of_ble_eq_true rfl) dX8_year_88 (fun r12 s11 h => ?_)
            exact ret _ _ _ _ dX8_year_91 h
          · replace h := h.2 hc3
            by_cases hc4 : v2 = 4
            · replace h := h.1 hc4
              refine at_tabIn (off := 74) (tgt := 92) C dX8_year_18 (by rw [hc4]; decide) (by rw [hc4]; decide) (by rw [hc4]; rfl) (by decide) ?_
              refine at_aload_n C dX8_year_92 0 rfl ?_
              refine at_iload_n C dX8_year_93 1 rfl ?_
              refine at_callVi C (kX8_missedOf l D ad T hI _ _ _ h) ok_X8_missedOf m_X8_183 mi_X8_missedOf ml_X8_missedOf (wC_g0 T ad _) rfl ⟨rfl, rfl, Nat.le_of_ble_eq_true rfl, Nat.le_of_ble_eq_true rfl⟩ rfl rfl (Nat.le_of_ble_eq_true rfl) dX8_year_94 (fun r14 s13 h => ?_)
              exact ret _ _ _ _ dX8_year_97 h
            · replace h := h.2 hc4
              by_cases hc5 : v2 = 5
              · replace h := h.1 hc5
                refine at_tabIn (off := 80) (tgt := 98) C dX8_year_18 (by rw [hc5]; decide) (by rw [hc5]; decide) (by rw [hc5]; rfl) (by decide) ?_
                refine at_aload_n C dX8_year_98 0 rfl ?_
                refine at_iload_n C dX8_year_99 1 rfl ?_
                refine at_callVi C (kX8_totalOf l D ad T hI _ _ _ h) ok_X8_totalOf m_X8_186 mi_X8_totalOf ml_X8_totalOf (wC_g0 T ad _) rfl ⟨rfl, rfl, Nat.le_of_ble_eq_true rfl, Nat.le_of_ble_eq_true rfl⟩ rfl rfl (Nat.le_of_ble_eq_true rfl) dX8_year_100 (fun r16 s15 h => ?_)
                exact ret _ _ _ _ dX8_year_103 h
              · replace h := h.2 hc5
                refine at_tabOut (tgt := 104) C dX8_year_18 (by have q0 := lv_neT hc0 (a := 0) (by decide); have q1 := lv_neT hc1 (a := 1) (by decide); have q2 := lv_neT hc2 (a := 2) (by decide); have q3 := lv_neT hc3 (a := 3) (by decide); have q4 := lv_neT hc4 (a := 4) (by decide); have q5 := lv_neT hc5 (a := 5) (by decide); omega) (by decide) ?_
                refine at_iconst (v := (-1)) C dX8_year_104 (by decide) ?_
                exact ret _ _ _ _ dX8_year_105 h
  · replace h := h.2 hc
    refine at_iconst (v := (-1)) C dX8_year_7 (by decide) ?_
    exact ret _ _ _ _ dX8_year_8 h
theorem m_X8_62 : Cond.fieldLink RX8 62 RX8 "slots" "[I" ∈ gW := gW_in 324 (by decide +kernel) (by decide +kernel)
theorem gC_X8_62 {X : XT} {l : Launch} {D : va_G} {ad : Nat → Nat} {T : TT} {cc : ByteArray} {nL fr lo : Nat} {σ : St} {pc : Nat} {lv : List (Nat × Value)} {st : List Value} (C : Cx X (KC l D ad T) cc RX8 nL fr lo) (d : decode cc pc = .ok (.getfield 62, 3)) (kk : At X nL (wC T ad σ) (pc + 3) lv (.ref (ad 1) :: st)) : At X nL (wC T ad σ) pc lv (.ref (ad 0) :: st) := at_get C ingX8 (ci := 8) rfl 0 (wC_g0 T ad σ) 7 (by decide) m_X8_62 rfl rfl d kk
theorem m_X0_132 : Cond.methodLinkNest RX0 132 yX1_isUnder "HawkRidge" ∈ nW := nW_in 606 (by decide +kernel) (by decide +kernel)
theorem m_X0_135 : Cond.methodLinkNest RX0 135 yX2_hour "HawkRidge" ∈ nW := nW_in 607 (by decide +kernel) (by decide +kernel)
def qX0_addSlots_a1_81 (R6 : Int32 → Int32 → Int32 → Int32 → St → Prop) (Q : Int32 → St → Prop) (v1 : Int32) (v2 : Int32) (v4 : Int32) (v5 : Int32) (σ : St) : Prop := ∀ x9 : Int32, x9 = v5 + 1 → R6 v1 v2 v4 x9 σ
def qX0_addSlots_a1_6 (R6 : Int32 → Int32 → Int32 → Int32 → St → Prop) (Q : Int32 → St → Prop) (v1 : Int32) (v2 : Int32) (v4 : Int32) (v5 : Int32) (σ : St) : Prop := (((σ 12 6) ≤ v5 → (Q v4 σ)) ∧ (¬ (σ 12 6) ≤ v5 → (pX0_isBirdOf v5 v1 σ (fun r2 s1 => ((r2 = 0 → (qX0_addSlots_a1_81 R6 Q v1 v2 v4 v5 s1)) ∧ (¬ r2 = 0 → (vp_in v5 300 ∧ (pX1_isUnder (s1 23 (Int32.toNatClampNeg v5)) v2 s1 (fun r4 s3 => ((r4 = 0 → (qX0_addSlots_a1_81 R6 Q v1 v2 v4 v5 s3)) ∧ (¬ r4 = 0 → (vp_in v5 300 ∧ (pX2_hour v5 s3 (fun r6 s5 => (vp_in ((((s3 13 (Int32.toNatClampNeg v5)) - (s3 13 (Int32.toNatClampNeg v5)) / 30 * 30) * 10) + r6) 300 ∧ (vp_in ((((s3 13 (Int32.toNatClampNeg v5)) - (s3 13 (Int32.toNatClampNeg v5)) / 30 * 30) * 10) + r6) 300 ∧ ∀ s7 : St, s7 = (st_up s5 1 (Int32.toNatClampNeg ((((s3 13 (Int32.toNatClampNeg v5)) - (s3 13 (Int32.toNatClampNeg v5)) / 30 * 30) * 10) + r6)) ((s5 1 (Int32.toNatClampNeg ((((s3 13 (Int32.toNatClampNeg v5)) - (s3 13 (Int32.toNatClampNeg v5)) / 30 * 30) * 10) + r6))) + 1)) → ∀ x8 : Int32, x8 = v4 + 1 → (qX0_addSlots_a1_81 R6 Q v1 v2 x8 v5 s7)))))))))))))))))
def qX0_addSlots_a1_l6  (Q : Int32 → St → Prop) : Nat → Int32 → Int32 → Int32 → Int32 → St → Prop
  | 0 => fun _ _ _ _ _ => False
  | n + 1 => qX0_addSlots_a1_6 (qX0_addSlots_a1_l6  Q n) Q
def pX0_addSlots_a1 (v1 : Int32) (v2 : Int32) (σ : St) (Q : Int32 → St → Prop) : Prop := (∃ n, qX0_addSlots_a1_l6  Q n v1 v2 0 0 σ)
set_option maxRecDepth 100000 in
set_option maxHeartbeats 4000000 in
theorem kX0_addSlots_a1 (l : Launch) (D : va_G) (ad : Nat → Nat) (T : TT) (hI : injA 40 ad) (v1 : Int32) (v2 : Int32) (σ : St) (Q : Int32 → St → Prop) (h : pX0_addSlots_a1 v1 v2 σ Q) : Ki (KC l D ad T) (wC T ad) yX0_addSlots cX0_addSlots 6 (some .int) { frames := 2, cells := 0, slots := 0, locals := 44 } [.ref (ad 18), .int v1, .int v2, .ref (ad 1)] (wC T ad σ) Q := by
  refine st_MI (fr := 2) (lo := 44) (by decide) ⟨rfl, rfl⟩ rfl (Nat.le_of_ble_eq_true rfl) rfl (fun X C hD ret => ?_)
  replace hD : ∀ σ, DX X (wC T ad σ) := fun σ => hD _ (wC_D hI T σ)
  have t81 : ∀ (R6 : Int32 → Int32 → Int32 → Int32 → St → Prop) (hR6 : ∀ (v1 : Int32) (v2 : Int32) (v4 : Int32) (v5 : Int32) (σ : St), R6 v1 v2 v4 v5 σ → At X 6 (wC T ad σ) 6 [(0, .ref (ad 18)), (1, .int v1), (2, .int v2), (3, .ref (ad 1)), (4, .int v4), (5, .int v5)] []) (v1 : Int32) (v2 : Int32) (v4 : Int32) (v5 : Int32) (σ : St), qX0_addSlots_a1_81 R6 Q v1 v2 v4 v5 σ → At X 6 (wC T ad σ) 81 [(0, .ref (ad 18)), (1, .int v1), (2, .int v2), (3, .ref (ad 1)), (4, .int v4), (5, .int v5)] [] := by
    intro R6 hR6 v1 v2 v4 v5 σ h
    unfold qX0_addSlots_a1_81 at h
    obtain ⟨x9, ex9⟩ : ∃ y : Int32, y = v5 + 1 := ⟨_, rfl⟩
    replace h := h x9 ex9
    refine at_iinc (v := x9) (lv' := [(0, .ref (ad 18)), (1, .int v1), (2, .int v2), (3, .ref (ad 1)), (4, .int v4), (5, .int x9)]) C dX0_addSlots_81 5 rfl (by rw [ex9]; rfl) (by decide) [1, 2, 3, 4, 5, 0] rfl ?_
    refine at_goto (tgt := 6) C dX0_addSlots_84 (by decide) ?_
    exact hR6 _ _ _ _ _ h
  have tb6 : ∀ (R6 : Int32 → Int32 → Int32 → Int32 → St → Prop) (hR6 : ∀ (v1 : Int32) (v2 : Int32) (v4 : Int32) (v5 : Int32) (σ : St), R6 v1 v2 v4 v5 σ → At X 6 (wC T ad σ) 6 [(0, .ref (ad 18)), (1, .int v1), (2, .int v2), (3, .ref (ad 1)), (4, .int v4), (5, .int v5)] []) (v1 : Int32) (v2 : Int32) (v4 : Int32) (v5 : Int32) (σ : St), qX0_addSlots_a1_6 R6 Q v1 v2 v4 v5 σ → At X 6 (wC T ad σ) 6 [(0, .ref (ad 18)), (1, .int v1), (2, .int v2), (3, .ref (ad 1)), (4, .int v4), (5, .int v5)] [] := by
    intro R6 hR6 v1 v2 v4 v5 σ h
    unfold qX0_addSlots_a1_6 at h
    refine at_iload C dX0_addSlots_6 5 rfl ?_
    refine at_aload_n C dX0_addSlots_8 0 rfl ?_
    refine gC_X0_49 C dX0_addSlots_9 ?_
    refine gC_X0_53 C dX0_addSlots_12 ?_
    refine at_icmp_ge (tgt := 87) C dX0_addSlots_15 (by decide) (fun hc => ?_) (fun hc => ?_)
    · replace h := h.1 hc
      refine at_iload C dX0_addSlots_87 4 rfl ?_
      exact ret _ _ _ _ dX0_addSlots_89 h
    · replace h := h.2 hc
      refine at_aload_n C dX0_addSlots_18 0 rfl ?_
      refine at_iload C dX0_addSlots_19 5 rfl ?_
      refine at_iload_n C dX0_addSlots_21 1 rfl ?_
      refine at_callVi C (kX0_isBirdOf l D ad T hI _ _ _ _ h) ok_X0_isBirdOf m_X0_124 mi_X0_isBirdOf ml_X0_isBirdOf (wC_g18 T ad _) rfl ⟨rfl, rfl, Nat.le_of_ble_eq_true rfl, Nat.le_of_ble_eq_true rfl⟩ rfl rfl (Nat.le_of_ble_eq_true rfl) dX0_addSlots_22 (fun r2 s1 h => ?_)
      refine at_if_eq (tgt := 81) C dX0_addSlots_25 (by decide) (fun hc => ?_) (fun hc => ?_)
      · replace h := h.1 hc
        exact t81 R6 hR6 _ _ _ _ _ h
      · replace h := h.2 hc
        refine at_aload_n C dX0_addSlots_28 0 rfl ?_
        refine gC_X0_45 C dX0_addSlots_29 ?_
        refine at_aload_n C dX0_addSlots_32 0 rfl ?_
        refine gC_X0_32 C dX0_addSlots_33 ?_
        refine at_iload C dX0_addSlots_36 5 rfl ?_
        obtain ⟨hi, h⟩ := h
        refine rC_23 C hi dX0_addSlots_38 ?_
        refine at_iload_n C dX0_addSlots_39 2 rfl ?_
        refine at_callVNi C (kX1_isUnder l D ad T hI _ _ _ _ h) ok_X1_isUnder m_X0_132 mi_X1_isUnder ml_X1_isUnder (wC_g4 T ad _) rfl ⟨rfl, rfl, Nat.le_of_ble_eq_true rfl, Nat.le_of_ble_eq_true rfl⟩ rfl rfl (Nat.le_of_ble_eq_true rfl) dX0_addSlots_40 (fun r4 s3 h => ?_)
        refine at_if_eq (tgt := 81) C dX0_addSlots_43 (by decide) (fun hc => ?_) (fun hc => ?_)
        · replace h := h.1 hc
          exact t81 R6 hR6 _ _ _ _ _ h
        · replace h := h.2 hc
          refine at_aload_n C dX0_addSlots_46 3 rfl ?_
          refine at_aload_n C dX0_addSlots_47 0 rfl ?_
          refine gC_X0_49 C dX0_addSlots_48 ?_
          refine gC_X0_63 C dX0_addSlots_51 ?_
          refine at_iload C dX0_addSlots_54 5 rfl ?_
          obtain ⟨hi, h⟩ := h
          refine rC_13 C hi dX0_addSlots_56 ?_
          refine at_bipush (v := 30) C dX0_addSlots_57 (by decide) ?_
          refine at_irem C dX0_addSlots_59 (by decide) ?_
          refine at_bipush (v := 10) C dX0_addSlots_60 (by decide) ?_
          refine at_imul C dX0_addSlots_62 ?_
          refine at_aload_n C dX0_addSlots_63 0 rfl ?_
          refine gC_X0_49 C dX0_addSlots_64 ?_
          refine at_iload C dX0_addSlots_67 5 rfl ?_
          refine at_callVNi C (kX2_hour l D ad T hI _ _ _ h) ok_X2_hour m_X0_135 mi_X2_hour ml_X2_hour (wC_g12 T ad _) rfl ⟨rfl, rfl, Nat.le_of_ble_eq_true rfl, Nat.le_of_ble_eq_true rfl⟩ rfl rfl (Nat.le_of_ble_eq_true rfl) dX0_addSlots_69 (fun r6 s5 h => ?_)
          refine at_iadd C dX0_addSlots_72 ?_
          refine at_dup2 C dX0_addSlots_73 rfl rfl ?_
          obtain ⟨hi, h⟩ := h
          refine rC_1 C hi dX0_addSlots_74 ?_
          refine at_iconst (v := 1) C dX0_addSlots_75 (by decide) ?_
          refine at_iadd C dX0_addSlots_76 ?_
          obtain ⟨hi, h⟩ := h
          refine sC_1 C hD hi dX0_addSlots_77 (fun s7 es7 => ?_)
          replace h := h s7 es7
          obtain ⟨x8, ex8⟩ : ∃ y : Int32, y = v4 + 1 := ⟨_, rfl⟩
          replace h := h x8 ex8
          refine at_iinc (v := x8) (lv' := [(0, .ref (ad 18)), (1, .int v1), (2, .int v2), (3, .ref (ad 1)), (4, .int x8), (5, .int v5)]) C dX0_addSlots_78 4 rfl (by rw [ex8]; rfl) (by decide) [1, 2, 3, 4, 0, 5] rfl ?_
          exact t81 R6 hR6 _ _ _ _ _ h
  have t6 : ∀ (n : Nat) (v1 : Int32) (v2 : Int32) (v4 : Int32) (v5 : Int32) (σ : St), qX0_addSlots_a1_l6  Q n v1 v2 v4 v5 σ → At X 6 (wC T ad σ) 6 [(0, .ref (ad 18)), (1, .int v1), (2, .int v2), (3, .ref (ad 1)), (4, .int v4), (5, .int v5)] [] := by
    intro  n
    induction n with
    | zero => intro v1 v2 v4 v5 σ h; exact False.elim h
    | succ n ih => intro v1 v2 v4 v5 σ h; exact tb6 (qX0_addSlots_a1_l6  Q n) ih v1 v2 v4 v5 σ h
  unfold pX0_addSlots_a1 at h
  refine at_iconst (v := 0) C dX0_addSlots_0 (by decide) ?_
  refine at_istore (lv' := [(0, .ref (ad 18)), (1, .int v1), (2, .int v2), (3, .ref (ad 1)), (4, .int 0)]) C dX0_addSlots_1 (by decide) [1, 2, 3, 4, 0] rfl ?_
  refine at_iconst (v := 0) C dX0_addSlots_3 (by decide) ?_
  refine at_istore (lv' := [(0, .ref (ad 18)), (1, .int v1), (2, .int v2), (3, .ref (ad 1)), (4, .int 0), (5, .int 0)]) C dX0_addSlots_4 (by decide) [1, 2, 3, 4, 5, 0] rfl ?_
  obtain ⟨n, h⟩ := h
  exact t6  n _ _ _ _ _ h
theorem m_X8_189 : Cond.methodLinkNest RX8 189 yX0_addSlots "HawkRidge" ∈ nW := nW_in 602 (by decide +kernel) (by decide +kernel)
theorem mc_X0_addSlots : Cond.code yX0_addSlots cX0_addSlots 6 (some .int) ∈ gW := gW_in 605 (by decide +kernel) (by decide +kernel)
theorem ok_X0_addSlots : okM yX0_addSlots cX0_addSlots 6 (some .int) 3 := ⟨mc_X0_addSlots, mz_RX0, by decide +kernel⟩
theorem mi_X0_addSlots : Cond.instanceMethod yX0_addSlots ∈ gW := gW_in 604 (by decide +kernel) (by decide +kernel)
theorem ml_X0_addSlots : Cond.selects RX0 yX0_addSlots yX0_addSlots ∈ gW := gW_in 45 (by decide +kernel) (by decide +kernel)
def qX8_slotOfNth_4 (R4 : Int32 → Int32 → Int32 → St → Prop) (Q : Int32 → St → Prop) (v1 : Int32) (v2 : Int32) (v3 : Int32) (σ : St) : Prop := ((300 ≤ v3 → (Q (-1) σ)) ∧ (¬ 300 ≤ v3 → (vp_in v3 300 ∧ ∀ x1 : Int32, x1 = (v2 + (σ 1 (Int32.toNatClampNeg v3))) → ((x1 < v1 → ∀ x2 : Int32, x2 = v3 + 1 → R4 v1 x1 x2 σ) ∧ (¬ x1 < v1 → (Q v3 σ))))))
def qX8_slotOfNth_l4  (Q : Int32 → St → Prop) : Nat → Int32 → Int32 → Int32 → St → Prop
  | 0 => fun _ _ _ _ => False
  | n + 1 => qX8_slotOfNth_4 (qX8_slotOfNth_l4  Q n) Q
def pX8_slotOfNth (v1 : Int32) (σ : St) (Q : Int32 → St → Prop) : Prop := (∃ n, qX8_slotOfNth_l4  Q n v1 0 0 σ)
set_option maxRecDepth 100000 in
set_option maxHeartbeats 4000000 in
theorem kX8_slotOfNth (l : Launch) (D : va_G) (ad : Nat → Nat) (T : TT) (hI : injA 40 ad) (v1 : Int32) (σ : St) (Q : Int32 → St → Prop) (h : pX8_slotOfNth v1 σ Q) : Ki (KC l D ad T) (wC T ad) yX8_slotOfNth cX8_slotOfNth 4 (some .int) { frames := 0, cells := 0, slots := 0, locals := 0 } [.ref (ad 0), .int v1] (wC T ad σ) Q := by
  refine st_MI (fr := 0) (lo := 0) (by decide) ⟨rfl, rfl⟩ rfl (Nat.le_of_ble_eq_true rfl) rfl (fun X C hD ret => ?_)
  replace hD : ∀ σ, DX X (wC T ad σ) := fun σ => hD _ (wC_D hI T σ)
  have tb4 : ∀ (R4 : Int32 → Int32 → Int32 → St → Prop) (hR4 : ∀ (v1 : Int32) (v2 : Int32) (v3 : Int32) (σ : St), R4 v1 v2 v3 σ → At X 4 (wC T ad σ) 4 [(0, .ref (ad 0)), (1, .int v1), (2, .int v2), (3, .int v3)] []) (v1 : Int32) (v2 : Int32) (v3 : Int32) (σ : St), qX8_slotOfNth_4 R4 Q v1 v2 v3 σ → At X 4 (wC T ad σ) 4 [(0, .ref (ad 0)), (1, .int v1), (2, .int v2), (3, .int v3)] [] := by
    intro R4 hR4 v1 v2 v3 σ h
    unfold qX8_slotOfNth_4 at h
    refine at_iload_n C dX8_slotOfNth_4 3 rfl ?_
    refine at_sipush (v := 300) C dX8_slotOfNth_5 (by decide) ?_
    refine at_icmp_ge (tgt := 33) C dX8_slotOfNth_8 (by decide) (fun hc => ?_) (fun hc => ?_)
    · replace h := h.1 hc
      refine at_iconst (v := (-1)) C dX8_slotOfNth_33 (by decide) ?_
      exact ret _ _ _ _ dX8_slotOfNth_34 h
    · replace h := h.2 hc
      refine at_iload_n C dX8_slotOfNth_11 2 rfl ?_
      refine at_aload_n C dX8_slotOfNth_12 0 rfl ?_
      refine gC_X8_62 C dX8_slotOfNth_13 ?_
      refine at_iload_n C dX8_slotOfNth_16 3 rfl ?_
      obtain ⟨hi, h⟩ := h
      refine rC_1 C hi dX8_slotOfNth_17 ?_
      refine at_iadd C dX8_slotOfNth_18 ?_
      refine at_topi (fun x1 ex1 => ?_)
      replace h := h x1 ex1
      refine at_istore_n (lv' := [(0, .ref (ad 0)), (1, .int v1), (2, .int x1), (3, .int v3)]) C dX8_slotOfNth_19 (by decide) [1, 2, 0, 3] rfl ?_
      refine at_iload_n C dX8_slotOfNth_20 2 rfl ?_
      refine at_iload_n C dX8_slotOfNth_21 1 rfl ?_
      refine at_icmp_lt (tgt := 27) C dX8_slotOfNth_22 (by decide) (fun hc => ?_) (fun hc => ?_)
      · replace h := h.1 hc
        obtain ⟨x2, ex2⟩ : ∃ y : Int32, y = v3 + 1 := ⟨_, rfl⟩
        replace h := h x2 ex2
        refine at_iinc (v := x2) (lv' := [(0, .ref (ad 0)), (1, .int v1), (2, .int x1), (3, .int x2)]) C dX8_slotOfNth_27 3 rfl (by rw [ex2]; rfl) (by decide) [1, 2, 3, 0] rfl ?_
        refine at_goto (tgt := 4) C dX8_slotOfNth_30 (by decide) ?_
        exact hR4 _ _ _ _ h
      · replace h := h.2 hc
        refine at_iload_n C dX8_slotOfNth_25 3 rfl ?_
        exact ret _ _ _ _ dX8_slotOfNth_26 h
  have t4 : ∀ (n : Nat) (v1 : Int32) (v2 : Int32) (v3 : Int32) (σ : St), qX8_slotOfNth_l4  Q n v1 v2 v3 σ → At X 4 (wC T ad σ) 4 [(0, .ref (ad 0)), (1, .int v1), (2, .int v2), (3, .int v3)] [] := by
    intro  n
    induction n with
    | zero => intro v1 v2 v3 σ h; exact False.elim h
    | succ n ih => intro v1 v2 v3 σ h; exact tb4 (qX8_slotOfNth_l4  Q n) ih v1 v2 v3 σ h
  unfold pX8_slotOfNth at h
  refine at_iconst (v := 0) C dX8_slotOfNth_0 (by decide) ?_
  refine at_istore_n (lv' := [(0, .ref (ad 0)), (1, .int v1), (2, .int 0)]) C dX8_slotOfNth_1 (by decide) [1, 2, 0] rfl ?_
  refine at_iconst (v := 0) C dX8_slotOfNth_2 (by decide) ?_
  refine at_istore_n (lv' := [(0, .ref (ad 0)), (1, .int v1), (2, .int 0), (3, .int 0)]) C dX8_slotOfNth_3 (by decide) [1, 2, 3, 0] rfl ?_
  obtain ⟨n, h⟩ := h
  exact t4  n _ _ _ _ h
theorem m_X8_193 : Cond.methodLink RX8 193 yX8_slotOfNth ∈ gW := gW_in 608 (by decide +kernel) (by decide +kernel)
theorem mc_X8_slotOfNth : Cond.code yX8_slotOfNth cX8_slotOfNth 4 (some .int) ∈ gW := gW_in 611 (by decide +kernel) (by decide +kernel)
theorem ok_X8_slotOfNth : okM yX8_slotOfNth cX8_slotOfNth 4 (some .int) 1 := ⟨mc_X8_slotOfNth, mz_RX8, by decide +kernel⟩
theorem mi_X8_slotOfNth : Cond.instanceMethod yX8_slotOfNth ∈ gW := gW_in 610 (by decide +kernel) (by decide +kernel)
theorem ml_X8_slotOfNth : Cond.selects RX8 yX8_slotOfNth yX8_slotOfNth ∈ gW := gW_in 46 (by decide +kernel) (by decide +kernel)
def qX8_passage_111  (Q : Int32 → St → Prop) (k0 : Int32) (σ : St) : Prop := (pX8_slotOfNth k0 σ (fun r14 s13 => (Q r14 s13)))
def qX8_passage_40 (R40 : Int32 → Int32 → Int32 → Int32 → St → Prop) (Q : Int32 → St → Prop) (v1 : Int32) (v2 : Int32) (v3 : Int32) (v4 : Int32) (σ : St) : Prop := ((300 ≤ v4 → (pX0_addSlots_a1 v1 v2 σ (fun r8 s7 => ((¬ r8 = 0 → ((¬ v3 = 0 → ((¬ v3 = 1 → (qX8_passage_111  Q r8 s7)) ∧ (v3 = 1 → (qX8_passage_111  Q ((r8 + 1) / 2) s7)))) ∧ (v3 = 0 → (pX8_slotOfNth 1 s7 (fun r10 s9 => (Q r10 s9)))))) ∧ (r8 = 0 → (Q (-1) s7)))))) ∧ (¬ 300 ≤ v4 → (vp_in v4 300 ∧ ∀ s11 : St, s11 = (st_up σ 1 (Int32.toNatClampNeg v4) 0) → ∀ x12 : Int32, x12 = v4 + 1 → R40 v1 v2 v3 x12 s11)))
def qX8_passage_l40  (Q : Int32 → St → Prop) : Nat → Int32 → Int32 → Int32 → Int32 → St → Prop
  | 0 => fun _ _ _ _ _ => False
  | n + 1 => qX8_passage_40 (qX8_passage_l40  Q n) Q
def pX8_passage (v1 : Int32) (v2 : Int32) (v3 : Int32) (σ : St) (Q : Int32 → St → Prop) : Prop := (pX8_isYear v1 σ (fun r2 s1 => ((r2 = 0 → (Q (-1) s1)) ∧ (¬ r2 = 0 → (pX1_has v2 s1 (fun r4 s3 => ((r4 = 0 → (Q (-1) s3)) ∧ (¬ r4 = 0 → ((v3 < 0 → (Q (-1) s3)) ∧ (¬ v3 < 0 → ((v3 ≤ 2 → (pX0_pairYear v1 s3 (fun s5 => (∃ n, qX8_passage_l40  Q n v1 v2 v3 0 s5)))) ∧ (¬ v3 ≤ 2 → (Q (-1) s3)))))))))))))
set_option maxRecDepth 100000 in
set_option maxHeartbeats 4000000 in
theorem kX8_passage (l : Launch) (D : va_G) (ad : Nat → Nat) (T : TT) (hI : injA 40 ad) (v1 : Int32) (v2 : Int32) (v3 : Int32) (σ : St) (Q : Int32 → St → Prop) (h : pX8_passage v1 v2 v3 σ Q) : Ki (KC l D ad T) (wC T ad) yX8_passage cX8_passage 5 (some .int) { frames := 20, cells := 0, slots := 0, locals := 480 } [.ref (ad 0), .int v1, .int v2, .int v3] (wC T ad σ) Q := by
  refine st_MI (fr := 20) (lo := 480) (by decide) ⟨rfl, rfl⟩ rfl (Nat.le_of_ble_eq_true rfl) rfl (fun X C hD ret => ?_)
  replace hD : ∀ σ, DX X (wC T ad σ) := fun σ => hD _ (wC_D hI T σ)
  have t111 : ∀ (k0 : Int32) (σ : St), qX8_passage_111  Q k0 σ → At X 5 (wC T ad σ) 111 [] [.int k0, .ref (ad 0)] := by
    intro k0 σ h
    unfold qX8_passage_111 at h
    refine at_callVi C (kX8_slotOfNth l D ad T hI _ _ _ h) ok_X8_slotOfNth m_X8_193 mi_X8_slotOfNth ml_X8_slotOfNth (wC_g0 T ad _) rfl ⟨rfl, rfl, Nat.le_of_ble_eq_true rfl, Nat.le_of_ble_eq_true rfl⟩ rfl rfl (Nat.le_of_ble_eq_true rfl) dX8_passage_111 (fun r14 s13 h => ?_)
    exact ret _ _ _ _ dX8_passage_114 h
  have tb40 : ∀ (R40 : Int32 → Int32 → Int32 → Int32 → St → Prop) (hR40 : ∀ (v1 : Int32) (v2 : Int32) (v3 : Int32) (v4 : Int32) (σ : St), R40 v1 v2 v3 v4 σ → At X 5 (wC T ad σ) 40 [(0, .ref (ad 0)), (1, .int v1), (2, .int v2), (3, .int v3), (4, .int v4)] []) (v1 : Int32) (v2 : Int32) (v3 : Int32) (v4 : Int32) (σ : St), qX8_passage_40 R40 Q v1 v2 v3 v4 σ → At X 5 (wC T ad σ) 40 [(0, .ref (ad 0)), (1, .int v1), (2, .int v2), (3, .int v3), (4, .int v4)] [] := by
    intro R40 hR40 v1 v2 v3 v4 σ h
    unfold qX8_passage_40 at h
    refine at_iload C dX8_passage_40 4 rfl ?_
    refine at_sipush (v := 300) C dX8_passage_42 (by decide) ?_
    refine at_icmp_ge (tgt := 62) C dX8_passage_45 (by decide) (fun hc => ?_) (fun hc => ?_)
    · replace h := h.1 hc
      refine at_aload_n C dX8_passage_62 0 rfl ?_
      refine gC_X8_42 C dX8_passage_63 ?_
      refine at_iload_n C dX8_passage_66 1 rfl ?_
      refine at_iload_n C dX8_passage_67 2 rfl ?_
      refine at_aload_n C dX8_passage_68 0 rfl ?_
      refine gC_X8_62 C dX8_passage_69 ?_
      refine at_callVNi C (kX0_addSlots_a1 l D ad T hI _ _ _ _ h) ok_X0_addSlots m_X8_189 mi_X0_addSlots ml_X0_addSlots (wC_g18 T ad _) rfl ⟨rfl, rfl, Nat.le_of_ble_eq_true rfl, Nat.le_of_ble_eq_true rfl⟩ rfl rfl (Nat.le_of_ble_eq_true rfl) dX8_passage_72 (fun r8 s7 h => ?_)
      refine at_istore (lv' := [(0, .ref (ad 0)), (1, .int v1), (2, .int v2), (3, .int v3), (4, .int r8)]) C dX8_passage_75 (by decide) [1, 2, 3, 4, 0] rfl ?_
      refine at_iload C dX8_passage_77 4 rfl ?_
      refine at_if_ne (tgt := 84) C dX8_passage_79 (by decide) (fun hc => ?_) (fun hc => ?_)
      · replace h := h.1 hc
        refine at_iload_n C dX8_passage_84 3 rfl ?_
        refine at_if_ne (tgt := 94) C dX8_passage_85 (by decide) (fun hc => ?_) (fun hc => ?_)
        · replace h := h.1 hc
          refine at_aload_n C dX8_passage_94 0 rfl ?_
          refine at_iload_n C dX8_passage_95 3 rfl ?_
          refine at_iconst (v := 1) C dX8_passage_96 (by decide) ?_
          refine at_icmp_ne (tgt := 109) C dX8_passage_97 (by decide) (fun hc => ?_) (fun hc => ?_)
          · replace h := h.1 hc
            refine at_iload C dX8_passage_109 4 rfl ?_
            refine at_sub [] rfl ?_
            exact t111  _ _ h
          · replace h := h.2 hc
            refine at_iload C dX8_passage_100 4 rfl ?_
            refine at_iconst (v := 1) C dX8_passage_102 (by decide) ?_
            refine at_iadd C dX8_passage_103 ?_
            refine at_iconst (v := 2) C dX8_passage_104 (by decide) ?_
            refine at_idiv C dX8_passage_105 (by decide) ?_
            refine at_goto (tgt := 111) C dX8_passage_106 (by decide) ?_
            refine at_sub [] rfl ?_
            exact t111  _ _ h
        · replace h := h.2 hc
          refine at_aload_n C dX8_passage_88 0 rfl ?_
          refine at_iconst (v := 1) C dX8_passage_89 (by decide) ?_
          refine at_callVi C (kX8_slotOfNth l D ad T hI _ _ _ h) ok_X8_slotOfNth m_X8_193 mi_X8_slotOfNth ml_X8_slotOfNth (wC_g0 T ad _) rfl ⟨rfl, rfl, Nat.le_of_ble_eq_true rfl, Nat.le_of_ble_eq_true rfl⟩ rfl rfl (Nat.le_of_ble_eq_true rfl) dX8_passage_90 (fun r10 s9 h => ?_)
          exact ret _ _ _ _ dX8_passage_93 h
      · replace h := h.2 hc
        refine at_iconst (v := (-1)) C dX8_passage_82 (by decide) ?_
        exact ret _ _ _ _ dX8_passage_83 h
    · replace h := h.2 hc
      refine at_aload_n C dX8_passage_48 0 rfl ?_
      refine gC_X8_62 C dX8_passage_49 ?_
      refine at_iload C dX8_passage_52 4 rfl ?_
      refine at_iconst (v := 0) C dX8_passage_54 (by decide) ?_
      obtain ⟨hi, h⟩ := h
      refine sC_1 C hD hi dX8_passage_55 (fun s11 es11 => ?_)
      replace h := h s11 es11
      obtain ⟨x12, ex12⟩ : ∃ y : Int32, y = v4 + 1 := ⟨_, rfl⟩
      replace h := h x12 ex12
      refine at_iinc (v := x12) (lv' := [(0, .ref (ad 0)), (1, .int v1), (2, .int v2), (3, .int v3), (4, .int x12)]) C dX8_passage_56 4 rfl (by rw [ex12]; rfl) (by decide) [1, 2, 3, 4, 0] rfl ?_
      refine at_goto (tgt := 40) C dX8_passage_59 (by decide) ?_
      exact hR40 _ _ _ _ _ h
  have t40 : ∀ (n : Nat) (v1 : Int32) (v2 : Int32) (v3 : Int32) (v4 : Int32) (σ : St), qX8_passage_l40  Q n v1 v2 v3 v4 σ → At X 5 (wC T ad σ) 40 [(0, .ref (ad 0)), (1, .int v1), (2, .int v2), (3, .int v3), (4, .int v4)] [] := by
    intro  n
    induction n with
    | zero => intro v1 v2 v3 v4 σ h; exact False.elim h
    | succ n ih => intro v1 v2 v3 v4 σ h; exact tb40 (qX8_passage_l40  Q n) ih v1 v2 v3 v4 σ h
  unfold pX8_passage at h
  refine at_iload_n C dX8_passage_0 1 rfl ?_
  refine at_callSi C (kX8_isYear l D ad T hI _ _ _ h) ok_X8_isYear m_X8_143 ms_X8_isYear ⟨rfl, rfl, Nat.le_of_ble_eq_true rfl, Nat.le_of_ble_eq_true rfl⟩ rfl rfl (Nat.le_of_ble_eq_true rfl) dX8_passage_1 (fun r2 s1 h => ?_)
  refine at_if_eq (tgt := 27) C dX8_passage_4 (by decide) (fun hc => ?_) (fun hc => ?_)
  · replace h := h.1 hc
    refine at_iconst (v := (-1)) C dX8_passage_27 (by decide) ?_
    exact ret _ _ _ _ dX8_passage_28 h
  · replace h := h.2 hc
    refine at_aload_n C dX8_passage_7 0 rfl ?_
    refine gC_X8_19 C dX8_passage_8 ?_
    refine at_iload_n C dX8_passage_11 2 rfl ?_
    refine at_callVNi C (kX1_has l D ad T hI _ _ _ h) ok_X1_has m_X8_91 mi_X1_has ml_X1_has (wC_g4 T ad _) rfl ⟨rfl, rfl, Nat.le_of_ble_eq_true rfl, Nat.le_of_ble_eq_true rfl⟩ rfl rfl (Nat.le_of_ble_eq_true rfl) dX8_passage_12 (fun r4 s3 h => ?_)
    refine at_if_eq (tgt := 27) C dX8_passage_15 (by decide) (fun hc => ?_) (fun hc => ?_)
    · replace h := h.1 hc
      refine at_iconst (v := (-1)) C dX8_passage_27 (by decide) ?_
      exact ret _ _ _ _ dX8_passage_28 h
    · replace h := h.2 hc
      refine at_iload_n C dX8_passage_18 3 rfl ?_
      refine at_if_lt (tgt := 27) C dX8_passage_19 (by decide) (fun hc => ?_) (fun hc => ?_)
      · replace h := h.1 hc
        refine at_iconst (v := (-1)) C dX8_passage_27 (by decide) ?_
        exact ret _ _ _ _ dX8_passage_28 h
      · replace h := h.2 hc
        refine at_iload_n C dX8_passage_22 3 rfl ?_
        refine at_iconst (v := 2) C dX8_passage_23 (by decide) ?_
        refine at_icmp_le (tgt := 29) C dX8_passage_24 (by decide) (fun hc => ?_) (fun hc => ?_)
        · replace h := h.1 hc
          refine at_aload_n C dX8_passage_29 0 rfl ?_
          refine gC_X8_42 C dX8_passage_30 ?_
          refine at_iload_n C dX8_passage_33 1 rfl ?_
          refine at_callVNv C (kX0_pairYear l D ad T hI _ _ _ h) ok_X0_pairYear m_X8_149 mi_X0_pairYear ml_X0_pairYear (wC_g18 T ad _) rfl ⟨rfl, rfl, Nat.le_of_ble_eq_true rfl, Nat.le_of_ble_eq_true rfl⟩ rfl rfl (Nat.le_of_ble_eq_true rfl) dX8_passage_34 (fun s5 h => ?_)
          refine at_iconst (v := 0) C dX8_passage_37 (by decide) ?_
          refine at_istore (lv' := [(0, .ref (ad 0)), (1, .int v1), (2, .int v2), (3, .int v3), (4, .int 0)]) C dX8_passage_38 (by decide) [1, 2, 3, 4, 0] rfl ?_
          obtain ⟨n, h⟩ := h
          exact t40  n _ _ _ _ _ h
        · replace h := h.2 hc
          refine at_iconst (v := (-1)) C dX8_passage_27 (by decide) ?_
          exact ret _ _ _ _ dX8_passage_28 h
def pX8_change (v1 : Int32) (v2 : Int32) (σ : St) (Q : Int32 → St → Prop) : Prop := (pX8_isYear v1 σ (fun r2 s1 => ((r2 = 0 → (Q (-2) s1)) ∧ (¬ r2 = 0 → (pX8_isYear v2 s1 (fun r4 s3 => ((¬ r4 = 0 → (pX0_pairYear v1 s3 (fun s5 => (pX0_pairYear v2 s5 (fun s7 => (pX0_birdsIn v2 s7 (fun r10 s9 => (pX8_totalOf v1 s9 (fun r12 s11 => (((1000 * r10) ≤ r12 → (pX8_totalOf v2 s11 (fun r14 s13 => (pX0_birdsIn v1 s13 (fun r16 s15 => (((1000 * r16) ≤ r14 → (Q 0 s15)) ∧ (¬ (1000 * r16) ≤ r14 → (Q (-1) s15)))))))) ∧ (¬ (1000 * r10) ≤ r12 → (Q 1 s11)))))))))))) ∧ (r4 = 0 → (Q (-2) s3)))))))))
set_option maxRecDepth 100000 in
set_option maxHeartbeats 4000000 in
theorem kX8_change (l : Launch) (D : va_G) (ad : Nat → Nat) (T : TT) (hI : injA 40 ad) (v1 : Int32) (v2 : Int32) (σ : St) (Q : Int32 → St → Prop) (h : pX8_change v1 v2 σ Q) : Ki (KC l D ad T) (wC T ad) yX8_change cX8_change 3 (some .int) { frames := 20, cells := 0, slots := 0, locals := 480 } [.ref (ad 0), .int v1, .int v2] (wC T ad σ) Q := by
  refine st_MI (fr := 20) (lo := 480) (by decide) ⟨rfl, rfl⟩ rfl (Nat.le_of_ble_eq_true rfl) rfl (fun X C hD ret => ?_)
  replace hD : ∀ σ, DX X (wC T ad σ) := fun σ => hD _ (wC_D hI T σ)
  unfold pX8_change at h
  refine at_iload_n C dX8_change_0 1 rfl ?_
  refine at_callSi C (kX8_isYear l D ad T hI _ _ _ h) ok_X8_isYear m_X8_143 ms_X8_isYear ⟨rfl, rfl, Nat.le_of_ble_eq_true rfl, Nat.le_of_ble_eq_true rfl⟩ rfl rfl (Nat.le_of_ble_eq_true rfl) dX8_change_1 (fun r2 s1 h => ?_)
  refine at_if_eq (tgt := 14) C dX8_change_4 (by decide) (fun hc => ?_) (fun hc => ?_)
  · replace h := h.1 hc
    refine at_bipush (v := (-2)) C dX8_change_14 (by decide) ?_
    exact ret _ _ _ _ dX8_change_16 h
  · replace h := h.2 hc
    refine at_iload_n C dX8_change_7 2 rfl ?_
    refine at_callSi C (kX8_isYear l D ad T hI _ _ _ h) ok_X8_isYear m_X8_143 ms_X8_isYear ⟨rfl, rfl, Nat.le_of_ble_eq_true rfl, Nat.le_of_ble_eq_true rfl⟩ rfl rfl (Nat.le_of_ble_eq_true rfl) dX8_change_8 (fun r4 s3 h => ?_)
    refine at_if_ne (tgt := 17) C dX8_change_11 (by decide) (fun hc => ?_) (fun hc => ?_)
    · replace h := h.1 hc
      refine at_aload_n C dX8_change_17 0 rfl ?_
      refine gC_X8_42 C dX8_change_18 ?_
      refine at_iload_n C dX8_change_21 1 rfl ?_
      refine at_callVNv C (kX0_pairYear l D ad T hI _ _ _ h) ok_X0_pairYear m_X8_149 mi_X0_pairYear ml_X0_pairYear (wC_g18 T ad _) rfl ⟨rfl, rfl, Nat.le_of_ble_eq_true rfl, Nat.le_of_ble_eq_true rfl⟩ rfl rfl (Nat.le_of_ble_eq_true rfl) dX8_change_22 (fun s5 h => ?_)
      refine at_aload_n C dX8_change_25 0 rfl ?_
      refine gC_X8_42 C dX8_change_26 ?_
      refine at_iload_n C dX8_change_29 2 rfl ?_
      refine at_callVNv C (kX0_pairYear l D ad T hI _ _ _ h) ok_X0_pairYear m_X8_149 mi_X0_pairYear ml_X0_pairYear (wC_g18 T ad _) rfl ⟨rfl, rfl, Nat.le_of_ble_eq_true rfl, Nat.le_of_ble_eq_true rfl⟩ rfl rfl (Nat.le_of_ble_eq_true rfl) dX8_change_30 (fun s7 h => ?_)
      refine at_sipush (v := 1000) C dX8_change_33 (by decide) ?_
      refine at_aload_n C dX8_change_36 0 rfl ?_
      refine gC_X8_42 C dX8_change_37 ?_
      refine at_iload_n C dX8_change_40 2 rfl ?_
      refine at_callVNi C (kX0_birdsIn l D ad T hI _ _ _ h) ok_X0_birdsIn m_X8_177 mi_X0_birdsIn ml_X0_birdsIn (wC_g18 T ad _) rfl ⟨rfl, rfl, Nat.le_of_ble_eq_true rfl, Nat.le_of_ble_eq_true rfl⟩ rfl rfl (Nat.le_of_ble_eq_true rfl) dX8_change_41 (fun r10 s9 h => ?_)
      refine at_imul C dX8_change_44 ?_
      refine at_aload_n C dX8_change_45 0 rfl ?_
      refine at_iload_n C dX8_change_46 1 rfl ?_
      refine at_callVi C (kX8_totalOf l D ad T hI _ _ _ h) ok_X8_totalOf m_X8_186 mi_X8_totalOf ml_X8_totalOf (wC_g0 T ad _) rfl ⟨rfl, rfl, Nat.le_of_ble_eq_true rfl, Nat.le_of_ble_eq_true rfl⟩ rfl rfl (Nat.le_of_ble_eq_true rfl) dX8_change_47 (fun r12 s11 h => ?_)
      refine at_icmp_le (tgt := 55) C dX8_change_50 (by decide) (fun hc => ?_) (fun hc => ?_)
      · replace h := h.1 hc
        refine at_aload_n C dX8_change_55 0 rfl ?_
        refine at_iload_n C dX8_change_56 2 rfl ?_
        refine at_callVi C (kX8_totalOf l D ad T hI _ _ _ h) ok_X8_totalOf m_X8_186 mi_X8_totalOf ml_X8_totalOf (wC_g0 T ad _) rfl ⟨rfl, rfl, Nat.le_of_ble_eq_true rfl, Nat.le_of_ble_eq_true rfl⟩ rfl rfl (Nat.le_of_ble_eq_true rfl) dX8_change_57 (fun r14 s13 h => ?_)
        refine at_sipush (v := 1000) C dX8_change_60 (by decide) ?_
        refine at_aload_n C dX8_change_63 0 rfl ?_
        refine gC_X8_42 C dX8_change_64 ?_
        refine at_iload_n C dX8_change_67 1 rfl ?_
        refine at_callVNi C (kX0_birdsIn l D ad T hI _ _ _ h) ok_X0_birdsIn m_X8_177 mi_X0_birdsIn ml_X0_birdsIn (wC_g18 T ad _) rfl ⟨rfl, rfl, Nat.le_of_ble_eq_true rfl, Nat.le_of_ble_eq_true rfl⟩ rfl rfl (Nat.le_of_ble_eq_true rfl) dX8_change_68 (fun r16 s15 h => ?_)
        refine at_imul C dX8_change_71 ?_
        refine at_icmp_ge (tgt := 79) C dX8_change_72 (by decide) (fun hc => ?_) (fun hc => ?_)
        · replace h := h.1 hc
          refine at_iconst (v := 0) C dX8_change_79 (by decide) ?_
          exact ret _ _ _ _ dX8_change_80 h
        · replace h := h.2 hc
          refine at_iconst (v := (-1)) C dX8_change_75 (by decide) ?_
          refine at_goto (tgt := 80) C dX8_change_76 (by decide) ?_
          exact ret _ _ _ _ dX8_change_80 h
      · replace h := h.2 hc
        refine at_iconst (v := 1) C dX8_change_53 (by decide) ?_
        exact ret _ _ _ _ dX8_change_54 h
    · replace h := h.2 hc
      refine at_bipush (v := (-2)) C dX8_change_14 (by decide) ?_
      exact ret _ _ _ _ dX8_change_16 h
