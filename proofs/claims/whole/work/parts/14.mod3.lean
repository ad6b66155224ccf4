theorem m_X9_87 : Cond.fieldLink RX9 87 RX9 "own" "[I" ∈ gW := gW_in 777 (by decide +kernel) (by decide +kernel)
theorem gM_X9_87 {X : XT} {l : Launch} {D : va_G} {ad : Nat → Nat} {T : TT} {cc : ByteArray} {nL fr lo : Nat} {u : SM} {pc : Nat} {lv : List (Nat × Value)} {st : List Value} (C : Cx X (KM l D ad T) cc RX9 nL fr lo) (d : decode cc pc = .ok (.getfield 87, 3)) (kk : At X nL (wM T ad u) (pc + 3) lv (.ref (ad 23) :: st)) : At X nL (wM T ad u) pc lv (.ref (ad 0) :: st) := at_get C ingX9 (ci := 9) rfl 0 (wM_g0 T ad u) 30 (by decide) m_X9_87 rfl rfl d kk
def pX9_isBird (v1 : Int32) (v2 : Int32) (u : SM) (Q : Int32 → SM → Prop) : Prop := (pX9_isKnown v1 u (fun r2 s1 => ((r2 = 0 → (Q 0 s1)) ∧ (¬ r2 = 0 → (vp_in v1 300 ∧ ((¬ (s1.1 5 (Int32.toNatClampNeg v1)) = v2 → (Q 0 s1)) ∧ ((s1.1 5 (Int32.toNatClampNeg v1)) = v2 → (vp_in v1 300 ∧ ((0 ≤ (s1.1 14 (Int32.toNatClampNeg v1)) → (Q 0 s1)) ∧ (¬ 0 ≤ (s1.1 14 (Int32.toNatClampNeg v1)) → (Q 1 s1)))))))))))
set_option maxRecDepth 100000 in
set_option maxHeartbeats 4000000 in
theorem kX9_isBird (l : Launch) (D : va_G) (ad : Nat → Nat) (T : TT) (hI : injA 27 ad) (v1 : Int32) (v2 : Int32) (u : SM) (Q : Int32 → SM → Prop) (h : pX9_isBird v1 v2 u Q) : Ki (KM l D ad T) (wM T ad) yX9_isBird cX9_isBird 3 (some .boolean) { frames := 1, cells := 0, slots := 0, locals := 21 } [.ref (ad 0), .int v1, .int v2] (wM T ad u) Q := by
  refine st_MZ (fr := 1) (lo := 21) (by decide) ⟨rfl, rfl⟩ rfl (Nat.le_of_ble_eq_true rfl) rfl (fun X C hD ret => ?_)
  replace hD : ∀ u, DX X (wM T ad u) := fun u => hD _ (wM_D hI T u)
  unfold pX9_isBird at h
  refine at_aload_n C dX9_isBird_0 0 rfl ?_
  refine at_iload_n C dX9_isBird_1 1 rfl ?_
  refine at_callVi C (kX9_isKnown l D ad T hI _ _ _ h) ok_X9_isKnown m_X9_137 mi_X9_isKnown ml_X9_isKnown (wM_g0 T ad _) rfl ⟨rfl, rfl, Nat.le_of_ble_eq_true rfl, Nat.le_of_ble_eq_true rfl⟩ rfl rfl (Nat.le_of_ble_eq_true rfl) dX9_isBird_2 (fun r2 s1 h => ?_)
  refine at_if_eq (tgt := 31) C dX9_isBird_5 (by decide) (fun hc => ?_) (fun hc => ?_)
  · replace h := h.1 hc
    refine at_iconst (v := 0) C dX9_isBird_31 (by decide) ?_
    exact ret _ _ _ _ dX9_isBird_32 rfl h
  · replace h := h.2 hc
    refine at_aload_n C dX9_isBird_8 0 rfl ?_
    refine gM_X9_32 C dX9_isBird_9 ?_
    refine at_iload_n C dX9_isBird_12 1 rfl ?_
    obtain ⟨hi, h⟩ := h
    refine rM_5 C hi dX9_isBird_13 ?_
    refine at_iload_n C dX9_isBird_14 2 rfl ?_
    refine at_icmp_ne (tgt := 31) C dX9_isBird_15 (by decide) (fun hc => ?_) (fun hc => ?_)
    · replace h := h.1 hc
      refine at_iconst (v := 0) C dX9_isBird_31 (by decide) ?_
      exact ret _ _ _ _ dX9_isBird_32 rfl h
    · replace h := h.2 hc
      refine at_aload_n C dX9_isBird_18 0 rfl ?_
      refine gM_X9_60 C dX9_isBird_19 ?_
      refine at_iload_n C dX9_isBird_22 1 rfl ?_
      obtain ⟨hi, h⟩ := h
      refine rM_14 C hi dX9_isBird_23 ?_
      refine at_if_ge (tgt := 31) C dX9_isBird_24 (by decide) (fun hc => ?_) (fun hc => ?_)
      · replace h := h.1 hc
        refine at_iconst (v := 0) C dX9_isBird_31 (by decide) ?_
        exact ret _ _ _ _ dX9_isBird_32 rfl h
      · replace h := h.2 hc
        refine at_iconst (v := 1) C dX9_isBird_27 (by decide) ?_
        refine at_goto (tgt := 32) C dX9_isBird_28 (by decide) ?_
        exact ret _ _ _ _ dX9_isBird_32 rfl h
theorem m_X9_161 : Cond.methodLink RX9 161 yX9_isBird ∈ gW := gW_in 945 (by decide +kernel) (by decide +kernel)
theorem mc_X9_isBird : Cond.code yX9_isBird cX9_isBird 3 (some .boolean) ∈ gW := gW_in 948 (by decide +kernel) (by decide +kernel)
theorem ok_X9_isBird : okM yX9_isBird cX9_isBird 3 (some .boolean) 2 := ⟨mc_X9_isBird, mz_RX9, by decide +kernel⟩
theorem mi_X9_isBird : Cond.instanceMethod yX9_isBird ∈ gW := gW_in 947 (by decide +kernel) (by decide +kernel)
theorem ml_X9_isBird : Cond.selects RX9 yX9_isBird yX9_isBird ∈ gW := gW_in 70 (by decide +kernel) (by decide +kernel)
def qX9_kindOfBird_46 (R14 : Int32 → Int32 → SM → Prop) (Q : Int32 → SM → Prop) (v3 : Int32) (k0 : Int32) (u : SM) : Prop := (vp_in v3 300 ∧ ∀ x7 : Int32, x7 = (u.1 13 (Int32.toNatClampNeg v3)) → R14 k0 x7 u)
def qX9_kindOfBird_14 (R14 : Int32 → Int32 → SM → Prop) (Q : Int32 → SM → Prop) (v2 : Int32) (v3 : Int32) (u : SM) : Prop := ((v3 < 0 → (Q v2 u)) ∧ (¬ v3 < 0 → (vp_in v3 300 ∧ (pX9_depth (u.1 9 (Int32.toNatClampNeg v3)) u (fun r4 s3 => (pX9_depth v2 s3 (fun r6 s5 => ((r4 ≤ r6 → (qX9_kindOfBird_46 R14 Q v3 v2 s5)) ∧ (¬ r4 ≤ r6 → (vp_in v3 300 ∧ (qX9_kindOfBird_46 R14 Q v3 (s5.1 9 (Int32.toNatClampNeg v3)) s5)))))))))))
def qX9_kindOfBird_l14  (Q : Int32 → SM → Prop) : Nat → Int32 → Int32 → SM → Prop
  | 0 => fun _ _ _ => False
  | n + 1 => qX9_kindOfBird_14 (qX9_kindOfBird_l14  Q n) Q
def pX9_kindOfBird (v1 : Int32) (u : SM) (Q : Int32 → SM → Prop) : Prop := (vp_in v1 300 ∧ ∀ x1 : Int32, x1 = (u.1 9 (Int32.toNatClampNeg v1)) → (vp_in v1 300 ∧ ∀ x2 : Int32, x2 = (u.1 13 (Int32.toNatClampNeg v1)) → (∃ n, qX9_kindOfBird_l14  Q n x1 x2 u)))
set_option maxRecDepth 100000 in
set_option maxHeartbeats 4000000 in
theorem kX9_kindOfBird (l : Launch) (D : va_G) (ad : Nat → Nat) (T : TT) (hI : injA 27 ad) (v1 : Int32) (u : SM) (Q : Int32 → SM → Prop) (h : pX9_kindOfBird v1 u Q) : Ki (KM l D ad T) (wM T ad) yX9_kindOfBird cX9_kindOfBird 4 (some .int) { frames := 1, cells := 0, slots := 0, locals := 23 } [.ref (ad 0), .int v1] (wM T ad u) Q := by
  refine st_MI (fr := 1) (lo := 23) (by decide) ⟨rfl, rfl⟩ rfl (Nat.le_of_ble_eq_true rfl) rfl (fun X C hD ret => ?_)
  replace hD : ∀ u, DX X (wM T ad u) := fun u => hD _ (wM_D hI T u)
  have t46 : ∀ (R14 : Int32 → Int32 → SM → Prop) (hR14 : ∀ (v2 : Int32) (v3 : Int32) (u : SM), R14 v2 v3 u → At X 4 (wM T ad u) 14 [(0, .ref (ad 0)), (2, .int v2), (3, .int v3)] []) (v3 : Int32) (k0 : Int32) (u : SM), qX9_kindOfBird_46 R14 Q v3 k0 u → At X 4 (wM T ad u) 46 [(0, .ref (ad 0)), (3, .int v3)] [.int k0] := by
    intro R14 hR14 v3 k0 u h
    unfold qX9_kindOfBird_46 at h
    refine at_istore_n (lv' := [(0, .ref (ad 0)), (2, .int k0), (3, .int v3)]) C dX9_kindOfBird_46 (by decide) [1, 0, 2] rfl ?_
    refine at_aload_n C dX9_kindOfBird_47 0 rfl ?_
    refine gM_X9_57 C dX9_kindOfBird_48 ?_
    refine at_iload_n C dX9_kindOfBird_51 2 rfl ?_
    obtain ⟨hi, h⟩ := h
    refine rM_13 C hi dX9_kindOfBird_52 ?_
    refine at_topi (fun x7 ex7 => ?_)
    replace h := h x7 ex7
    refine at_istore_n (lv' := [(0, .ref (ad 0)), (2, .int k0), (3, .int x7)]) C dX9_kindOfBird_53 (by decide) [1, 2, 0] rfl ?_
    refine at_goto (tgt := 14) C dX9_kindOfBird_54 (by decide) ?_
    exact hR14 _ _ _ h
  have tb14 : ∀ (R14 : Int32 → Int32 → SM → Prop) (hR14 : ∀ (v2 : Int32) (v3 : Int32) (u : SM), R14 v2 v3 u → At X 4 (wM T ad u) 14 [(0, .ref (ad 0)), (2, .int v2), (3, .int v3)] []) (v2 : Int32) (v3 : Int32) (u : SM), qX9_kindOfBird_14 R14 Q v2 v3 u → At X 4 (wM T ad u) 14 [(0, .ref (ad 0)), (2, .int v2), (3, .int v3)] [] := by
    intro R14 hR14 v2 v3 u h
    unfold qX9_kindOfBird_14 at h
    refine at_iload_n C dX9_kindOfBird_14 2 rfl ?_
    refine at_if_lt (tgt := 57) C dX9_kindOfBird_15 (by decide) (fun hc => ?_) (fun hc => ?_)
    · replace h := h.1 hc
      refine at_iload_n C dX9_kindOfBird_57 1 rfl ?_
      exact ret _ _ _ _ dX9_kindOfBird_58 h
    · replace h := h.2 hc
      refine at_aload_n C dX9_kindOfBird_18 0 rfl ?_
      refine at_aload_n C dX9_kindOfBird_19 0 rfl ?_
      refine gM_X9_44 C dX9_kindOfBird_20 ?_
      refine at_iload_n C dX9_kindOfBird_23 2 rfl ?_
      obtain ⟨hi, h⟩ := h
      refine rM_9 C hi dX9_kindOfBird_24 ?_
      refine at_callVi C (kX9_depth l D ad T hI _ _ _ h) ok_X9_depth m_X9_124 mi_X9_depth ml_X9_depth (wM_g0 T ad _) rfl ⟨rfl, rfl, Nat.le_of_ble_eq_true rfl, Nat.le_of_ble_eq_true rfl⟩ rfl rfl (Nat.le_of_ble_eq_true rfl) dX9_kindOfBird_25 (fun r4 s3 h => ?_)
      refine at_aload_n C dX9_kindOfBird_28 0 rfl ?_
      refine at_iload_n C dX9_kindOfBird_29 1 rfl ?_
      refine at_callVi C (kX9_depth l D ad T hI _ _ _ h) ok_X9_depth m_X9_124 mi_X9_depth ml_X9_depth (wM_g0 T ad _) rfl ⟨rfl, rfl, Nat.le_of_ble_eq_true rfl, Nat.le_of_ble_eq_true rfl⟩ rfl rfl (Nat.le_of_ble_eq_true rfl) dX9_kindOfBird_30 (fun r6 s5 h => ?_)
      refine at_icmp_le (tgt := 45) C dX9_kindOfBird_33 (by decide) (fun hc => ?_) (fun hc => ?_)
      · replace h := h.1 hc
        refine at_iload_n C dX9_kindOfBird_45 1 rfl ?_
        refine at_sub [0, 2] rfl ?_
        exact t46 R14 hR14 _ _ _ h
      · replace h := h.2 hc
        refine at_aload_n C dX9_kindOfBird_36 0 rfl ?_
        refine gM_X9_44 C dX9_kindOfBird_37 ?_
        refine at_iload_n C dX9_kindOfBird_40 2 rfl ?_
        obtain ⟨hi, h⟩ := h
        refine rM_9 C hi dX9_kindOfBird_41 ?_
        refine at_goto (tgt := 46) C dX9_kindOfBird_42 (by decide) ?_
        refine at_sub [0, 2] rfl ?_
        exact t46 R14 hR14 _ _ _ h
  have t14 : ∀ (n : Nat) (v2 : Int32) (v3 : Int32) (u : SM), qX9_kindOfBird_l14  Q n v2 v3 u → At X 4 (wM T ad u) 14 [(0, .ref (ad 0)), (2, .int v2), (3, .int v3)] [] := by
    intro  n
    induction n with
    | zero => intro v2 v3 u h; exact False.elim h
    | succ n ih => intro v2 v3 u h; exact tb14 (qX9_kindOfBird_l14  Q n) ih v2 v3 u h
  unfold pX9_kindOfBird at h
  refine at_aload_n C dX9_kindOfBird_0 0 rfl ?_
  refine gM_X9_44 C dX9_kindOfBird_1 ?_
  refine at_iload_n C dX9_kindOfBird_4 1 rfl ?_
  obtain ⟨hi, h⟩ := h
  refine rM_9 C hi dX9_kindOfBird_5 ?_
  refine at_topi (fun x1 ex1 => ?_)
  replace h := h x1 ex1
  refine at_istore_n (lv' := [(0, .ref (ad 0)), (1, .int v1), (2, .int x1)]) C dX9_kindOfBird_6 (by decide) [1, 2, 0] rfl ?_
  refine at_aload_n C dX9_kindOfBird_7 0 rfl ?_
  refine gM_X9_57 C dX9_kindOfBird_8 ?_
  refine at_iload_n C dX9_kindOfBird_11 1 rfl ?_
  obtain ⟨hi, h⟩ := h
  refine rM_13 C hi dX9_kindOfBird_12 ?_
  refine at_topi (fun x2 ex2 => ?_)
  replace h := h x2 ex2
  refine at_istore_n (lv' := [(0, .ref (ad 0)), (1, .int v1), (2, .int x1), (3, .int x2)]) C dX9_kindOfBird_13 (by decide) [1, 2, 3, 0] rfl ?_
  refine at_sub [0, 2, 3] rfl ?_
  obtain ⟨n, h⟩ := h
  exact t14  n _ _ _ h
theorem m_X9_164 : Cond.methodLink RX9 164 yX9_kindOfBird ∈ gW := gW_in 949 (by decide +kernel) (by decide +kernel)
theorem mc_X9_kindOfBird : Cond.code yX9_kindOfBird cX9_kindOfBird 4 (some .int) ∈ gW := gW_in 952 (by decide +kernel) (by decide +kernel)
theorem ok_X9_kindOfBird : okM yX9_kindOfBird cX9_kindOfBird 4 (some .int) 1 := ⟨mc_X9_kindOfBird, mz_RX9, by decide +kernel⟩
theorem mi_X9_kindOfBird : Cond.instanceMethod yX9_kindOfBird ∈ gW := gW_in 951 (by decide +kernel) (by decide +kernel)
theorem ml_X9_kindOfBird : Cond.selects RX9 yX9_kindOfBird yX9_kindOfBird ∈ gW := gW_in 71 (by decide +kernel) (by decide +kernel)
def qX9_just_40 (R5 : Int32 → Int32 → Int32 → Int32 → SM → Prop) (Q : Int32 → SM → Prop) (v1 : Int32) (v2 : Int32) (v4 : Int32) (k0 : Int32) (k1 : Int32) (u : SM) : Prop := ∀ x5 : Int32, x5 = (k1 + k0) → ∀ x6 : Int32, x6 = v4 + 1 → R5 v1 v2 x5 x6 u
def qX9_just_39 (R5 : Int32 → Int32 → Int32 → Int32 → SM → Prop) (Q : Int32 → SM → Prop) (v1 : Int32) (v2 : Int32) (v4 : Int32) (k0 : Int32) (u : SM) : Prop := (qX9_just_40 R5 Q v1 v2 v4 0 k0 u)
def qX9_just_5 (R5 : Int32 → Int32 → Int32 → Int32 → SM → Prop) (Q : Int32 → SM → Prop) (v1 : Int32) (v2 : Int32) (v3 : Int32) (v4 : Int32) (u : SM) : Prop := (((u.1 0 9) ≤ v4 → (Q v3 u)) ∧ (¬ (u.1 0 9) ≤ v4 → (pX9_isBird v4 v1 u (fun r2 s1 => ((r2 = 0 → (qX9_just_39 R5 Q v1 v2 v4 v3 s1)) ∧ (¬ r2 = 0 → (pX9_kindOfBird v4 s1 (fun r4 s3 => ((¬ r4 = v2 → (qX9_just_39 R5 Q v1 v2 v4 v3 s3)) ∧ (r4 = v2 → (qX9_just_40 R5 Q v1 v2 v4 1 v3 s3)))))))))))
def qX9_just_l5  (Q : Int32 → SM → Prop) : Nat → Int32 → Int32 → Int32 → Int32 → SM → Prop
  | 0 => fun _ _ _ _ _ => False
  | n + 1 => qX9_just_5 (qX9_just_l5  Q n) Q
def pX9_just (v1 : Int32) (v2 : Int32) (u : SM) (Q : Int32 → SM → Prop) : Prop := (∃ n, qX9_just_l5  Q n v1 v2 0 0 u)
set_option maxRecDepth 100000 in
set_option maxHeartbeats 4000000 in
theorem kX9_just (l : Launch) (D : va_G) (ad : Nat → Nat) (T : TT) (hI : injA 27 ad) (v1 : Int32) (v2 : Int32) (u : SM) (Q : Int32 → SM → Prop) (h : pX9_just v1 v2 u Q) : Ki (KM l D ad T) (wM T ad) yX9_just cX9_just 5 (some .int) { frames := 2, cells := 0, slots := 0, locals := 46 } [.ref (ad 0), .int v1, .int v2] (wM T ad u) Q := by
  refine st_MI (fr := 2) (lo := 46) (by decide) ⟨rfl, rfl⟩ rfl (Nat.le_of_ble_eq_true rfl) rfl (fun X C hD ret => ?_)
  replace hD : ∀ u, DX X (wM T ad u) := fun u => hD _ (wM_D hI T u)
  have t40 : ∀ (R5 : Int32 → Int32 → Int32 → Int32 → SM → Prop) (hR5 : ∀ (v1 : Int32) (v2 : Int32) (v3 : Int32) (v4 : Int32) (u : SM), R5 v1 v2 v3 v4 u → At X 5 (wM T ad u) 5 [(0, .ref (ad 0)), (1, .int v1), (2, .int v2), (3, .int v3), (4, .int v4)] []) (v1 : Int32) (v2 : Int32) (v4 : Int32) (k0 : Int32) (k1 : Int32) (u : SM), qX9_just_40 R5 Q v1 v2 v4 k0 k1 u → At X 5 (wM T ad u) 40 [(0, .ref (ad 0)), (1, .int v1), (2, .int v2), (4, .int v4)] [.int k0, .int k1] := by
    intro R5 hR5 v1 v2 v4 k0 k1 u h
    unfold qX9_just_40 at h
    refine at_iadd C dX9_just_40 ?_
    refine at_topi (fun x5 ex5 => ?_)
    replace h := h x5 ex5
    refine at_istore_n (lv' := [(0, .ref (ad 0)), (1, .int v1), (2, .int v2), (3, .int x5), (4, .int v4)]) C dX9_just_41 (by decide) [1, 2, 3, 0, 4] rfl ?_
    obtain ⟨x6, ex6⟩ : ∃ y : Int32, y = v4 + 1 := ⟨_, rfl⟩
    replace h := h x6 ex6
    refine at_iinc (v := x6) (lv' := [(0, .ref (ad 0)), (1, .int v1), (2, .int v2), (3, .int x5), (4, .int x6)]) C dX9_just_42 4 rfl (by rw [ex6]; rfl) (by decide) [1, 2, 3, 4, 0] rfl ?_
    refine at_goto (tgt := 5) C dX9_just_45 (by decide) ?_
    exact hR5 _ _ _ _ _ h
  have t39 : ∀ (R5 : Int32 → Int32 → Int32 → Int32 → SM → Prop) (hR5 : ∀ (v1 : Int32) (v2 : Int32) (v3 : Int32) (v4 : Int32) (u : SM), R5 v1 v2 v3 v4 u → At X 5 (wM T ad u) 5 [(0, .ref (ad 0)), (1, .int v1), (2, .int v2), (3, .int v3), (4, .int v4)] []) (v1 : Int32) (v2 : Int32) (v4 : Int32) (k0 : Int32) (u : SM), qX9_just_39 R5 Q v1 v2 v4 k0 u → At X 5 (wM T ad u) 39 [(0, .ref (ad 0)), (1, .int v1), (2, .int v2), (4, .int v4)] [.int k0] := by
    intro R5 hR5 v1 v2 v4 k0 u h
    unfold qX9_just_39 at h
    refine at_iconst (v := 0) C dX9_just_39 (by decide) ?_
    exact t40 R5 hR5 _ _ _ _ _ _ h
  have tb5 : ∀ (R5 : Int32 → Int32 → Int32 → Int32 → SM → Prop) (hR5 : ∀ (v1 : Int32) (v2 : Int32) (v3 : Int32) (v4 : Int32) (u : SM), R5 v1 v2 v3 v4 u → At X 5 (wM T ad u) 5 [(0, .ref (ad 0)), (1, .int v1), (2, .int v2), (3, .int v3), (4, .int v4)] []) (v1 : Int32) (v2 : Int32) (v3 : Int32) (v4 : Int32) (u : SM), qX9_just_5 R5 Q v1 v2 v3 v4 u → At X 5 (wM T ad u) 5 [(0, .ref (ad 0)), (1, .int v1), (2, .int v2), (3, .int v3), (4, .int v4)] [] := by
    intro R5 hR5 v1 v2 v3 v4 u h
    unfold qX9_just_5 at h
    refine at_iload C dX9_just_5 4 rfl ?_
    refine at_aload_n C dX9_just_7 0 rfl ?_
    refine gM_X9_103 C dX9_just_8 ?_
    refine at_icmp_ge (tgt := 48) C dX9_just_11 (by decide) (fun hc => ?_) (fun hc => ?_)
    · replace h := h.1 hc
      refine at_iload_n C dX9_just_48 3 rfl ?_
      exact ret _ _ _ _ dX9_just_49 h
    · replace h := h.2 hc
      refine at_iload_n C dX9_just_14 3 rfl ?_
      refine at_aload_n C dX9_just_15 0 rfl ?_
      refine at_iload C dX9_just_16 4 rfl ?_
      refine at_iload_n C dX9_just_18 1 rfl ?_
      refine at_callVi C (kX9_isBird l D ad T hI _ _ _ _ h) ok_X9_isBird m_X9_161 mi_X9_isBird ml_X9_isBird (wM_g0 T ad _) rfl ⟨rfl, rfl, Nat.le_of_ble_eq_true rfl, Nat.le_of_ble_eq_true rfl⟩ rfl rfl (Nat.le_of_ble_eq_true rfl) dX9_just_19 (fun r2 s1 h => ?_)
      refine at_if_eq (tgt := 39) C dX9_just_22 (by decide) (fun hc => ?_) (fun hc => ?_)
      · replace h := h.1 hc
        refine at_sub [0, 1, 2, 4] rfl ?_
        exact t39 R5 hR5 _ _ _ _ _ h
      · replace h := h.2 hc
        refine at_aload_n C dX9_just_25 0 rfl ?_
        refine at_iload C dX9_just_26 4 rfl ?_
        refine at_callVi C (kX9_kindOfBird l D ad T hI _ _ _ h) ok_X9_kindOfBird m_X9_164 mi_X9_kindOfBird ml_X9_kindOfBird (wM_g0 T ad _) rfl ⟨rfl, rfl, Nat.le_of_ble_eq_true rfl, Nat.le_of_ble_eq_true rfl⟩ rfl rfl (Nat.le_of_ble_eq_true rfl) dX9_just_28 (fun r4 s3 h => ?_)
        refine at_iload_n C dX9_just_31 2 rfl ?_
        refine at_icmp_ne (tgt := 39) C dX9_just_32 (by decide) (fun hc => ?_) (fun hc => ?_)
        · replace h := h.1 hc
          refine at_sub [0, 1, 2, 4] rfl ?_
          exact t39 R5 hR5 _ _ _ _ _ h
        · replace h := h.2 hc
          refine at_iconst (v := 1) C dX9_just_35 (by decide) ?_
          refine at_goto (tgt := 40) C dX9_just_36 (by decide) ?_
          refine at_sub [0, 1, 2, 4] rfl ?_
          exact t40 R5 hR5 _ _ _ _ _ _ h
  have t5 : ∀ (n : Nat) (v1 : Int32) (v2 : Int32) (v3 : Int32) (v4 : Int32) (u : SM), qX9_just_l5  Q n v1 v2 v3 v4 u → At X 5 (wM T ad u) 5 [(0, .ref (ad 0)), (1, .int v1), (2, .int v2), (3, .int v3), (4, .int v4)] [] := by
    intro  n
    induction n with
    | zero => intro v1 v2 v3 v4 u h; exact False.elim h
    | succ n ih => intro v1 v2 v3 v4 u h; exact tb5 (qX9_just_l5  Q n) ih v1 v2 v3 v4 u h
  unfold pX9_just at h
  refine at_iconst (v := 0) C dX9_just_0 (by decide) ?_
  refine at_istore_n (lv' := [(0, .ref (ad 0)), (1, .int v1), (2, .int v2), (3, .int 0)]) C dX9_just_1 (by decide) [1, 2, 3, 0] rfl ?_
  refine at_iconst (v := 0) C dX9_just_2 (by decide) ?_
  refine at_istore (lv' := [(0, .ref (ad 0)), (1, .int v1), (2, .int v2), (3, .int 0), (4, .int 0)]) C dX9_just_3 (by decide) [1, 2, 3, 4, 0] rfl ?_
  obtain ⟨n, h⟩ := h
  exact t5  n _ _ _ _ _ h
theorem m_X9_167 : Cond.methodLink RX9 167 yX9_just ∈ gW := gW_in 941 (by decide +kernel) (by decide +kernel)
theorem mc_X9_just : Cond.code yX9_just cX9_just 5 (some .int) ∈ gW := gW_in 944 (by decide +kernel) (by decide +kernel)
theorem ok_X9_just : okM yX9_just cX9_just 5 (some .int) 2 := ⟨mc_X9_just, mz_RX9, by decide +kernel⟩
theorem mi_X9_just : Cond.instanceMethod yX9_just ∈ gW := gW_in 943 (by decide +kernel) (by decide +kernel)
theorem ml_X9_just : Cond.selects RX9 yX9_just yX9_just ∈ gW := gW_in 69 (by decide +kernel) (by decide +kernel)
theorem m_X9_84 : Cond.fieldLink RX9 84 RX9 "number" "[I" ∈ gW := gW_in 776 (by decide +kernel) (by decide +kernel)
theorem gM_X9_84 {X : XT} {l : Launch} {D : va_G} {ad : Nat → Nat} {T : TT} {cc : ByteArray} {nL fr lo : Nat} {u : SM} {pc : Nat} {lv : List (Nat × Value)} {st : List Value} (C : Cx X (KM l D ad T) cc RX9 nL fr lo) (d : decode cc pc = .ok (.getfield 84, 3)) (kk : At X nL (wM T ad u) (pc + 3) lv (.ref (ad 22) :: st)) : At X nL (wM T ad u) pc lv (.ref (ad 0) :: st) := at_get C ingX9 (ci := 9) rfl 0 (wM_g0 T ad u) 29 (by decide) m_X9_84 rfl rfl d kk
def pX9_isLeafOf (v1 : Int32) (v2 : Int32) (u : SM) (Q : Int32 → SM → Prop) : Prop := (pX9_isLeaf v1 u (fun r2 s1 => ((r2 = 0 → (Q 0 s1)) ∧ (¬ r2 = 0 → (pX9_isUnder v1 v2 s1 (fun r4 s3 => ((r4 = 0 → (Q 0 s3)) ∧ (¬ r4 = 0 → (Q 1 s3)))))))))
set_option maxRecDepth 100000 in
set_option maxHeartbeats 4000000 in
theorem kX9_isLeafOf (l : Launch) (D : va_G) (ad : Nat → Nat) (T : TT) (hI : injA 27 ad) (v1 : Int32) (v2 : Int32) (u : SM) (Q : Int32 → SM → Prop) (h : pX9_isLeafOf v1 v2 u Q) : Ki (KM l D ad T) (wM T ad) yX9_isLeafOf cX9_isLeafOf 3 (some .boolean) { frames := 1, cells := 0, slots := 0, locals := 23 } [.ref (ad 0), .int v1, .int v2] (wM T ad u) Q := by
  refine st_MZ (fr := 1) (lo := 23) (by decide) ⟨rfl, rfl⟩ rfl (Nat.le_of_ble_eq_true rfl) rfl (fun X C hD ret => ?_)
  replace hD : ∀ u, DX X (wM T ad u) := fun u => hD _ (wM_D hI T u)
  unfold pX9_isLeafOf at h
  refine at_aload_n C dX9_isLeafOf_0 0 rfl ?_
  refine at_iload_n C dX9_isLeafOf_1 1 rfl ?_
  refine at_callVi C (kX9_isLeaf l D ad T hI _ _ _ h) ok_X9_isLeaf m_X9_171 mi_X9_isLeaf ml_X9_isLeaf (wM_g0 T ad _) rfl ⟨rfl, rfl, Nat.le_of_ble_eq_true rfl, Nat.le_of_ble_eq_true rfl⟩ rfl rfl (Nat.le_of_ble_eq_true rfl) dX9_isLeafOf_2 (fun r2 s1 h => ?_)
  refine at_if_eq (tgt := 21) C dX9_isLeafOf_5 (by decide) (fun hc => ?_) (fun hc => ?_)
  · replace h := h.1 hc
    refine at_iconst (v := 0) C dX9_isLeafOf_21 (by decide) ?_
    exact ret _ _ _ _ dX9_isLeafOf_22 rfl h
  · replace h := h.2 hc
    refine at_aload_n C dX9_isLeafOf_8 0 rfl ?_
    refine at_iload_n C dX9_isLeafOf_9 1 rfl ?_
    refine at_iload_n C dX9_isLeafOf_10 2 rfl ?_
    refine at_callVi C (kX9_isUnder l D ad T hI _ _ _ _ h) ok_X9_isUnder m_X9_121 mi_X9_isUnder ml_X9_isUnder (wM_g0 T ad _) rfl ⟨rfl, rfl, Nat.le_of_ble_eq_true rfl, Nat.le_of_ble_eq_true rfl⟩ rfl rfl (Nat.le_of_ble_eq_true rfl) dX9_isLeafOf_11 (fun r4 s3 h => ?_)
    refine at_if_eq (tgt := 21) C dX9_isLeafOf_14 (by decide) (fun hc => ?_) (fun hc => ?_)
    · replace h := h.1 hc
      refine at_iconst (v := 0) C dX9_isLeafOf_21 (by decide) ?_
      exact ret _ _ _ _ dX9_isLeafOf_22 rfl h
    · replace h := h.2 hc
      refine at_iconst (v := 1) C dX9_isLeafOf_17 (by decide) ?_
      refine at_goto (tgt := 22) C dX9_isLeafOf_18 (by decide) ?_
      exact ret _ _ _ _ dX9_isLeafOf_22 rfl h
theorem m_X9_177 : Cond.methodLink RX9 177 yX9_isLeafOf ∈ gW := gW_in 965 (by decide +kernel) (by decide +kernel)
theorem mc_X9_isLeafOf : Cond.code yX9_isLeafOf cX9_isLeafOf 3 (some .boolean) ∈ gW := gW_in 968 (by decide +kernel) (by decide +kernel)
theorem ok_X9_isLeafOf : okM yX9_isLeafOf cX9_isLeafOf 3 (some .boolean) 2 := ⟨mc_X9_isLeafOf, mz_RX9, by decide +kernel⟩
theorem mi_X9_isLeafOf : Cond.instanceMethod yX9_isLeafOf ∈ gW := gW_in 967 (by decide +kernel) (by decide +kernel)
theorem ml_X9_isLeafOf : Cond.selects RX9 yX9_isLeafOf yX9_isLeafOf ∈ gW := gW_in 75 (by decide +kernel) (by decide +kernel)
theorem m_X9_90 : Cond.fieldLink RX9 90 RX9 "rest" "[I" ∈ gW := gW_in 778 (by decide +kernel) (by decide +kernel)
theorem gM_X9_90 {X : XT} {l : Launch} {D : va_G} {ad : Nat → Nat} {T : TT} {cc : ByteArray} {nL fr lo : Nat} {u : SM} {pc : Nat} {lv : List (Nat × Value)} {st : List Value} (C : Cx X (KM l D ad T) cc RX9 nL fr lo) (d : decode cc pc = .ok (.getfield 90, 3)) (kk : At X nL (wM T ad u) (pc + 3) lv (.ref (ad 24) :: st)) : At X nL (wM T ad u) pc lv (.ref (ad 0) :: st) := at_get C ingX9 (ci := 9) rfl 0 (wM_g0 T ad u) 31 (by decide) m_X9_90 rfl rfl d kk
def qX9_parts_56 (R7 : Int32 → Int32 → Int32 → Int32 → SM → Prop) (Q : SM → Prop) (v1 : Int32) (v2 : Int32) (v4 : Int32) (k0 : Int32) (k1 : Int32) (u : SM) : Prop := ∀ x10 : Int32, x10 = (k1 + k0) → ∀ x11 : Int32, x11 = v4 + 1 → R7 v1 v2 x10 x11 u
def qX9_parts_38 (R7 : Int32 → Int32 → Int32 → Int32 → SM → Prop) (Q : SM → Prop) (v1 : Int32) (v3 : Int32) (v4 : Int32) (k0 : Int32) (k1 : Int32) (u : SM) : Prop := ∀ x4 : Int32, x4 = (k1 + k0) → (pX9_isLeafOf v4 v1 u (fun r6 s5 => ((r6 = 0 → (qX9_parts_56 R7 Q v1 x4 v4 0 v3 s5)) ∧ (¬ r6 = 0 → (qX9_parts_56 R7 Q v1 x4 v4 1 v3 s5)))))
def qX9_parts_174 (R86 : Int32 → Int32 → Int32 → Int32 → Int32 → SM → Prop) (Q : SM → Prop) (v1 : Int32) (v2 : Int32) (v4 : Int32) (v5 : Int32) (v6 : Int32) (u : SM) : Prop := ∀ x12 : Int32, x12 = v6 + 1 → R86 v1 v2 v4 v5 x12 u
def qX9_parts_134 (R86 : Int32 → Int32 → Int32 → Int32 → Int32 → SM → Prop) (Q : SM → Prop) (v1 : Int32) (v2 : Int32) (v4 : Int32) (v5 : Int32) (v6 : Int32) (k0 : Int32) (k1 : Int32) (u : SM) : Prop := ∀ x13 : Int32, x13 = (k1 * k0) → (vp_in v6 20 ∧ (¬ v5 = 0 ∧ (vp_in v6 20 ∧ ∀ s14 : SM, s14 = (st_up u.1 22 (Int32.toNatClampNeg v6) ((u.1 22 (Int32.toNatClampNeg v6)) + (x13 / v5)), u.2) → (¬ v5 = 0 ∧ (vp_in v6 20 ∧ ∀ s15 : SM, s15 = (st_up s14.1 24 (Int32.toNatClampNeg v6) (x13 - x13 / v5 * v5), s14.2) → (¬ v5 = 0 ∧ ∀ x16 : Int32, x16 = (v4 - (x13 / v5)) → (qX9_parts_174 R86 Q v1 v2 x16 v5 v6 s15)))))))
def qX9_parts_239 (R180 : Int32 → SM → Prop) (R191 : Int32 → Int32 → Int32 → SM → Prop) (Q : SM → Prop) (v4 : Int32) (v7 : Int32) (k0 : Int32) (u : SM) : Prop := ∀ x20 : Int32, x20 = v7 + 1 → R191 v4 k0 x20 u
def qX9_parts_232 (R180 : Int32 → SM → Prop) (R191 : Int32 → Int32 → Int32 → SM → Prop) (Q : SM → Prop) (v4 : Int32) (v7 : Int32) (u : SM) : Prop := (qX9_parts_239 R180 R191 Q v4 v7 v7 u)
def qX9_parts_237 (R180 : Int32 → SM → Prop) (R191 : Int32 → Int32 → Int32 → SM → Prop) (Q : SM → Prop) (v4 : Int32) (v6 : Int32) (v7 : Int32) (u : SM) : Prop := (qX9_parts_239 R180 R191 Q v4 v7 v6 u)
def qX9_parts_191 (R180 : Int32 → SM → Prop) (R191 : Int32 → Int32 → Int32 → SM → Prop) (Q : SM → Prop) (v4 : Int32) (v6 : Int32) (v7 : Int32) (u : SM) : Prop := (((u.1 0 3) ≤ v7 → (vp_in v6 20 ∧ (vp_in v6 20 ∧ ∀ s17 : SM, s17 = (st_up u.1 22 (Int32.toNatClampNeg v6) ((u.1 22 (Int32.toNatClampNeg v6)) + 1), u.2) → (vp_in v6 20 ∧ ∀ s18 : SM, s18 = (st_up s17.1 24 (Int32.toNatClampNeg v6) (-1), s17.2) → ∀ x19 : Int32, x19 = v4 + (-1) → R180 x19 s18)))) ∧ (¬ (u.1 0 3) ≤ v7 → (vp_in v7 20 ∧ (((u.1 24 (Int32.toNatClampNeg v7)) < 0 → (qX9_parts_237 R180 R191 Q v4 v6 v7 u)) ∧ (¬ (u.1 24 (Int32.toNatClampNeg v7)) < 0 → ((v6 < 0 → (qX9_parts_232 R180 R191 Q v4 v7 u)) ∧ (¬ v6 < 0 → (vp_in v7 20 ∧ (vp_in v6 20 ∧ (((u.1 24 (Int32.toNatClampNeg v7)) ≤ (u.1 24 (Int32.toNatClampNeg v6)) → (qX9_parts_237 R180 R191 Q v4 v6 v7 u)) ∧ (¬ (u.1 24 (Int32.toNatClampNeg v7)) ≤ (u.1 24 (Int32.toNatClampNeg v6)) → (qX9_parts_232 R180 R191 Q v4 v7 u))))))))))))
def qX9_parts_l191 (R180 : Int32 → SM → Prop) (Q : SM → Prop) : Nat → Int32 → Int32 → Int32 → SM → Prop
  | 0 => fun _ _ _ _ => False
  | n + 1 => qX9_parts_191 R180 (qX9_parts_l191 R180 Q n) Q
def qX9_parts_180 (R180 : Int32 → SM → Prop) (Q : SM → Prop) (v4 : Int32) (u : SM) : Prop := ((v4 ≤ 0 → (Q u)) ∧ (¬ v4 ≤ 0 → (∃ n, qX9_parts_l191 R180 Q n v4 (-1) 0 u)))
def qX9_parts_l180  (Q : SM → Prop) : Nat → Int32 → SM → Prop
  | 0 => fun _ _ => False
  | n + 1 => qX9_parts_180 (qX9_parts_l180  Q n) Q
def qX9_parts_86 (R86 : Int32 → Int32 → Int32 → Int32 → Int32 → SM → Prop) (Q : SM → Prop) (v1 : Int32) (v2 : Int32) (v4 : Int32) (v5 : Int32) (v6 : Int32) (u : SM) : Prop := (((u.1 0 3) ≤ v6 → (∃ n, qX9_parts_l180  Q n v4 u)) ∧ (¬ (u.1 0 3) ≤ v6 → (vp_in v6 20 ∧ ∀ s7 : SM, s7 = (st_up u.1 24 (Int32.toNatClampNeg v6) (-1), u.2) → (pX9_isLeafOf v6 v1 s7 (fun r9 s8 => ((r9 = 0 → (qX9_parts_174 R86 Q v1 v2 v4 v5 v6 s8)) ∧ (¬ r9 = 0 → (vp_in v1 20 ∧ ((¬ v2 = 0 → (vp_in v6 20 ∧ (qX9_parts_134 R86 Q v1 v2 v4 v5 v6 (s8.1 23 (Int32.toNatClampNeg v6)) (s8.1 23 (Int32.toNatClampNeg v1)) s8))) ∧ (v2 = 0 → (qX9_parts_134 R86 Q v1 v2 v4 v5 v6 1 (s8.1 23 (Int32.toNatClampNeg v1)) s8)))))))))))
def qX9_parts_l86  (Q : SM → Prop) : Nat → Int32 → Int32 → Int32 → Int32 → Int32 → SM → Prop
  | 0 => fun _ _ _ _ _ _ => False
  | n + 1 => qX9_parts_86 (qX9_parts_l86  Q n) Q
def qX9_parts_81  (Q : SM → Prop) (v1 : Int32) (v2 : Int32) (v4 : Int32) (k0 : Int32) (u : SM) : Prop := (∃ n, qX9_parts_l86  Q n v1 v2 v4 k0 0 u)
def qX9_parts_7 (R7 : Int32 → Int32 → Int32 → Int32 → SM → Prop) (Q : SM → Prop) (v1 : Int32) (v2 : Int32) (v3 : Int32) (v4 : Int32) (u : SM) : Prop := (((u.1 0 3) ≤ v4 → (vp_in v1 20 ∧ ∀ x1 : Int32, x1 = (u.1 23 (Int32.toNatClampNeg v1)) → ((¬ v2 = 0 → (qX9_parts_81  Q v1 v2 x1 v2 u)) ∧ (v2 = 0 → (qX9_parts_81  Q v1 v2 x1 v3 u))))) ∧ (¬ (u.1 0 3) ≤ v4 → (pX9_isLeafOf v4 v1 u (fun r3 s2 => ((r3 = 0 → (qX9_parts_38 R7 Q v1 v3 v4 0 v2 s2)) ∧ (¬ r3 = 0 → (vp_in v4 20 ∧ (qX9_parts_38 R7 Q v1 v3 v4 (s2.1 23 (Int32.toNatClampNeg v4)) v2 s2))))))))
def qX9_parts_l7  (Q : SM → Prop) : Nat → Int32 → Int32 → Int32 → Int32 → SM → Prop
  | 0 => fun _ _ _ _ _ => False
  | n + 1 => qX9_parts_7 (qX9_parts_l7  Q n) Q
def pX9_parts (v1 : Int32) (u : SM) (Q : SM → Prop) : Prop := (∃ n, qX9_parts_l7  Q n v1 0 0 0 u)
set_option maxRecDepth 100000 in
set_option maxHeartbeats 4000000 in
theorem kX9_parts (l : Launch) (D : va_G) (ad : Nat → Nat) (T : TT) (hI : injA 27 ad) (v1 : Int32) (u : SM) (Q : SM → Prop) (h : pX9_parts v1 u Q) : Kv (KM l D ad T) (wM T ad) yX9_parts cX9_parts 8 none { frames := 2, cells := 0, slots := 0, locals := 45 } [.ref (ad 0), .int v1] (wM T ad u) Q := by
  refine st_MV (fr := 2) (lo := 45) (by decide) ⟨rfl, rfl⟩ rfl (Nat.le_of_ble_eq_true rfl) rfl (fun X C hD ret => ?_)
  replace hD : ∀ u, DX X (wM T ad u) := fun u => hD _ (wM_D hI T u)
  have t56 : ∀ (R7 : Int32 → Int32 → Int32 → Int32 → SM → Prop) (hR7 : ∀ (v1 : Int32) (v2 : Int32) (v3 : Int32) (v4 : Int32) (u : SM), R7 v1 v2 v3 v4 u → At X 8 (wM T ad u) 7 [(0, .ref (ad 0)), (1, .int v1), (2, .int v2), (3, .int v3), (4, .int v4)] []) (v1 : Int32) (v2 : Int32) (v4 : Int32) (k0 : Int32) (k1 : Int32) (u : SM), qX9_parts_56 R7 Q v1 v2 v4 k0 k1 u → At X 8 (wM T ad u) 56 [(0, .ref (ad 0)), (1, .int v1), (2, .int v2), (4, .int v4)] [.int k0, .int k1] := by
    intro R7 hR7 v1 v2 v4 k0 k1 u h
    unfold qX9_parts_56 at h
    refine at_iadd C dX9_parts_56 ?_
    refine at_topi (fun x10 ex10 => ?_)
    replace h := h x10 ex10
    refine at_istore_n (lv' := [(0, .ref (ad 0)), (1, .int v1), (2, .int v2), (3, .int x10), (4, .int v4)]) C dX9_parts_57 (by decide) [1, 2, 3, 0, 4] rfl ?_
    obtain ⟨x11, ex11⟩ : ∃ y : Int32, y = v4 + 1 := ⟨_, rfl⟩
    replace h := h x11 ex11
    refine at_iinc (v := x11) (lv' := [(0, .ref (ad 0)), (1, .int v1), (2, .int v2), (3, .int x10), (4, .int x11)]) C dX9_parts_58 4 rfl (by rw [ex11]; rfl) (by decide) [1, 2, 3, 4, 0] rfl ?_
    refine at_goto (tgt := 7) C dX9_parts_61 (by decide) ?_
    exact hR7 _ _ _ _ _ h
  have t38 : ∀ (R7 : Int32 → Int32 → Int32 → Int32 → SM → Prop) (hR7 : ∀ (v1 : Int32) (v2 : Int32) (v3 : Int32) (v4 : Int32) (u : SM), R7 v1 v2 v3 v4 u → At X 8 (wM T ad u) 7 [(0, .ref (ad 0)), (1, .int v1), (2, .int v2), (3, .int v3), (4, .int v4)] []) (v1 : Int32) (v3 : Int32) (v4 : Int32) (k0 : Int32) (k1 : Int32) (u : SM), qX9_parts_38 R7 Q v1 v3 v4 k0 k1 u → At X 8 (wM T ad u) 38 [(0, .ref (ad 0)), (1, .int v1), (3, .int v3), (4, .int v4)] [.int k0, .int k1] := by
    intro R7 hR7 v1 v3 v4 k0 k1 u h
    unfold qX9_parts_38 at h
    refine at_iadd C dX9_parts_38 ?_
    refine at_topi (fun x4 ex4 => ?_)
    replace h := h x4 ex4
    refine at_istore_n (lv' := [(0, .ref (ad 0)), (1, .int v1), (2, .int x4), (3, .int v3), (4, .int v4)]) C dX9_parts_39 (by decide) [1, 2, 0, 3, 4] rfl ?_
    refine at_iload_n C dX9_parts_40 3 rfl ?_
    refine at_aload_n C dX9_parts_41 0 rfl ?_
    refine at_iload C dX9_parts_42 4 rfl ?_
    refine at_iload_n C dX9_parts_44 1 rfl ?_
    refine at_callVi C (kX9_isLeafOf l D ad T hI _ _ _ _ h) ok_X9_isLeafOf m_X9_177 mi_X9_isLeafOf ml_X9_isLeafOf (wM_g0 T ad _) rfl ⟨rfl, rfl, Nat.le_of_ble_eq_true rfl, Nat.le_of_ble_eq_true rfl⟩ rfl rfl (Nat.le_of_ble_eq_true rfl) dX9_parts_45 (fun r6 s5 h => ?_)
    refine at_if_eq (tgt := 55) C dX9_parts_48 (by decide) (fun hc => ?_) (fun hc => ?_)
    · replace h := h.1 hc
      refine at_iconst (v := 0) C dX9_parts_55 (by decide) ?_
      refine at_sub [0, 1, 2, 4] rfl ?_
      exact t56 R7 hR7 _ _ _ _ _ _ h
    · replace h := h.2 hc
      refine at_iconst (v := 1) C dX9_parts_51 (by decide) ?_
      refine at_goto (tgt := 56) C dX9_parts_52 (by decide) ?_
      refine at_sub [0, 1, 2, 4] rfl ?_
      exact t56 R7 hR7 _ _ _ _ _ _ h
  have t174 : ∀ (R86 : Int32 → Int32 → Int32 → Int32 → Int32 → SM → Prop) (hR86 : ∀ (v1 : Int32) (v2 : Int32) (v4 : Int32) (v5 : Int32) (v6 : Int32) (u : SM), R86 v1 v2 v4 v5 v6 u → At X 8 (wM T ad u) 86 [(0, .ref (ad 0)), (1, .int v1), (2, .int v2), (4, .int v4), (5, .int v5), (6, .int v6)] []) (v1 : Int32) (v2 : Int32) (v4 : Int32) (v5 : Int32) (v6 : Int32) (u : SM), qX9_parts_174 R86 Q v1 v2 v4 v5 v6 u → At X 8 (wM T ad u) 174 [(0, .ref (ad 0)), (1, .int v1), (2, .int v2), (4, .int v4), (5, .int v5), (6, .int v6)] [] := by
    intro R86 hR86 v1 v2 v4 v5 v6 u h
    unfold qX9_parts_174 at h
    obtain ⟨x12, ex12⟩ : ∃ y : Int32, y = v6 + 1 := ⟨_, rfl⟩
    replace h := h x12 ex12
    refine at_iinc (v := x12) (lv' := [(0, .ref (ad 0)), (1, .int v1), (2, .int v2), (4, .int v4), (5, .int v5), (6, .int x12)]) C dX9_parts_174 5 rfl (by rw [ex12]; rfl) (by decide) [1, 2, 3, 4, 5, 0] rfl ?_
    refine at_goto (tgt := 86) C dX9_parts_177 (by decide) ?_
    exact hR86 _ _ _ _ _ _ h
  have t134 : ∀ (R86 : Int32 → Int32 → Int32 → Int32 → Int32 → SM → Prop) (hR86 : ∀ (v1 : Int32) (v2 : Int32) (v4 : Int32) (v5 : Int32) (v6 : Int32) (u : SM), R86 v1 v2 v4 v5 v6 u → At X 8 (wM T ad u) 86 [(0, .ref (ad 0)), (1, .int v1), (2, .int v2), (4, .int v4), (5, .int v5), (6, .int v6)] []) (v1 : Int32) (v2 : Int32) (v4 : Int32) (v5 : Int32) (v6 : Int32) (k0 : Int32) (k1 : Int32) (u : SM), qX9_parts_134 R86 Q v1 v2 v4 v5 v6 k0 k1 u → At X 8 (wM T ad u) 134 [(0, .ref (ad 0)), (1, .int v1), (2, .int v2), (4, .int v4), (5, .int v5), (6, .int v6)] [.int k0, .int k1] := by
    intro R86 hR86 v1 v2 v4 v5 v6 k0 k1 u h
    unfold qX9_parts_134 at h
    refine at_imul C dX9_parts_134 ?_
    refine at_topi (fun x13 ex13 => ?_)
    replace h := h x13 ex13
    refine at_istore (lv' := [(0, .ref (ad 0)), (1, .int v1), (2, .int v2), (4, .int v4), (5, .int v5), (6, .int v6), (7, .int x13)]) C dX9_parts_135 (by decide) [1, 2, 3, 4, 5, 6, 0] rfl ?_
    refine at_aload_n C dX9_parts_137 0 rfl ?_
    refine gM_X9_84 C dX9_parts_138 ?_
    refine at_iload C dX9_parts_141 5 rfl ?_
    refine at_dup2 C dX9_parts_143 rfl rfl ?_
    obtain ⟨hi, h⟩ := h
    refine rM_22 C hi dX9_parts_144 ?_
    refine at_iload C dX9_parts_145 6 rfl ?_
    refine at_iload C dX9_parts_147 4 rfl ?_
    obtain ⟨hz, h⟩ := h
    refine at_idiv C dX9_parts_149 hz ?_
    refine at_iadd C dX9_parts_150 ?_
    obtain ⟨hi, h⟩ := h
    refine sM_22 C hD hi dX9_parts_151 (fun s14 es14 => ?_)
    replace h := h s14 es14
    refine at_aload_n C dX9_parts_152 0 rfl ?_
    refine gM_X9_90 C dX9_parts_153 ?_
    refine at_iload C dX9_parts_156 5 rfl ?_
    refine at_iload C dX9_parts_158 6 rfl ?_
    refine at_iload C dX9_parts_160 4 rfl ?_
    obtain ⟨hz, h⟩ := h
    refine at_irem C dX9_parts_162 hz ?_
    obtain ⟨hi, h⟩ := h
    refine sM_24 C hD hi dX9_parts_163 (fun s15 es15 => ?_)
    replace h := h s15 es15
    refine at_iload C dX9_parts_164 3 rfl ?_
    refine at_iload C dX9_parts_166 6 rfl ?_
    refine at_iload C dX9_parts_168 4 rfl ?_
    obtain ⟨hz, h⟩ := h
    refine at_idiv C dX9_parts_170 hz ?_
    refine at_isub C dX9_parts_171 ?_
    refine at_topi (fun x16 ex16 => ?_)
    replace h := h x16 ex16
    refine at_istore (lv' := [(0, .ref (ad 0)), (1, .int v1), (2, .int v2), (4, .int x16), (5, .int v5), (6, .int v6), (7, .int x13)]) C dX9_parts_172 (by decide) [1, 2, 3, 0, 4, 5, 6] rfl ?_
    refine at_sub [0, 1, 2, 3, 4, 5] rfl ?_
    exact t174 R86 hR86 _ _ _ _ _ _ h
  have t239 : ∀ (R180 : Int32 → SM → Prop) (hR180 : ∀ (v4 : Int32) (u : SM), R180 v4 u → At X 8 (wM T ad u) 180 [(0, .ref (ad 0)), (4, .int v4)] []) (R191 : Int32 → Int32 → Int32 → SM → Prop) (hR191 : ∀ (v4 : Int32) (v6 : Int32) (v7 : Int32) (u : SM), R191 v4 v6 v7 u → At X 8 (wM T ad u) 191 [(0, .ref (ad 0)), (4, .int v4), (6, .int v6), (7, .int v7)] []) (v4 : Int32) (v7 : Int32) (k0 : Int32) (u : SM), qX9_parts_239 R180 R191 Q v4 v7 k0 u → At X 8 (wM T ad u) 239 [(0, .ref (ad 0)), (4, .int v4), (7, .int v7)] [.int k0] := by
    intro R180 hR180 R191 hR191 v4 v7 k0 u h
    unfold qX9_parts_239 at h
    refine at_istore (lv' := [(0, .ref (ad 0)), (4, .int v4), (6, .int k0), (7, .int v7)]) C dX9_parts_239 (by decide) [1, 2, 0, 3] rfl ?_
    obtain ⟨x20, ex20⟩ : ∃ y : Int32, y = v7 + 1 := ⟨_, rfl⟩
    replace h := h x20 ex20
    refine at_iinc (v := x20) (lv' := [(0, .ref (ad 0)), (4, .int v4), (6, .int k0), (7, .int x20)]) C dX9_parts_241 3 rfl (by rw [ex20]; rfl) (by decide) [1, 2, 3, 0] rfl ?_
    refine at_goto (tgt := 191) C dX9_parts_244 (by decide) ?_
    exact hR191 _ _ _ _ h
  have t232 : ∀ (R180 : Int32 → SM → Prop) (hR180 : ∀ (v4 : Int32) (u : SM), R180 v4 u → At X 8 (wM T ad u) 180 [(0, .ref (ad 0)), (4, .int v4)] []) (R191 : Int32 → Int32 → Int32 → SM → Prop) (hR191 : ∀ (v4 : Int32) (v6 : Int32) (v7 : Int32) (u : SM), R191 v4 v6 v7 u → At X 8 (wM T ad u) 191 [(0, .ref (ad 0)), (4, .int v4), (6, .int v6), (7, .int v7)] []) (v4 : Int32) (v7 : Int32) (u : SM), qX9_parts_232 R180 R191 Q v4 v7 u → At X 8 (wM T ad u) 232 [(0, .ref (ad 0)), (4, .int v4), (7, .int v7)] [] := by
    intro R180 hR180 R191 hR191 v4 v7 u h
    unfold qX9_parts_232 at h
    refine at_iload C dX9_parts_232 2 rfl ?_
    refine at_goto (tgt := 239) C dX9_parts_234 (by decide) ?_
    exact t239 R180 hR180 R191 hR191 _ _ _ _ h
  have t237 : ∀ (R180 : Int32 → SM → Prop) (hR180 : ∀ (v4 : Int32) (u : SM), R180 v4 u → At X 8 (wM T ad u) 180 [(0, .ref (ad 0)), (4, .int v4)] []) (R191 : Int32 → Int32 → Int32 → SM → Prop) (hR191 : ∀ (v4 : Int32) (v6 : Int32) (v7 : Int32) (u : SM), R191 v4 v6 v7 u → At X 8 (wM T ad u) 191 [(0, .ref (ad 0)), (4, .int v4), (6, .int v6), (7, .int v7)] []) (v4 : Int32) (v6 : Int32) (v7 : Int32) (u : SM), qX9_parts_237 R180 R191 Q v4 v6 v7 u → At X 8 (wM T ad u) 237 [(0, .ref (ad 0)), (4, .int v4), (6, .int v6), (7, .int v7)] [] := by
    intro R180 hR180 R191 hR191 v4 v6 v7 u h
    unfold qX9_parts_237 at h
    refine at_iload C dX9_parts_237 2 rfl ?_
    refine at_sub [0, 1, 3] rfl ?_
    exact t239 R180 hR180 R191 hR191 _ _ _ _ h
  have tb191 : ∀ (R180 : Int32 → SM → Prop) (hR180 : ∀ (v4 : Int32) (u : SM), R180 v4 u → At X 8 (wM T ad u) 180 [(0, .ref (ad 0)), (4, .int v4)] []) (R191 : Int32 → Int32 → Int32 → SM → Prop) (hR191 : ∀ (v4 : Int32) (v6 : Int32) (v7 : Int32) (u : SM), R191 v4 v6 v7 u → At X 8 (wM T ad u) 191 [(0, .ref (ad 0)), (4, .int v4), (6, .int v6), (7, .int v7)] []) (v4 : Int32) (v6 : Int32) (v7 : Int32) (u : SM), qX9_parts_191 R180 R191 Q v4 v6 v7 u → At X 8 (wM T ad u) 191 [(0, .ref (ad 0)), (4, .int v4), (6, .int v6), (7, .int v7)] [] := by
    intro R180 hR180 R191 hR191 v4 v6 v7 u h
    unfold qX9_parts_191 at h
    refine at_iload C dX9_parts_191 3 rfl ?_
    refine at_aload_n C dX9_parts_193 0 rfl ?_
    refine gM_X9_17 C dX9_parts_194 ?_
    refine at_icmp_ge (tgt := 247) C dX9_parts_197 (by decide) (fun hc => ?_) (fun hc => ?_)
    · replace h := h.1 hc
      refine at_aload_n C dX9_parts_247 0 rfl ?_
      refine gM_X9_84 C dX9_parts_248 ?_
      refine at_iload C dX9_parts_251 2 rfl ?_
      refine at_dup2 C dX9_parts_253 rfl rfl ?_
      obtain ⟨hi, h⟩ := h
      refine rM_22 C hi dX9_parts_254 ?_
      refine at_iconst (v := 1) C dX9_parts_255 (by decide) ?_
      refine at_iadd C dX9_parts_256 ?_
      obtain ⟨hi, h⟩ := h
      refine sM_22 C hD hi dX9_parts_257 (fun s17 es17 => ?_)
      replace h := h s17 es17
      refine at_aload_n C dX9_parts_258 0 rfl ?_
      refine gM_X9_90 C dX9_parts_259 ?_
      refine at_iload C dX9_parts_262 2 rfl ?_
      refine at_iconst (v := (-1)) C dX9_parts_264 (by decide) ?_
      obtain ⟨hi, h⟩ := h
      refine sM_24 C hD hi dX9_parts_265 (fun s18 es18 => ?_)
      replace h := h s18 es18
      obtain ⟨x19, ex19⟩ : ∃ y : Int32, y = v4 + (-1) := ⟨_, rfl⟩
      replace h := h x19 ex19
      refine at_iinc (v := x19) (lv' := [(0, .ref (ad 0)), (4, .int x19), (6, .int v6), (7, .int v7)]) C dX9_parts_266 1 rfl (by rw [ex19]; rfl) (by decide) [1, 0, 2, 3] rfl ?_
      refine at_goto (tgt := 180) C dX9_parts_269 (by decide) ?_
      refine at_sub [0, 1] rfl ?_
      exact hR180 _ _ h
    · replace h := h.2 hc
      refine at_aload_n C dX9_parts_200 0 rfl ?_
      refine gM_X9_90 C dX9_parts_201 ?_
      refine at_iload C dX9_parts_204 3 rfl ?_
      obtain ⟨hi, h⟩ := h
      refine rM_24 C hi dX9_parts_206 ?_
      refine at_if_lt (tgt := 237) C dX9_parts_207 (by decide) (fun hc => ?_) (fun hc => ?_)
      · replace h := h.1 hc
        exact t237 R180 hR180 R191 hR191 _ _ _ _ h
      · replace h := h.2 hc
        refine at_iload C dX9_parts_210 2 rfl ?_
        refine at_if_lt (tgt := 232) C dX9_parts_212 (by decide) (fun hc => ?_) (fun hc => ?_)
        · replace h := h.1 hc
          refine at_sub [0, 1, 3] rfl ?_
          exact t232 R180 hR180 R191 hR191 _ _ _ h
        · replace h := h.2 hc
          refine at_aload_n C dX9_parts_215 0 rfl ?_
          refine gM_X9_90 C dX9_parts_216 ?_
          refine at_iload C dX9_parts_219 3 rfl ?_
          obtain ⟨hi, h⟩ := h
          refine rM_24 C hi dX9_parts_221 ?_
          refine at_aload_n C dX9_parts_222 0 rfl ?_
          refine gM_X9_90 C dX9_parts_223 ?_
          refine at_iload C dX9_parts_226 2 rfl ?_
          obtain ⟨hi, h⟩ := h
          refine rM_24 C hi dX9_parts_228 ?_
          refine at_icmp_le (tgt := 237) C dX9_parts_229 (by decide) (fun hc => ?_) (fun hc => ?_)
          · replace h := h.1 hc
            exact t237 R180 hR180 R191 hR191 _ _ _ _ h
          · replace h := h.2 hc
            refine at_sub [0, 1, 3] rfl ?_
            exact t232 R180 hR180 R191 hR191 _ _ _ h
  have t191 : ∀ (R180 : Int32 → SM → Prop) (hR180 : ∀ (v4 : Int32) (u : SM), R180 v4 u → At X 8 (wM T ad u) 180 [(0, .ref (ad 0)), (4, .int v4)] []) (n : Nat) (v4 : Int32) (v6 : Int32) (v7 : Int32) (u : SM), qX9_parts_l191 R180 Q n v4 v6 v7 u → At X 8 (wM T ad u) 191 [(0, .ref (ad 0)), (4, .int v4), (6, .int v6), (7, .int v7)] [] := by
    intro R180 hR180 n
    induction n with
    | zero => intro v4 v6 v7 u h; exact False.elim h
    | succ n ih => intro v4 v6 v7 u h; exact tb191 R180 hR180 (qX9_parts_l191 R180 Q n) ih v4 v6 v7 u h
  have tb180 : ∀ (R180 : Int32 → SM → Prop) (hR180 : ∀ (v4 : Int32) (u : SM), R180 v4 u → At X 8 (wM T ad u) 180 [(0, .ref (ad 0)), (4, .int v4)] []) (v4 : Int32) (u : SM), qX9_parts_180 R180 Q v4 u → At X 8 (wM T ad u) 180 [(0, .ref (ad 0)), (4, .int v4)] [] := by
    intro R180 hR180 v4 u h
    unfold qX9_parts_180 at h
    refine at_iload C dX9_parts_180 1 rfl ?_
    refine at_if_le (tgt := 272) C dX9_parts_182 (by decide) (fun hc => ?_) (fun hc => ?_)
    · replace h := h.1 hc
      exact ret _ _ _ dX9_parts_272 h
    · replace h := h.2 hc
      refine at_iconst (v := (-1)) C dX9_parts_185 (by decide) ?_
      refine at_istore (lv' := [(0, .ref (ad 0)), (4, .int v4), (6, .int (-1))]) C dX9_parts_186 (by decide) [1, 2, 0] rfl ?_
      refine at_iconst (v := 0) C dX9_parts_188 (by decide) ?_
      refine at_istore (lv' := [(0, .ref (ad 0)), (4, .int v4), (6, .int (-1)), (7, .int 0)]) C dX9_parts_189 (by decide) [1, 2, 3, 0] rfl ?_
      obtain ⟨n, h⟩ := h
      exact t191 R180 hR180 n _ _ _ _ h
  have t180 : ∀ (n : Nat) (v4 : Int32) (u : SM), qX9_parts_l180  Q n v4 u → At X 8 (wM T ad u) 180 [(0, .ref (ad 0)), (4, .int v4)] [] := by
    intro  n
    induction n with
    | zero => intro v4 u h; exact False.elim h
    | succ n ih => intro v4 u h; exact tb180 (qX9_parts_l180  Q n) ih v4 u h
  have tb86 : ∀ (R86 : Int32 → Int32 → Int32 → Int32 → Int32 → SM → Prop) (hR86 : ∀ (v1 : Int32) (v2 : Int32) (v4 : Int32) (v5 : Int32) (v6 : Int32) (u : SM), R86 v1 v2 v4 v5 v6 u → At X 8 (wM T ad u) 86 [(0, .ref (ad 0)), (1, .int v1), (2, .int v2), (4, .int v4), (5, .int v5), (6, .int v6)] []) (v1 : Int32) (v2 : Int32) (v4 : Int32) (v5 : Int32) (v6 : Int32) (u : SM), qX9_parts_86 R86 Q v1 v2 v4 v5 v6 u → At X 8 (wM T ad u) 86 [(0, .ref (ad 0)), (1, .int v1), (2, .int v2), (4, .int v4), (5, .int v5), (6, .int v6)] [] := by
    intro R86 hR86 v1 v2 v4 v5 v6 u h
    unfold qX9_parts_86 at h
    refine at_iload C dX9_parts_86 5 rfl ?_
    refine at_aload_n C dX9_parts_88 0 rfl ?_
    refine gM_X9_17 C dX9_parts_89 ?_
    refine at_icmp_ge (tgt := 180) C dX9_parts_92 (by decide) (fun hc => ?_) (fun hc => ?_)
    · replace h := h.1 hc
      refine at_sub [0, 3] rfl ?_
      obtain ⟨n, h⟩ := h
      exact t180  n _ _ h
    · replace h := h.2 hc
      refine at_aload_n C dX9_parts_95 0 rfl ?_
      refine gM_X9_90 C dX9_parts_96 ?_
      refine at_iload C dX9_parts_99 5 rfl ?_
      refine at_iconst (v := (-1)) C dX9_parts_101 (by decide) ?_
      obtain ⟨hi, h⟩ := h
      refine sM_24 C hD hi dX9_parts_102 (fun s7 es7 => ?_)
      replace h := h s7 es7
      refine at_aload_n C dX9_parts_103 0 rfl ?_
      refine at_iload C dX9_parts_104 5 rfl ?_
      refine at_iload_n C dX9_parts_106 1 rfl ?_
      refine at_callVi C (kX9_isLeafOf l D ad T hI _ _ _ _ h) ok_X9_isLeafOf m_X9_177 mi_X9_isLeafOf ml_X9_isLeafOf (wM_g0 T ad _) rfl ⟨rfl, rfl, Nat.le_of_ble_eq_true rfl, Nat.le_of_ble_eq_true rfl⟩ rfl rfl (Nat.le_of_ble_eq_true rfl) dX9_parts_107 (fun r9 s8 h => ?_)
      refine at_if_eq (tgt := 174) C dX9_parts_110 (by decide) (fun hc => ?_) (fun hc => ?_)
      · replace h := h.1 hc
        exact t174 R86 hR86 _ _ _ _ _ _ h
      · replace h := h.2 hc
        refine at_aload_n C dX9_parts_113 0 rfl ?_
        refine gM_X9_87 C dX9_parts_114 ?_
        refine at_iload_n C dX9_parts_117 1 rfl ?_
        obtain ⟨hi, h⟩ := h
        refine rM_23 C hi dX9_parts_118 ?_
        refine at_iload_n C dX9_parts_119 2 rfl ?_
        refine at_if_ne (tgt := 127) C dX9_parts_120 (by decide) (fun hc => ?_) (fun hc => ?_)
        · replace h := h.1 hc
          refine at_aload_n C dX9_parts_127 0 rfl ?_
          refine gM_X9_87 C dX9_parts_128 ?_
          refine at_iload C dX9_parts_131 5 rfl ?_
          obtain ⟨hi, h⟩ := h
          refine rM_23 C hi dX9_parts_133 ?_
          exact t134 R86 hR86 _ _ _ _ _ _ _ _ h
        · replace h := h.2 hc
          refine at_iconst (v := 1) C dX9_parts_123 (by decide) ?_
          refine at_goto (tgt := 134) C dX9_parts_124 (by decide) ?_
          exact t134 R86 hR86 _ _ _ _ _ _ _ _ h
  have t86 : ∀ (n : Nat) (v1 : Int32) (v2 : Int32) (v4 : Int32) (v5 : Int32) (v6 : Int32) (u : SM), qX9_parts_l86  Q n v1 v2 v4 v5 v6 u → At X 8 (wM T ad u) 86 [(0, .ref (ad 0)), (1, .int v1), (2, .int v2), (4, .int v4), (5, .int v5), (6, .int v6)] [] := by
    intro  n
    induction n with
    | zero => intro v1 v2 v4 v5 v6 u h; exact False.elim h
    | succ n ih => intro v1 v2 v4 v5 v6 u h; exact tb86 (qX9_parts_l86  Q n) ih v1 v2 v4 v5 v6 u h
  have t81 : ∀ (v1 : Int32) (v2 : Int32) (v4 : Int32) (k0 : Int32) (u : SM), qX9_parts_81  Q v1 v2 v4 k0 u → At X 8 (wM T ad u) 81 [(0, .ref (ad 0)), (1, .int v1), (2, .int v2), (4, .int v4)] [.int k0] := by
    intro v1 v2 v4 k0 u h
    unfold qX9_parts_81 at h
    refine at_istore (lv' := [(0, .ref (ad 0)), (1, .int v1), (2, .int v2), (4, .int v4), (5, .int k0)]) C dX9_parts_81 (by decide) [1, 2, 3, 4, 0] rfl ?_
    refine at_iconst (v := 0) C dX9_parts_83 (by decide) ?_
    refine at_istore (lv' := [(0, .ref (ad 0)), (1, .int v1), (2, .int v2), (4, .int v4), (5, .int k0), (6, .int 0)]) C dX9_parts_84 (by decide) [1, 2, 3, 4, 5, 0] rfl ?_
    obtain ⟨n, h⟩ := h
    exact t86  n _ _ _ _ _ _ h
  have tb7 : ∀ (R7 : Int32 → Int32 → Int32 → Int32 → SM → Prop) (hR7 : ∀ (v1 : Int32) (v2 : Int32) (v3 : Int32) (v4 : Int32) (u : SM), R7 v1 v2 v3 v4 u → At X 8 (wM T ad u) 7 [(0, .ref (ad 0)), (1, .int v1), (2, .int v2), (3, .int v3), (4, .int v4)] []) (v1 : Int32) (v2 : Int32) (v3 : Int32) (v4 : Int32) (u : SM), qX9_parts_7 R7 Q v1 v2 v3 v4 u → At X 8 (wM T ad u) 7 [(0, .ref (ad 0)), (1, .int v1), (2, .int v2), (3, .int v3), (4, .int v4)] [] := by
    intro R7 hR7 v1 v2 v3 v4 u h
    unfold qX9_parts_7 at h
    refine at_iload C dX9_parts_7 4 rfl ?_
    refine at_aload_n C dX9_parts_9 0 rfl ?_
    refine gM_X9_17 C dX9_parts_10 ?_
    refine at_icmp_ge (tgt := 64) C dX9_parts_13 (by decide) (fun hc => ?_) (fun hc => ?_)
    · replace h := h.1 hc
      refine at_aload_n C dX9_parts_64 0 rfl ?_
      refine gM_X9_87 C dX9_parts_65 ?_
      refine at_iload_n C dX9_parts_68 1 rfl ?_
      obtain ⟨hi, h⟩ := h
      refine rM_23 C hi dX9_parts_69 ?_
      refine at_topi (fun x1 ex1 => ?_)
      replace h := h x1 ex1
      refine at_istore (lv' := [(0, .ref (ad 0)), (1, .int v1), (2, .int v2), (3, .int v3), (4, .int x1)]) C dX9_parts_70 (by decide) [1, 2, 3, 4, 0] rfl ?_
      refine at_iload_n C dX9_parts_72 2 rfl ?_
      refine at_if_ne (tgt := 80) C dX9_parts_73 (by decide) (fun hc => ?_) (fun hc => ?_)
      · replace h := h.1 hc
        refine at_iload_n C dX9_parts_80 2 rfl ?_
        refine at_sub [0, 1, 2, 4] rfl ?_
        exact t81  _ _ _ _ _ h
      · replace h := h.2 hc
        refine at_iload_n C dX9_parts_76 3 rfl ?_
        refine at_goto (tgt := 81) C dX9_parts_77 (by decide) ?_
        refine at_sub [0, 1, 2, 4] rfl ?_
        exact t81  _ _ _ _ _ h
    · replace h := h.2 hc
      refine at_iload_n C dX9_parts_16 2 rfl ?_
      refine at_aload_n C dX9_parts_17 0 rfl ?_
      refine at_iload C dX9_parts_18 4 rfl ?_
      refine at_iload_n C dX9_parts_20 1 rfl ?_
      refine at_callVi C (kX9_isLeafOf l D ad T hI _ _ _ _ h) ok_X9_isLeafOf m_X9_177 mi_X9_isLeafOf ml_X9_isLeafOf (wM_g0 T ad _) rfl ⟨rfl, rfl, Nat.le_of_ble_eq_true rfl, Nat.le_of_ble_eq_true rfl⟩ rfl rfl (Nat.le_of_ble_eq_true rfl) dX9_parts_21 (fun r3 s2 h => ?_)
      refine at_if_eq (tgt := 37) C dX9_parts_24 (by decide) (fun hc => ?_) (fun hc => ?_)
      · replace h := h.1 hc
        refine at_iconst (v := 0) C dX9_parts_37 (by decide) ?_
        refine at_sub [0, 1, 3, 4] rfl ?_
        exact t38 R7 hR7 _ _ _ _ _ _ h
      · replace h := h.2 hc
        refine at_aload_n C dX9_parts_27 0 rfl ?_
        refine gM_X9_87 C dX9_parts_28 ?_
        refine at_iload C dX9_parts_31 4 rfl ?_
        obtain ⟨hi, h⟩ := h
        refine rM_23 C hi dX9_parts_33 ?_
        refine at_goto (tgt := 38) C dX9_parts_34 (by decide) ?_
        refine at_sub [0, 1, 3, 4] rfl ?_
        exact t38 R7 hR7 _ _ _ _ _ _ h
  have t7 : ∀ (n : Nat) (v1 : Int32) (v2 : Int32) (v3 : Int32) (v4 : Int32) (u : SM), qX9_parts_l7  Q n v1 v2 v3 v4 u → At X 8 (wM T ad u) 7 [(0, .ref (ad 0)), (1, .int v1), (2, .int v2), (3, .int v3), (4, .int v4)] [] := by
    intro  n
    induction n with
    | zero => intro v1 v2 v3 v4 u h; exact False.elim h
    | succ n ih => intro v1 v2 v3 v4 u h; exact tb7 (qX9_parts_l7  Q n) ih v1 v2 v3 v4 u h
  unfold pX9_parts at h
  refine at_iconst (v := 0) C dX9_parts_0 (by decide) ?_
  refine at_istore_n (lv' := [(0, .ref (ad 0)), (1, .int v1), (2, .int 0)]) C dX9_parts_1 (by decide) [1, 2, 0] rfl ?_
  refine at_iconst (v := 0) C dX9_parts_2 (by decide) ?_
  refine at_istore_n (lv' := [(0, .ref (ad 0)), (1, .int v1), (2, .int 0), (3, .int 0)]) C dX9_parts_3 (by decide) [1, 2, 3, 0] rfl ?_
  refine at_iconst (v := 0) C dX9_parts_4 (by decide) ?_
  refine at_istore (lv' := [(0, .ref (ad 0)), (1, .int v1), (2, .int 0), (3, .int 0), (4, .int 0)]) C dX9_parts_5 (by decide) [1, 2, 3, 4, 0] rfl ?_
  obtain ⟨n, h⟩ := h
  exact t7  n _ _ _ _ _ h
theorem m_X9_174 : Cond.methodLink RX9 174 yX9_parts ∈ gW := gW_in 961 (by decide +kernel) (by decide +kernel)
theorem mc_X9_parts : Cond.code yX9_parts cX9_parts 8 none ∈ gW := gW_in 964 (by decide +kernel) (by decide +kernel)
theorem ok_X9_parts : okM yX9_parts cX9_parts 8 none 1 := ⟨mc_X9_parts, mz_RX9, by decide +kernel⟩
theorem mi_X9_parts : Cond.instanceMethod yX9_parts ∈ gW := gW_in 963 (by decide +kernel) (by decide +kernel)
theorem ml_X9_parts : Cond.selects RX9 yX9_parts yX9_parts ∈ gW := gW_in 74 (by decide +kernel) (by decide +kernel)
def qX9_numbers_45 (R2 : Int32 → Int32 → SM → Prop) (Q : SM → Prop) (v1 : Int32) (v2 : Int32) (k0 : Int32) (k1 : Int32) (u : SM) : Prop := (vp_in k1 20 ∧ ∀ s10 : SM, s10 = (st_up u.1 22 (Int32.toNatClampNeg k1) k0, u.2) → ∀ x11 : Int32, x11 = v2 + 1 → R2 v1 x11 s10)
def qX9_numbers_84 (R54 : Int32 → SM → Prop) (Q : SM → Prop) (v2 : Int32) (u : SM) : Prop := ∀ x12 : Int32, x12 = v2 + 1 → R54 x12 u
def qX9_numbers_54 (R54 : Int32 → SM → Prop) (Q : SM → Prop) (v2 : Int32) (u : SM) : Prop := (((u.1 0 3) ≤ v2 → (Q u)) ∧ (¬ (u.1 0 3) ≤ v2 → (pX9_isLeaf v2 u (fun r7 s6 => ((¬ r7 = 0 → (qX9_numbers_84 R54 Q v2 s6)) ∧ (r7 = 0 → (vp_in v2 20 ∧ (((s6.1 23 (Int32.toNatClampNeg v2)) ≤ 0 → (qX9_numbers_84 R54 Q v2 s6)) ∧ (¬ (s6.1 23 (Int32.toNatClampNeg v2)) ≤ 0 → (pX9_parts v2 s6 (fun s8 => (qX9_numbers_84 R54 Q v2 s8))))))))))))
def qX9_numbers_l54  (Q : SM → Prop) : Nat → Int32 → SM → Prop
  | 0 => fun _ _ => False
  | n + 1 => qX9_numbers_54 (qX9_numbers_l54  Q n) Q
def qX9_numbers_2 (R2 : Int32 → Int32 → SM → Prop) (Q : SM → Prop) (v1 : Int32) (v2 : Int32) (u : SM) : Prop := (((u.1 0 3) ≤ v2 → (∃ n, qX9_numbers_l54  Q n 0 u)) ∧ (¬ (u.1 0 3) ≤ v2 → (pX9_just v1 v2 u (fun r2 s1 => (vp_in v2 20 ∧ ∀ s3 : SM, s3 = (st_up s1.1 23 (Int32.toNatClampNeg v2) r2, s1.2) → (pX9_isLeaf v2 s3 (fun r5 s4 => ((r5 = 0 → (qX9_numbers_45 R2 Q v1 v2 0 v2 s4)) ∧ (¬ r5 = 0 → (vp_in v2 20 ∧ (qX9_numbers_45 R2 Q v1 v2 (s4.1 23 (Int32.toNatClampNeg v2)) v2 s4)))))))))))
def qX9_numbers_l2  (Q : SM → Prop) : Nat → Int32 → Int32 → SM → Prop
  | 0 => fun _ _ _ => False
  | n + 1 => qX9_numbers_2 (qX9_numbers_l2  Q n) Q
def pX9_numbers (v1 : Int32) (u : SM) (Q : SM → Prop) : Prop := (∃ n, qX9_numbers_l2  Q n v1 0 u)
set_option maxRecDepth 100000 in
set_option maxHeartbeats 4000000 in
theorem kX9_numbers (l : Launch) (D : va_G) (ad : Nat → Nat) (T : TT) (hI : injA 27 ad) (v1 : Int32) (u : SM) (Q : SM → Prop) (h : pX9_numbers v1 u Q) : Kv (KM l D ad T) (wM T ad) yX9_numbers cX9_numbers 3 none { frames := 3, cells := 0, slots := 0, locals := 72 } [.ref (ad 0), .int v1] (wM T ad u) Q := by
  refine st_MV (fr := 3) (lo := 72) (by decide) ⟨rfl, rfl⟩ rfl (Nat.le_of_ble_eq_true rfl) rfl (fun X C hD ret => ?_)
  replace hD : ∀ u, DX X (wM T ad u) := fun u => hD _ (wM_D hI T u)
  have t45 : ∀ (R2 : Int32 → Int32 → SM → Prop) (hR2 : ∀ (v1 : Int32) (v2 : Int32) (u : SM), R2 v1 v2 u → At X 3 (wM T ad u) 2 [(0, .ref (ad 0)), (1, .int v1), (2, .int v2)] []) (v1 : Int32) (v2 : Int32) (k0 : Int32) (k1 : Int32) (u : SM), qX9_numbers_45 R2 Q v1 v2 k0 k1 u → At X 3 (wM T ad u) 45 [(0, .ref (ad 0)), (1, .int v1), (2, .int v2)] [.int k0, .int k1, .ref (ad 22)] := by
    intro R2 hR2 v1 v2 k0 k1 u h
    unfold qX9_numbers_45 at h
    obtain ⟨hi, h⟩ := h
    refine sM_22 C hD hi dX9_numbers_45 (fun s10 es10 => ?_)
    replace h := h s10 es10
    obtain ⟨x11, ex11⟩ : ∃ y : Int32, y = v2 + 1 := ⟨_, rfl⟩
    replace h := h x11 ex11
    refine at_iinc (v := x11) (lv' := [(0, .ref (ad 0)), (1, .int v1), (2, .int x11)]) C dX9_numbers_46 2 rfl (by rw [ex11]; rfl) (by decide) [1, 2, 0] rfl ?_
    refine at_goto (tgt := 2) C dX9_numbers_49 (by decide) ?_
    exact hR2 _ _ _ h
  have t84 : ∀ (R54 : Int32 → SM → Prop) (hR54 : ∀ (v2 : Int32) (u : SM), R54 v2 u → At X 3 (wM T ad u) 54 [(0, .ref (ad 0)), (2, .int v2)] []) (v2 : Int32) (u : SM), qX9_numbers_84 R54 Q v2 u → At X 3 (wM T ad u) 84 [(0, .ref (ad 0)), (2, .int v2)] [] := by
    intro R54 hR54 v2 u h
    unfold qX9_numbers_84 at h
    obtain ⟨x12, ex12⟩ : ∃ y : Int32, y = v2 + 1 := ⟨_, rfl⟩
    replace h := h x12 ex12
    refine at_iinc (v := x12) (lv' := [(0, .ref (ad 0)), (2, .int x12)]) C dX9_numbers_84 1 rfl (by rw [ex12]; rfl) (by decide) [1, 0] rfl ?_
    refine at_goto (tgt := 54) C dX9_numbers_87 (by decide) ?_
    exact hR54 _ _ h
  have tb54 : ∀ (R54 : Int32 → SM → Prop) (hR54 : ∀ (v2 : Int32) (u : SM), R54 v2 u → At X 3 (wM T ad u) 54 [(0, .ref (ad 0)), (2, .int v2)] []) (v2 : Int32) (u : SM), qX9_numbers_54 R54 Q v2 u → At X 3 (wM T ad u) 54 [(0, .ref (ad 0)), (2, .int v2)] [] := by
    intro R54 hR54 v2 u h
    unfold qX9_numbers_54 at h
    refine at_iload_n C dX9_numbers_54 1 rfl ?_
    refine at_aload_n C dX9_numbers_55 0 rfl ?_
    refine gM_X9_17 C dX9_numbers_56 ?_
    refine at_icmp_ge (tgt := 90) C dX9_numbers_59 (by decide) (fun hc => ?_) (fun hc => ?_)
    · replace h := h.1 hc
      exact ret _ _ _ dX9_numbers_90 h
    · replace h := h.2 hc
      refine at_aload_n C dX9_numbers_62 0 rfl ?_
      refine at_iload_n C dX9_numbers_63 1 rfl ?_
      refine at_callVi C (kX9_isLeaf l D ad T hI _ _ _ h) ok_X9_isLeaf m_X9_171 mi_X9_isLeaf ml_X9_isLeaf (wM_g0 T ad _) rfl ⟨rfl, rfl, Nat.le_of_ble_eq_true rfl, Nat.le_of_ble_eq_true rfl⟩ rfl rfl (Nat.le_of_ble_eq_true rfl) dX9_numbers_64 (fun r7 s6 h => ?_)
      refine at_if_ne (tgt := 84) C dX9_numbers_67 (by decide) (fun hc => ?_) (fun hc => ?_)
      · replace h := h.1 hc
        exact t84 R54 hR54 _ _ h
      · replace h := h.2 hc
        refine at_aload_n C dX9_numbers_70 0 rfl ?_
        refine gM_X9_87 C dX9_numbers_71 ?_
        refine at_iload_n C dX9_numbers_74 1 rfl ?_
        obtain ⟨hi, h⟩ := h
        refine rM_23 C hi dX9_numbers_75 ?_
        refine at_if_le (tgt := 84) C dX9_numbers_76 (by decide) (fun hc => ?_) (fun hc => ?_)
        · replace h := h.1 hc
          exact t84 R54 hR54 _ _ h
        · replace h := h.2 hc
          refine at_aload_n C dX9_numbers_79 0 rfl ?_
          refine at_iload_n C dX9_numbers_80 1 rfl ?_
          refine at_callVv C (kX9_parts l D ad T hI _ _ _ h) ok_X9_parts m_X9_174 mi_X9_parts ml_X9_parts (wM_g0 T ad _) rfl ⟨rfl, rfl, Nat.le_of_ble_eq_true rfl, Nat.le_of_ble_eq_true rfl⟩ rfl rfl (Nat.le_of_ble_eq_true rfl) dX9_numbers_81 (fun s8 h => ?_)
          exact t84 R54 hR54 _ _ h
  have t54 : ∀ (n : Nat) (v2 : Int32) (u : SM), qX9_numbers_l54  Q n v2 u → At X 3 (wM T ad u) 54 [(0, .ref (ad 0)), (2, .int v2)] [] := by
    intro  n
    induction n with
    | zero => intro v2 u h; exact False.elim h
    | succ n ih => intro v2 u h; exact tb54 (qX9_numbers_l54  Q n) ih v2 u h
  have tb2 : ∀ (R2 : Int32 → Int32 → SM → Prop) (hR2 : ∀ (v1 : Int32) (v2 : Int32) (u : SM), R2 v1 v2 u → At X 3 (wM T ad u) 2 [(0, .ref (ad 0)), (1, .int v1), (2, .int v2)] []) (v1 : Int32) (v2 : Int32) (u : SM), qX9_numbers_2 R2 Q v1 v2 u → At X 3 (wM T ad u) 2 [(0, .ref (ad 0)), (1, .int v1), (2, .int v2)] [] := by
    intro R2 hR2 v1 v2 u h
    unfold qX9_numbers_2 at h
    refine at_iload_n C dX9_numbers_2 2 rfl ?_
    refine at_aload_n C dX9_numbers_3 0 rfl ?_
    refine gM_X9_17 C dX9_numbers_4 ?_
    refine at_icmp_ge (tgt := 52) C dX9_numbers_7 (by decide) (fun hc => ?_) (fun hc => ?_)
    · replace h := h.1 hc
      refine at_iconst (v := 0) C dX9_numbers_52 (by decide) ?_
      refine at_istore_n (lv' := [(0, .ref (ad 0)), (1, .int v1), (2, .int 0)]) C dX9_numbers_53 (by decide) [1, 2, 0] rfl ?_
      refine at_sub [0, 2] rfl ?_
      obtain ⟨n, h⟩ := h
      exact t54  n _ _ h
    · replace h := h.2 hc
      refine at_aload_n C dX9_numbers_10 0 rfl ?_
      refine gM_X9_87 C dX9_numbers_11 ?_
      refine at_iload_n C dX9_numbers_14 2 rfl ?_
      refine at_aload_n C dX9_numbers_15 0 rfl ?_
      refine at_iload_n C dX9_numbers_16 1 rfl ?_
      refine at_iload_n C dX9_numbers_17 2 rfl ?_
      refine at_callVi C (kX9_just l D ad T hI _ _ _ _ h) ok_X9_just m_X9_167 mi_X9_just ml_X9_just (wM_g0 T ad _) rfl ⟨rfl, rfl, Nat.le_of_ble_eq_true rfl, Nat.le_of_ble_eq_true rfl⟩ rfl rfl (Nat.le_of_ble_eq_true rfl) dX9_numbers_18 (fun r2 s1 h => ?_)
      obtain ⟨hi, h⟩ := h
      refine sM_23 C hD hi dX9_numbers_21 (fun s3 es3 => ?_)
      replace h := h s3 es3
      refine at_aload_n C dX9_numbers_22 0 rfl ?_
      refine gM_X9_84 C dX9_numbers_23 ?_
      refine at_iload_n C dX9_numbers_26 2 rfl ?_
      refine at_aload_n C dX9_numbers_27 0 rfl ?_
      refine at_iload_n C dX9_numbers_28 2 rfl ?_
      refine at_callVi C (kX9_isLeaf l D ad T hI _ _ _ h) ok_X9_isLeaf m_X9_171 mi_X9_isLeaf ml_X9_isLeaf (wM_g0 T ad _) rfl ⟨rfl, rfl, Nat.le_of_ble_eq_true rfl, Nat.le_of_ble_eq_true rfl⟩ rfl rfl (Nat.le_of_ble_eq_true rfl) dX9_numbers_29 (fun r5 s4 h => ?_)
      refine at_if_eq (tgt := 44) C dX9_numbers_32 (by decide) (fun hc => ?_) (fun hc => ?_)
      · replace h := h.1 hc
        refine at_iconst (v := 0) C dX9_numbers_44 (by decide) ?_
        exact t45 R2 hR2 _ _ _ _ _ h
      · replace h := h.2 hc
        refine at_aload_n C dX9_numbers_35 0 rfl ?_
        refine gM_X9_87 C dX9_numbers_36 ?_
        refine at_iload_n C dX9_numbers_39 2 rfl ?_
        obtain ⟨hi, h⟩ := h
        refine rM_23 C hi dX9_numbers_40 ?_
        refine at_goto (tgt := 45) C dX9_numbers_41 (by decide) ?_
        exact t45 R2 hR2 _ _ _ _ _ h
  have t2 : ∀ (n : Nat) (v1 : Int32) (v2 : Int32) (u : SM), qX9_numbers_l2  Q n v1 v2 u → At X 3 (wM T ad u) 2 [(0, .ref (ad 0)), (1, .int v1), (2, .int v2)] [] := by
    intro  n
    induction n with
    | zero => intro v1 v2 u h; exact False.elim h
    | succ n ih => intro v1 v2 u h; exact tb2 (qX9_numbers_l2  Q n) ih v1 v2 u h
  unfold pX9_numbers at h
  refine at_iconst (v := 0) C dX9_numbers_0 (by decide) ?_
  refine at_istore_n (lv' := [(0, .ref (ad 0)), (1, .int v1), (2, .int 0)]) C dX9_numbers_1 (by decide) [1, 2, 0] rfl ?_
  obtain ⟨n, h⟩ := h
  exact t2  n _ _ _ h
theorem m_X9_180 : Cond.methodLink RX9 180 yX9_numbers ∈ gW := gW_in 953 (by decide +kernel) (by decide +kernel)
theorem mc_X9_numbers : Cond.code yX9_numbers cX9_numbers 3 none ∈ gW := gW_in 956 (by decide +kernel) (by decide +kernel)
theorem ok_X9_numbers : okM yX9_numbers cX9_numbers 3 none 1 := ⟨mc_X9_numbers, mz_RX9, by decide +kernel⟩
theorem mi_X9_numbers : Cond.instanceMethod yX9_numbers ∈ gW := gW_in 955 (by decide +kernel) (by decide +kernel)
theorem ml_X9_numbers : Cond.selects RX9 yX9_numbers yX9_numbers ∈ gW := gW_in 72 (by decide +kernel) (by decide +kernel)
def qX9_birds_119 (R72 : Int32 → Int32 → Int32 → Int32 → SM → Prop) (Q : Int32 → SM → Prop) (v2 : Int32) (v3 : Int32) (v5 : Int32) (k0 : Int32) (k1 : Int32) (u : SM) : Prop := ∀ x12 : Int32, x12 = (k1 + k0) → ∀ x13 : Int32, x13 = v5 + 1 → R72 v2 v3 x12 x13 u
def qX9_birds_72 (R72 : Int32 → Int32 → Int32 → Int32 → SM → Prop) (Q : Int32 → SM → Prop) (v2 : Int32) (v3 : Int32) (v4 : Int32) (v5 : Int32) (u : SM) : Prop := (((u.1 0 3) ≤ v5 → (Q v4 u)) ∧ (¬ (u.1 0 3) ≤ v5 → (pX9_isUnder v5 v2 u (fun r11 s10 => ((r11 = 0 → (qX9_birds_119 R72 Q v2 v3 v5 0 v4 s10)) ∧ (¬ r11 = 0 → ((¬ v3 = 1 → (vp_in v5 20 ∧ (qX9_birds_119 R72 Q v2 v3 v5 (s10.1 22 (Int32.toNatClampNeg v5)) v4 s10))) ∧ (v3 = 1 → (vp_in v5 20 ∧ (qX9_birds_119 R72 Q v2 v3 v5 (s10.1 23 (Int32.toNatClampNeg v5)) v4 s10))))))))))
def qX9_birds_l72  (Q : Int32 → SM → Prop) : Nat → Int32 → Int32 → Int32 → Int32 → SM → Prop
  | 0 => fun _ _ _ _ _ => False
  | n + 1 => qX9_birds_72 (qX9_birds_l72  Q n) Q
def qX9_birds_33  (Q : Int32 → SM → Prop) (v1 : Int32) (v2 : Int32) (v3 : Int32) (k0 : Int32) (u : SM) : Prop := ∀ s3 : SM, s3 = (st_up u.1 0 0 k0, u.2) → (((s3.1 0 0) ≤ 0 → (pX9_pairsOf v1 s3 (fun s4 => ((¬ v3 = 0 → (pX9_numbers v1 s4 (fun s6 => (∃ n, qX9_birds_l72  Q n v2 v3 0 0 s6)))) ∧ (v3 = 0 → (pX9_just v1 v2 s4 (fun r9 s8 => (Q r9 s8)))))))) ∧ (¬ (s3.1 0 0) ≤ 0 → (Q 0 s3)))
def qX9_birds_32  (Q : Int32 → SM → Prop) (v1 : Int32) (v2 : Int32) (v3 : Int32) (u : SM) : Prop := (qX9_birds_33  Q v1 v2 v3 1 u)
def pX9_birds (v1 : Int32) (v2 : Int32) (v3 : Int32) (u : SM) (Q : Int32 → SM → Prop) : Prop := ((v1 < 0 → (qX9_birds_32  Q v1 v2 v3 u)) ∧ (¬ v1 < 0 → ((6 ≤ v1 → (qX9_birds_32  Q v1 v2 v3 u)) ∧ (¬ 6 ≤ v1 → (pX9_isKind v2 u (fun r2 s1 => ((r2 = 0 → (qX9_birds_32  Q v1 v2 v3 s1)) ∧ (¬ r2 = 0 → ((v3 < 0 → (qX9_birds_32  Q v1 v2 v3 s1)) ∧ (¬ v3 < 0 → ((2 < v3 → (qX9_birds_32  Q v1 v2 v3 s1)) ∧ (¬ 2 < v3 → (qX9_birds_33  Q v1 v2 v3 0 s1)))))))))))))
set_option maxRecDepth 100000 in
set_option maxHeartbeats 4000000 in
theorem kX9_birds (l : Launch) (D : va_G) (ad : Nat → Nat) (T : TT) (hI : injA 27 ad) (v1 : Int32) (v2 : Int32) (v3 : Int32) (u : SM) (Q : Int32 → SM → Prop) (h : pX9_birds v1 v2 v3 u Q) : Ki (KM l D ad T) (wM T ad) yX9_birds cX9_birds 6 (some .int) { frames := 18, cells := 0, slots := 0, locals := 403 } [.ref (ad 0), .int v1, .int v2, .int v3] (wM T ad u) Q := by
  refine st_MI (fr := 18) (lo := 403) (by decide) ⟨rfl, rfl⟩ rfl (Nat.le_of_ble_eq_true rfl) rfl (fun X C hD ret => ?_)
  replace hD : ∀ u, DX X (wM T ad u) := fun u => hD _ (wM_D hI T u)
  have t119 : ∀ (R72 : Int32 → Int32 → Int32 → Int32 → SM → Prop) (hR72 : ∀ (v2 : Int32) (v3 : Int32) (v4 : Int32) (v5 : Int32) (u : SM), R72 v2 v3 v4 v5 u → At X 6 (wM T ad u) 72 [(0, .ref (ad 0)), (2, .int v2), (3, .int v3), (4, .int v4), (5, .int v5)] []) (v2 : Int32) (v3 : Int32) (v5 : Int32) (k0 : Int32) (k1 : Int32) (u : SM), qX9_birds_119 R72 Q v2 v3 v5 k0 k1 u → At X 6 (wM T ad u) 119 [(0, .ref (ad 0)), (2, .int v2), (3, .int v3), (5, .int v5)] [.int k0, .int k1] := by
    intro R72 hR72 v2 v3 v5 k0 k1 u h
    unfold qX9_birds_119 at h
    refine at_iadd C dX9_birds_119 ?_
    refine at_topi (fun x12 ex12 => ?_)
    replace h := h x12 ex12
    refine at_istore (lv' := [(0, .ref (ad 0)), (2, .int v2), (3, .int v3), (4, .int x12), (5, .int v5)]) C dX9_birds_120 (by decide) [1, 2, 3, 0, 4] rfl ?_
    obtain ⟨x13, ex13⟩ : ∃ y : Int32, y = v5 + 1 := ⟨_, rfl⟩
    replace h := h x13 ex13
    refine at_iinc (v := x13) (lv' := [(0, .ref (ad 0)), (2, .int v2), (3, .int v3), (4, .int x12), (5, .int x13)]) C dX9_birds_122 4 rfl (by rw [ex13]; rfl) (by decide) [1, 2, 3, 4, 0] rfl ?_
    refine at_goto (tgt := 72) C dX9_birds_125 (by decide) ?_
    exact hR72 _ _ _ _ _ h
  have tb72 : ∀ (R72 : Int32 → Int32 → Int32 → Int32 → SM → Prop) (hR72 : ∀ (v2 : Int32) (v3 : Int32) (v4 : Int32) (v5 : Int32) (u : SM), R72 v2 v3 v4 v5 u → At X 6 (wM T ad u) 72 [(0, .ref (ad 0)), (2, .int v2), (3, .int v3), (4, .int v4), (5, .int v5)] []) (v2 : Int32) (v3 : Int32) (v4 : Int32) (v5 : Int32) (u : SM), qX9_birds_72 R72 Q v2 v3 v4 v5 u → At X 6 (wM T ad u) 72 [(0, .ref (ad 0)), (2, .int v2), (3, .int v3), (4, .int v4), (5, .int v5)] [] := by
    intro R72 hR72 v2 v3 v4 v5 u h
    unfold qX9_birds_72 at h
    refine at_iload C dX9_birds_72 4 rfl ?_
    refine at_aload_n C dX9_birds_74 0 rfl ?_
    refine gM_X9_17 C dX9_birds_75 ?_
    refine at_icmp_ge (tgt := 128) C dX9_birds_78 (by decide) (fun hc => ?_) (fun hc => ?_)
    · replace h := h.1 hc
      refine at_iload C dX9_birds_128 3 rfl ?_
      exact ret _ _ _ _ dX9_birds_130 h
    · replace h := h.2 hc
      refine at_iload C dX9_birds_81 3 rfl ?_
      refine at_aload_n C dX9_birds_83 0 rfl ?_
      refine at_iload C dX9_birds_84 4 rfl ?_
      refine at_iload_n C dX9_birds_86 1 rfl ?_
      refine at_callVi C (kX9_isUnder l D ad T hI _ _ _ _ h) ok_X9_isUnder m_X9_121 mi_X9_isUnder ml_X9_isUnder (wM_g0 T ad _) rfl ⟨rfl, rfl, Nat.le_of_ble_eq_true rfl, Nat.le_of_ble_eq_true rfl⟩ rfl rfl (Nat.le_of_ble_eq_true rfl) dX9_birds_87 (fun r11 s10 h => ?_)
      refine at_if_eq (tgt := 118) C dX9_birds_90 (by decide) (fun hc => ?_) (fun hc => ?_)
      · replace h := h.1 hc
        refine at_iconst (v := 0) C dX9_birds_118 (by decide) ?_
        refine at_sub [0, 1, 2, 4] rfl ?_
        exact t119 R72 hR72 _ _ _ _ _ _ h
      · replace h := h.2 hc
        refine at_iload_n C dX9_birds_93 2 rfl ?_
        refine at_iconst (v := 1) C dX9_birds_94 (by decide) ?_
        refine at_icmp_ne (tgt := 108) C dX9_birds_95 (by decide) (fun hc => ?_) (fun hc => ?_)
        · replace h := h.1 hc
          refine at_aload_n C dX9_birds_108 0 rfl ?_
          refine gM_X9_84 C dX9_birds_109 ?_
          refine at_iload C dX9_birds_112 4 rfl ?_
          obtain ⟨hi, h⟩ := h
          refine rM_22 C hi dX9_birds_114 ?_
          refine at_goto (tgt := 119) C dX9_birds_115 (by decide) ?_
          refine at_sub [0, 1, 2, 4] rfl ?_
          exact t119 R72 hR72 _ _ _ _ _ _ h
        · replace h := h.2 hc
          refine at_aload_n C dX9_birds_98 0 rfl ?_
          refine gM_X9_87 C dX9_birds_99 ?_
          refine at_iload C dX9_birds_102 4 rfl ?_
          obtain ⟨hi, h⟩ := h
          refine rM_23 C hi dX9_birds_104 ?_
          refine at_goto (tgt := 119) C dX9_birds_105 (by decide) ?_
          refine at_sub [0, 1, 2, 4] rfl ?_
          exact t119 R72 hR72 _ _ _ _ _ _ h
  have t72 : ∀ (n : Nat) (v2 : Int32) (v3 : Int32) (v4 : Int32) (v5 : Int32) (u : SM), qX9_birds_l72  Q n v2 v3 v4 v5 u → At X 6 (wM T ad u) 72 [(0, .ref (ad 0)), (2, .int v2), (3, .int v3), (4, .int v4), (5, .int v5)] [] := by
    intro  n
    induction n with
    | zero => intro v2 v3 v4 v5 u h; exact False.elim h
    | succ n ih => intro v2 v3 v4 v5 u h; exact tb72 (qX9_birds_l72  Q n) ih v2 v3 v4 v5 u h
  have t33 : ∀ (v1 : Int32) (v2 : Int32) (v3 : Int32) (k0 : Int32) (u : SM), qX9_birds_33  Q v1 v2 v3 k0 u → At X 6 (wM T ad u) 33 [(0, .ref (ad 0)), (1, .int v1), (2, .int v2), (3, .int v3)] [.int k0, .ref (ad 0)] := by
    intro v1 v2 v3 k0 u h
    unfold qX9_birds_33 at h
    refine pM_X9_1 C hD dX9_birds_33 (fun s3 es3 => ?_)
    replace h := h s3 es3
    refine at_aload_n C dX9_birds_36 0 rfl ?_
    refine gM_X9_1 C dX9_birds_37 ?_
    refine at_if_le (tgt := 45) C dX9_birds_40 (by decide) (fun hc => ?_) (fun hc => ?_)
    · replace h := h.1 hc
      refine at_aload_n C dX9_birds_45 0 rfl ?_
      refine at_iload_n C dX9_birds_46 1 rfl ?_
      refine at_callVv C (kX9_pairsOf l D ad T hI _ _ _ h) ok_X9_pairsOf m_X9_154 mi_X9_pairsOf ml_X9_pairsOf (wM_g0 T ad _) rfl ⟨rfl, rfl, Nat.le_of_ble_eq_true rfl, Nat.le_of_ble_eq_true rfl⟩ rfl rfl (Nat.le_of_ble_eq_true rfl) dX9_birds_47 (fun s4 h => ?_)
      refine at_iload_n C dX9_birds_50 3 rfl ?_
      refine at_if_ne (tgt := 61) C dX9_birds_51 (by decide) (fun hc => ?_) (fun hc => ?_)
      · replace h := h.1 hc
        refine at_aload_n C dX9_birds_61 0 rfl ?_
        refine at_iload_n C dX9_birds_62 1 rfl ?_
        refine at_callVv C (kX9_numbers l D ad T hI _ _ _ h) ok_X9_numbers m_X9_180 mi_X9_numbers ml_X9_numbers (wM_g0 T ad _) rfl ⟨rfl, rfl, Nat.le_of_ble_eq_true rfl, Nat.le_of_ble_eq_true rfl⟩ rfl rfl (Nat.le_of_ble_eq_true rfl) dX9_birds_63 (fun s6 h => ?_)
        refine at_iconst (v := 0) C dX9_birds_66 (by decide) ?_
        refine at_istore (lv' := [(0, .ref (ad 0)), (1, .int v1), (2, .int v2), (3, .int v3), (4, .int 0)]) C dX9_birds_67 (by decide) [1, 2, 3, 4, 0] rfl ?_
        refine at_iconst (v := 0) C dX9_birds_69 (by decide) ?_
        refine at_istore (lv' := [(0, .ref (ad 0)), (1, .int v1), (2, .int v2), (3, .int v3), (4, .int 0), (5, .int 0)]) C dX9_birds_70 (by decide) [1, 2, 3, 4, 5, 0] rfl ?_
        refine at_sub [0, 2, 3, 4, 5] rfl ?_
        obtain ⟨n, h⟩ := h
        exact t72  n _ _ _ _ _ h
      · replace h := h.2 hc
        refine at_aload_n C dX9_birds_54 0 rfl ?_
        refine at_iload_n C dX9_birds_55 1 rfl ?_
        refine at_iload_n C dX9_birds_56 2 rfl ?_
        refine at_callVi C (kX9_just l D ad T hI _ _ _ _ h) ok_X9_just m_X9_167 mi_X9_just ml_X9_just (wM_g0 T ad _) rfl ⟨rfl, rfl, Nat.le_of_ble_eq_true rfl, Nat.le_of_ble_eq_true rfl⟩ rfl rfl (Nat.le_of_ble_eq_true rfl) dX9_birds_57 (fun r9 s8 h => ?_)
        exact ret _ _ _ _ dX9_birds_60 h
    · replace h := h.2 hc
      refine at_iconst (v := 0) C dX9_birds_43 (by decide) ?_
      exact ret _ _ _ _ dX9_birds_44 h
  have t32 : ∀ (v1 : Int32) (v2 : Int32) (v3 : Int32) (u : SM), qX9_birds_32  Q v1 v2 v3 u → At X 6 (wM T ad u) 32 [(0, .ref (ad 0)), (1, .int v1), (2, .int v2), (3, .int v3)] [.ref (ad 0)] := by
    intro v1 v2 v3 u h
    unfold qX9_birds_32 at h
    refine at_iconst (v := 1) C dX9_birds_32 (by decide) ?_
    exact t33  _ _ _ _ _ h
  unfold pX9_birds at h
  refine at_aload_n C dX9_birds_0 0 rfl ?_
  refine at_iload_n C dX9_birds_1 1 rfl ?_
  refine at_if_lt (tgt := 32) C dX9_birds_2 (by decide) (fun hc => ?_) (fun hc => ?_)
  · replace h := h.1 hc
    exact t32  _ _ _ _ h
  · replace h := h.2 hc
    refine at_iload_n C dX9_birds_5 1 rfl ?_
    refine at_bipush (v := 6) C dX9_birds_6 (by decide) ?_
    refine at_icmp_ge (tgt := 32) C dX9_birds_8 (by decide) (fun hc => ?_) (fun hc => ?_)
    · replace h := h.1 hc
      exact t32  _ _ _ _ h
    · replace h := h.2 hc
      refine at_aload_n C dX9_birds_11 0 rfl ?_
      refine at_iload_n C dX9_birds_12 2 rfl ?_
      refine at_callVi C (kX9_isKind l D ad T hI _ _ _ h) ok_X9_isKind m_X9_106 mi_X9_isKind ml_X9_isKind (wM_g0 T ad _) rfl ⟨rfl, rfl, Nat.le_of_ble_eq_true rfl, Nat.le_of_ble_eq_true rfl⟩ rfl rfl (Nat.le_of_ble_eq_true rfl) dX9_birds_13 (fun r2 s1 h => ?_)
      refine at_if_eq (tgt := 32) C dX9_birds_16 (by decide) (fun hc => ?_) (fun hc => ?_)
      · replace h := h.1 hc
        exact t32  _ _ _ _ h
      · replace h := h.2 hc
        refine at_iload_n C dX9_birds_19 3 rfl ?_
        refine at_if_lt (tgt := 32) C dX9_birds_20 (by decide) (fun hc => ?_) (fun hc => ?_)
        · replace h := h.1 hc
          exact t32  _ _ _ _ h
        · replace h := h.2 hc
          refine at_iload_n C dX9_birds_23 3 rfl ?_
          refine at_iconst (v := 2) C dX9_birds_24 (by decide) ?_
          refine at_icmp_gt (tgt := 32) C dX9_birds_25 (by decide) (fun hc => ?_) (fun hc => ?_)
          · replace h := h.1 hc
            exact t32  _ _ _ _ h
          · replace h := h.2 hc
            refine at_iconst (v := 0) C dX9_birds_28 (by decide) ?_
            refine at_goto (tgt := 33) C dX9_birds_29 (by decide) ?_
            exact t33  _ _ _ _ _ h
def qX9_birdsOf_55 (R5 : Int32 → Int32 → Int32 → Int32 → SM → Prop) (Q : Int32 → SM → Prop) (v1 : Int32) (v2 : Int32) (v4 : Int32) (k0 : Int32) (k1 : Int32) (u : SM) : Prop := ∀ x3 : Int32, x3 = (k1 + k0) → ∀ x4 : Int32, x4 = v4 + 1 → R5 v1 v2 x3 x4 u
def qX9_birdsOf_50 (R5 : Int32 → Int32 → Int32 → Int32 → SM → Prop) (Q : Int32 → SM → Prop) (v1 : Int32) (v2 : Int32) (v4 : Int32) (k0 : Int32) (u : SM) : Prop := (qX9_birdsOf_55 R5 Q v1 v2 v4 1 k0 u)
def qX9_birdsOf_54 (R5 : Int32 → Int32 → Int32 → Int32 → SM → Prop) (Q : Int32 → SM → Prop) (v1 : Int32) (v2 : Int32) (v4 : Int32) (k0 : Int32) (u : SM) : Prop := (qX9_birdsOf_55 R5 Q v1 v2 v4 0 k0 u)
def qX9_birdsOf_5 (R5 : Int32 → Int32 → Int32 → Int32 → SM → Prop) (Q : Int32 → SM → Prop) (v1 : Int32) (v2 : Int32) (v3 : Int32) (v4 : Int32) (u : SM) : Prop := (((u.1 0 9) ≤ v4 → (Q v3 u)) ∧ (¬ (u.1 0 9) ≤ v4 → (pX9_isBird v4 v1 u (fun r2 s1 => ((r2 = 0 → (qX9_birdsOf_54 R5 Q v1 v2 v4 v3 s1)) ∧ (¬ r2 = 0 → ((v2 < 0 → (qX9_birdsOf_50 R5 Q v1 v2 v4 v3 s1)) ∧ (¬ v2 < 0 → (vp_in v4 300 ∧ (vp_in ((30 * v1) + (s1.1 6 (Int32.toNatClampNeg v4))) 180 ∧ ((¬ (s1.1 12 (Int32.toNatClampNeg ((30 * v1) + (s1.1 6 (Int32.toNatClampNeg v4))))) = v2 → (qX9_birdsOf_54 R5 Q v1 v2 v4 v3 s1)) ∧ ((s1.1 12 (Int32.toNatClampNeg ((30 * v1) + (s1.1 6 (Int32.toNatClampNeg v4))))) = v2 → (qX9_birdsOf_50 R5 Q v1 v2 v4 v3 s1)))))))))))))
def qX9_birdsOf_l5  (Q : Int32 → SM → Prop) : Nat → Int32 → Int32 → Int32 → Int32 → SM → Prop
  | 0 => fun _ _ _ _ _ => False
  | n + 1 => qX9_birdsOf_5 (qX9_birdsOf_l5  Q n) Q
def pX9_birdsOf (v1 : Int32) (v2 : Int32) (u : SM) (Q : Int32 → SM → Prop) : Prop := (∃ n, qX9_birdsOf_l5  Q n v1 v2 0 0 u)
set_option maxRecDepth 100000 in
set_option maxHeartbeats 4000000 in
theorem kX9_birdsOf (l : Launch) (D : va_G) (ad : Nat → Nat) (T : TT) (hI : injA 27 ad) (v1 : Int32) (v2 : Int32) (u : SM) (Q : Int32 → SM → Prop) (h : pX9_birdsOf v1 v2 u Q) : Ki (KM l D ad T) (wM T ad) yX9_birdsOf cX9_birdsOf 5 (some .int) { frames := 2, cells := 0, slots := 0, locals := 43 } [.ref (ad 0), .int v1, .int v2] (wM T ad u) Q := by
  refine st_MI (fr := 2) (lo := 43) (by decide) ⟨rfl, rfl⟩ rfl (Nat.le_of_ble_eq_true rfl) rfl (fun X C hD ret => ?_)
  replace hD : ∀ u, DX X (wM T ad u) := fun u => hD _ (wM_D hI T u)
  have t55 : ∀ (R5 : Int32 → Int32 → Int32 → Int32 → SM → Prop) (hR5 : ∀ (v1 : Int32) (v2 : Int32) (v3 : Int32) (v4 : Int32) (u : SM), R5 v1 v2 v3 v4 u → At X 5 (wM T ad u) 5 [(0, .ref (ad 0)), (1, .int v1), (2, .int v2), (3, .int v3), (4, .int v4)] []) (v1 : Int32) (v2 : Int32) (v4 : Int32) (k0 : Int32) (k1 : Int32) (u : SM), qX9_birdsOf_55 R5 Q v1 v2 v4 k0 k1 u → At X 5 (wM T ad u) 55 [(0, .ref (ad 0)), (1, .int v1), (2, .int v2), (4, .int v4)] [.int k0, .int k1] := by
    intro R5 hR5 v1 v2 v4 k0 k1 u h
    unfold qX9_birdsOf_55 at h
    refine at_iadd C dX9_birdsOf_55 ?_
    refine at_topi (fun x3 ex3 => ?_)
    replace h := h x3 ex3
    refine at_istore_n (lv' := [(0, .ref (ad 0)), (1, .int v1), (2, .int v2), (3, .int x3), (4, .int v4)]) C dX9_birdsOf_56 (by decide) [1, 2, 3, 0, 4] rfl ?_
    obtain ⟨x4, ex4⟩ : ∃ y : Int32, y = v4 + 1 := ⟨_, rfl⟩
    replace h := h x4 ex4
    refine at_iinc (v := x4) (lv' := [(0, .ref (ad 0)), (1, .int v1), (2, .int v2), (3, .int x3), (4, .int x4)]) C dX9_birdsOf_57 4 rfl (by rw [ex4]; rfl) (by decide) [1, 2, 3, 4, 0] rfl ?_
    refine at_goto (tgt := 5) C dX9_birdsOf_60 (by decide) ?_
    exact hR5 _ _ _ _ _ h
  have t50 : ∀ (R5 : Int32 → Int32 → Int32 → Int32 → SM → Prop) (hR5 : ∀ (v1 : Int32) (v2 : Int32) (v3 : Int32) (v4 : Int32) (u : SM), R5 v1 v2 v3 v4 u → At X 5 (wM T ad u) 5 [(0, .ref (ad 0)), (1, .int v1), (2, .int v2), (3, .int v3), (4, .int v4)] []) (v1 : Int32) (v2 : Int32) (v4 : Int32) (k0 : Int32) (u : SM), qX9_birdsOf_50 R5 Q v1 v2 v4 k0 u → At X 5 (wM T ad u) 50 [(0, .ref (ad 0)), (1, .int v1), (2, .int v2), (4, .int v4)] [.int k0] := by
    intro R5 hR5 v1 v2 v4 k0 u h
    unfold qX9_birdsOf_50 at h
    refine at_iconst (v := 1) C dX9_birdsOf_50 (by decide) ?_
    refine at_goto (tgt := 55) C dX9_birdsOf_51 (by decide) ?_
    exact t55 R5 hR5 _ _ _ _ _ _ h
  have t54 : ∀ (R5 : Int32 → Int32 → Int32 → Int32 → SM → Prop) (hR5 : ∀ (v1 : Int32) (v2 : Int32) (v3 : Int32) (v4 : Int32) (u : SM), R5 v1 v2 v3 v4 u → At X 5 (wM T ad u) 5 [(0, .ref (ad 0)), (1, .int v1), (2, .int v2), (3, .int v3), (4, .int v4)] []) (v1 : Int32) (v2 : Int32) (v4 : Int32) (k0 : Int32) (u : SM), qX9_birdsOf_54 R5 Q v1 v2 v4 k0 u → At X 5 (wM T ad u) 54 [(0, .ref (ad 0)), (1, .int v1), (2, .int v2), (4, .int v4)] [.int k0] := by
    intro R5 hR5 v1 v2 v4 k0 u h
    unfold qX9_birdsOf_54 at h
    refine at_iconst (v := 0) C dX9_birdsOf_54 (by decide) ?_
    exact t55 R5 hR5 _ _ _ _ _ _ h
  have tb5 : ∀ (R5 : Int32 → Int32 → Int32 → Int32 → SM → Prop) (hR5 : ∀ (v1 : Int32) (v2 : Int32) (v3 : Int32) (v4 : Int32) (u : SM), R5 v1 v2 v3 v4 u → At X 5 (wM T ad u) 5 [(0, .ref (ad 0)), (1, .int v1), (2, .int v2), (3, .int v3), (4, .int v4)] []) (v1 : Int32) (v2 : Int32) (v3 : Int32) (v4 : Int32) (u : SM), qX9_birdsOf_5 R5 Q v1 v2 v3 v4 u → At X 5 (wM T ad u) 5 [(0, .ref (ad 0)), (1, .int v1), (2, .int v2), (3, .int v3), (4, .int v4)] [] := by
    intro R5 hR5 v1 v2 v3 v4 u h
    unfold qX9_birdsOf_5 at h
    refine at_iload C dX9_birdsOf_5 4 rfl ?_
    refine at_aload_n C dX9_birdsOf_7 0 rfl ?_
    refine gM_X9_103 C dX9_birdsOf_8 ?_
    refine at_icmp_ge (tgt := 63) C dX9_birdsOf_11 (by decide) (fun hc => ?_) (fun hc => ?_)
    · replace h := h.1 hc
      refine at_iload_n C dX9_birdsOf_63 3 rfl ?_
      exact ret _ _ _ _ dX9_birdsOf_64 h
    · replace h := h.2 hc
      refine at_iload_n C dX9_birdsOf_14 3 rfl ?_
      refine at_aload_n C dX9_birdsOf_15 0 rfl ?_
      refine at_iload C dX9_birdsOf_16 4 rfl ?_
      refine at_iload_n C dX9_birdsOf_18 1 rfl ?_
      refine at_callVi C (kX9_isBird l D ad T hI _ _ _ _ h) ok_X9_isBird m_X9_161 mi_X9_isBird ml_X9_isBird (wM_g0 T ad _) rfl ⟨rfl, rfl, Nat.le_of_ble_eq_true rfl, Nat.le_of_ble_eq_true rfl⟩ rfl rfl (Nat.le_of_ble_eq_true rfl) dX9_birdsOf_19 (fun r2 s1 h => ?_)
      refine at_if_eq (tgt := 54) C dX9_birdsOf_22 (by decide) (fun hc => ?_) (fun hc => ?_)
      · replace h := h.1 hc
        refine at_sub [0, 1, 2, 4] rfl ?_
        exact t54 R5 hR5 _ _ _ _ _ h
      · replace h := h.2 hc
        refine at_iload_n C dX9_birdsOf_25 2 rfl ?_
        refine at_if_lt (tgt := 50) C dX9_birdsOf_26 (by decide) (fun hc => ?_) (fun hc => ?_)
        · replace h := h.1 hc
          refine at_sub [0, 1, 2, 4] rfl ?_
          exact t50 R5 hR5 _ _ _ _ _ h
        · replace h := h.2 hc
          refine at_aload_n C dX9_birdsOf_29 0 rfl ?_
          refine gM_X9_54 C dX9_birdsOf_30 ?_
          refine at_bipush (v := 30) C dX9_birdsOf_33 (by decide) ?_
          refine at_iload_n C dX9_birdsOf_35 1 rfl ?_
          refine at_imul C dX9_birdsOf_36 ?_
          refine at_aload_n C dX9_birdsOf_37 0 rfl ?_
          refine gM_X9_35 C dX9_birdsOf_38 ?_
          refine at_iload C dX9_birdsOf_41 4 rfl ?_
          obtain ⟨hi, h⟩ := h
          refine rM_6 C hi dX9_birdsOf_43 ?_
          refine at_iadd C dX9_birdsOf_44 ?_
          obtain ⟨hi, h⟩ := h
          refine rM_12 C hi dX9_birdsOf_45 ?_
          refine at_iload_n C dX9_birdsOf_46 2 rfl ?_
          refine at_icmp_ne (tgt := 54) C dX9_birdsOf_47 (by decide) (fun hc => ?_) (fun hc => ?_)
          · replace h := h.1 hc
            refine at_sub [0, 1, 2, 4] rfl ?_
            exact t54 R5 hR5 _ _ _ _ _ h
          · replace h := h.2 hc
            refine at_sub [0, 1, 2, 4] rfl ?_
            exact t50 R5 hR5 _ _ _ _ _ h
  have t5 : ∀ (n : Nat) (v1 : Int32) (v2 : Int32) (v3 : Int32) (v4 : Int32) (u : SM), qX9_birdsOf_l5  Q n v1 v2 v3 v4 u → At X 5 (wM T ad u) 5 [(0, .ref (ad 0)), (1, .int v1), (2, .int v2), (3, .int v3), (4, .int v4)] [] := by
    intro  n
    induction n with
    | zero => intro v1 v2 v3 v4 u h; exact False.elim h
    | succ n ih => intro v1 v2 v3 v4 u h; exact tb5 (qX9_birdsOf_l5  Q n) ih v1 v2 v3 v4 u h
  unfold pX9_birdsOf at h
  refine at_iconst (v := 0) C dX9_birdsOf_0 (by decide) ?_
  refine at_istore_n (lv' := [(0, .ref (ad 0)), (1, .int v1), (2, .int v2), (3, .int 0)]) C dX9_birdsOf_1 (by decide) [1, 2, 3, 0] rfl ?_
  refine at_iconst (v := 0) C dX9_birdsOf_2 (by decide) ?_
  refine at_istore (lv' := [(0, .ref (ad 0)), (1, .int v1), (2, .int v2), (3, .int 0), (4, .int 0)]) C dX9_birdsOf_3 (by decide) [1, 2, 3, 4, 0] rfl ?_
  obtain ⟨n, h⟩ := h
  exact t5  n _ _ _ _ _ h
theorem m_X9_183 : Cond.methodLink RX9 183 yX9_birdsOf ∈ gW := gW_in 973 (by decide +kernel) (by decide +kernel)
theorem mc_X9_birdsOf : Cond.code yX9_birdsOf cX9_birdsOf 5 (some .int) ∈ gW := gW_in 976 (by decide +kernel) (by decide +kernel)
theorem ok_X9_birdsOf : okM yX9_birdsOf cX9_birdsOf 5 (some .int) 2 := ⟨mc_X9_birdsOf, mz_RX9, by decide +kernel⟩
theorem mi_X9_birdsOf : Cond.instanceMethod yX9_birdsOf ∈ gW := gW_in 975 (by decide +kernel) (by decide +kernel)
theorem ml_X9_birdsOf : Cond.selects RX9 yX9_birdsOf yX9_birdsOf ∈ gW := gW_in 76 (by decide +kernel) (by decide +kernel)
def qX9_hoursOf_61 (R6 : Int32 → Int32 → Int32 → Int32 → Int32 → SM → Prop) (Q : Int32 → SM → Prop) (v1 : Int32) (v2 : Int32) (v3 : Int32) (v5 : Int32) (k0 : Int32) (k1 : Int32) (u : SM) : Prop := ∀ x1 : Int32, x1 = (k1 + k0) → ∀ x2 : Int32, x2 = v5 + 1 → R6 v1 v2 v3 x1 x2 u
def qX9_hoursOf_56 (R6 : Int32 → Int32 → Int32 → Int32 → Int32 → SM → Prop) (Q : Int32 → SM → Prop) (v1 : Int32) (v2 : Int32) (v3 : Int32) (v5 : Int32) (k0 : Int32) (u : SM) : Prop := (qX9_hoursOf_61 R6 Q v1 v2 v3 v5 1 k0 u)
def qX9_hoursOf_60 (R6 : Int32 → Int32 → Int32 → Int32 → Int32 → SM → Prop) (Q : Int32 → SM → Prop) (v1 : Int32) (v2 : Int32) (v3 : Int32) (v5 : Int32) (k0 : Int32) (u : SM) : Prop := (qX9_hoursOf_61 R6 Q v1 v2 v3 v5 0 k0 u)
def qX9_hoursOf_6 (R6 : Int32 → Int32 → Int32 → Int32 → Int32 → SM → Prop) (Q : Int32 → SM → Prop) (v1 : Int32) (v2 : Int32) (v3 : Int32) (v4 : Int32) (v5 : Int32) (u : SM) : Prop := ((300 ≤ v5 → (Q v4 u)) ∧ (¬ 300 ≤ v5 → (vp_in ((300 * v1) + v5) 1800 ∧ ((¬ (u.1 11 (Int32.toNatClampNeg ((300 * v1) + v5))) = v3 → (qX9_hoursOf_60 R6 Q v1 v2 v3 v5 v4 u)) ∧ ((u.1 11 (Int32.toNatClampNeg ((300 * v1) + v5))) = v3 → ((v2 < 0 → (qX9_hoursOf_56 R6 Q v1 v2 v3 v5 v4 u)) ∧ (¬ v2 < 0 → (vp_in ((30 * v1) + (v5 / 10)) 180 ∧ ((¬ (u.1 12 (Int32.toNatClampNeg ((30 * v1) + (v5 / 10)))) = v2 → (qX9_hoursOf_60 R6 Q v1 v2 v3 v5 v4 u)) ∧ ((u.1 12 (Int32.toNatClampNeg ((30 * v1) + (v5 / 10)))) = v2 → (qX9_hoursOf_56 R6 Q v1 v2 v3 v5 v4 u)))))))))))
def qX9_hoursOf_l6  (Q : Int32 → SM → Prop) : Nat → Int32 → Int32 → Int32 → Int32 → Int32 → SM → Prop
  | 0 => fun _ _ _ _ _ _ => False
  | n + 1 => qX9_hoursOf_6 (qX9_hoursOf_l6  Q n) Q
def pX9_hoursOf (v1 : Int32) (v2 : Int32) (v3 : Int32) (u : SM) (Q : Int32 → SM → Prop) : Prop := (∃ n, qX9_hoursOf_l6  Q n v1 v2 v3 0 0 u)
set_option maxRecDepth 100000 in
set_option maxHeartbeats 4000000 in
theorem kX9_hoursOf (l : Launch) (D : va_G) (ad : Nat → Nat) (T : TT) (hI : injA 27 ad) (v1 : Int32) (v2 : Int32) (v3 : Int32) (u : SM) (Q : Int32 → SM → Prop) (h : pX9_hoursOf v1 v2 v3 u Q) : Ki (KM l D ad T) (wM T ad) yX9_hoursOf cX9_hoursOf 6 (some .int) { frames := 0, cells := 0, slots := 0, locals := 0 } [.ref (ad 0), .int v1, .int v2, .int v3] (wM T ad u) Q := by
  refine st_MI (fr := 0) (lo := 0) (by decide) ⟨rfl, rfl⟩ rfl (Nat.le_of_ble_eq_true rfl) rfl (fun X C hD ret => ?_)
  replace hD : ∀ u, DX X (wM T ad u) := fun u => hD _ (wM_D hI T u)
  have t61 : ∀ (R6 : Int32 → Int32 → Int32 → Int32 → Int32 → SM → Prop) (hR6 : ∀ (v1 : Int32) (v2 : Int32) (v3 : Int32) (v4 : Int32) (v5 : Int32) (u : SM), R6 v1 v2 v3 v4 v5 u → At X 6 (wM T ad u) 6 [(0, .ref (ad 0)), (1, .int v1), (2, .int v2), (3, .int v3), (4, .int v4), (5, .int v5)] []) (v1 : Int32) (v2 : Int32) (v3 : Int32) (v5 : Int32) (k0 : Int32) (k1 : Int32) (u : SM), qX9_hoursOf_61 R6 Q v1 v2 v3 v5 k0 k1 u → At X 6 (wM T ad u) 61 [(0, .ref (ad 0)), (1, .int v1), (2, .int v2), (3, .int v3), (5, .int v5)] [.int k0, .int k1] := by
    intro R6 hR6 v1 v2 v3 v5 k0 k1 u h
    unfold qX9_hoursOf_61 at h
    refine at_iadd C dX9_hoursOf_61 ?_
    refine at_topi (fun x1 ex1 => ?_)
    replace h := h x1 ex1
    refine at_istore (lv' := [(0, .ref (ad 0)), (1, .int v1), (2, .int v2), (3, .int v3), (4, .int x1), (5, .int v5)]) C dX9_hoursOf_62 (by decide) [1, 2, 3, 4, 0, 5] rfl ?_
    obtain ⟨x2, ex2⟩ : ∃ y : Int32, y = v5 + 1 := ⟨_, rfl⟩
    replace h := h x2 ex2
    refine at_iinc (v := x2) (lv' := [(0, .ref (ad 0)), (1, .int v1), (2, .int v2), (3, .int v3), (4, .int x1), (5, .int x2)]) C dX9_hoursOf_64 5 rfl (by rw [ex2]; rfl) (by decide) [1, 2, 3, 4, 5, 0] rfl ?_
    refine at_goto (tgt := 6) C dX9_hoursOf_67 (by decide) ?_
    exact hR6 _ _ _ _ _ _ h
  have t56 : ∀ (R6 : Int32 → Int32 → Int32 → Int32 → Int32 → SM → Prop) (hR6 : ∀ (v1 : Int32) (v2 : Int32) (v3 : Int32) (v4 : Int32) (v5 : Int32) (u : SM), R6 v1 v2 v3 v4 v5 u → At X 6 (wM T ad u) 6 [(0, .ref (ad 0)), (1, .int v1), (2, .int v2), (3, .int v3), (4, .int v4), (5, .int v5)] []) (v1 : Int32) (v2 : Int32) (v3 : Int32) (v5 : Int32) (k0 : Int32) (u : SM), qX9_hoursOf_56 R6 Q v1 v2 v3 v5 k0 u → At X 6 (wM T ad u) 56 [(0, .ref (ad 0)), (1, .int v1), (2, .int v2), (3, .int v3), (5, .int v5)] [.int k0] := by
    intro R6 hR6 v1 v2 v3 v5 k0 u h
    unfold qX9_hoursOf_56 at h
    refine at_iconst (v := 1) C dX9_hoursOf_56 (by decide) ?_
    refine at_goto (tgt := 61) C dX9_hoursOf_57 (by decide) ?_
    exact t61 R6 hR6 _ _ _ _ _ _ _ h
  have t60 : ∀ (R6 : Int32 → Int32 → Int32 → Int32 → Int32 → SM → Prop) (hR6 : ∀ (v1 : Int32) (v2 : Int32) (v3 : Int32) (v4 : Int32) (v5 : Int32) (u : SM), R6 v1 v2 v3 v4 v5 u → At X 6 (wM T ad u) 6 [(0, .ref (ad 0)), (1, .int v1), (2, .int v2), (3, .int v3), (4, .int v4), (5, .int v5)] []) (v1 : Int32) (v2 : Int32) (v3 : Int32) (v5 : Int32) (k0 : Int32) (u : SM), qX9_hoursOf_60 R6 Q v1 v2 v3 v5 k0 u → At X 6 (wM T ad u) 60 [(0, .ref (ad 0)), (1, .int v1), (2, .int v2), (3, .int v3), (5, .int v5)] [.int k0] := by
    intro R6 hR6 v1 v2 v3 v5 k0 u h
    unfold qX9_hoursOf_60 at h
    refine at_iconst (v := 0) C dX9_hoursOf_60 (by decide) ?_
    exact t61 R6 hR6 _ _ _ _ _ _ _ h
  have tb6 : ∀ (R6 : Int32 → Int32 → Int32 → Int32 → Int32 → SM → Prop) (hR6 : ∀ (v1 : Int32) (v2 : Int32) (v3 : Int32) (v4 : Int32) (v5 : Int32) (u : SM), R6 v1 v2 v3 v4 v5 u → At X 6 (wM T ad u) 6 [(0, .ref (ad 0)), (1, .int v1), (2, .int v2), (3, .int v3), (4, .int v4), (5, .int v5)] []) (v1 : Int32) (v2 : Int32) (v3 : Int32) (v4 : Int32) (v5 : Int32) (u : SM), qX9_hoursOf_6 R6 Q v1 v2 v3 v4 v5 u → At X 6 (wM T ad u) 6 [(0, .ref (ad 0)), (1, .int v1), (2, .int v2), (3, .int v3), (4, .int v4), (5, .int v5)] [] := by
    intro R6 hR6 v1 v2 v3 v4 v5 u h
    unfold qX9_hoursOf_6 at h
    refine at_iload C dX9_hoursOf_6 5 rfl ?_
    refine at_sipush (v := 300) C dX9_hoursOf_8 (by decide) ?_
    refine at_icmp_ge (tgt := 70) C dX9_hoursOf_11 (by decide) (fun hc => ?_) (fun hc => ?_)
    · replace h := h.1 hc
      refine at_iload C dX9_hoursOf_70 4 rfl ?_
      exact ret _ _ _ _ dX9_hoursOf_72 h
    · replace h := h.2 hc
      refine at_iload C dX9_hoursOf_14 4 rfl ?_
      refine at_aload_n C dX9_hoursOf_16 0 rfl ?_
      refine gM_X9_50 C dX9_hoursOf_17 ?_
      refine at_sipush (v := 300) C dX9_hoursOf_20 (by decide) ?_
      refine at_iload_n C dX9_hoursOf_23 1 rfl ?_
      refine at_imul C dX9_hoursOf_24 ?_
      refine at_iload C dX9_hoursOf_25 5 rfl ?_
      refine at_iadd C dX9_hoursOf_27 ?_
      obtain ⟨hi, h⟩ := h
      refine rM_11 C hi dX9_hoursOf_28 ?_
      refine at_iload_n C dX9_hoursOf_29 3 rfl ?_
      refine at_icmp_ne (tgt := 60) C dX9_hoursOf_30 (by decide) (fun hc => ?_) (fun hc => ?_)
      · replace h := h.1 hc
        refine at_sub [0, 1, 2, 3, 5] rfl ?_
        exact t60 R6 hR6 _ _ _ _ _ _ h
      · replace h := h.2 hc
        refine at_iload_n C dX9_hoursOf_33 2 rfl ?_
        refine at_if_lt (tgt := 56) C dX9_hoursOf_34 (by decide) (fun hc => ?_) (fun hc => ?_)
        · replace h := h.1 hc
          refine at_sub [0, 1, 2, 3, 5] rfl ?_
          exact t56 R6 hR6 _ _ _ _ _ _ h
        · replace h := h.2 hc
          refine at_aload_n C dX9_hoursOf_37 0 rfl ?_
          refine gM_X9_54 C dX9_hoursOf_38 ?_
          refine at_bipush (v := 30) C dX9_hoursOf_41 (by decide) ?_
          refine at_iload_n C dX9_hoursOf_43 1 rfl ?_
          refine at_imul C dX9_hoursOf_44 ?_
          refine at_iload C dX9_hoursOf_45 5 rfl ?_
          refine at_bipush (v := 10) C dX9_hoursOf_47 (by decide) ?_
          refine at_idiv C dX9_hoursOf_49 (by decide) ?_
          refine at_iadd C dX9_hoursOf_50 ?_
          obtain ⟨hi, h⟩ := h
          refine rM_12 C hi dX9_hoursOf_51 ?_
          refine at_iload_n C dX9_hoursOf_52 2 rfl ?_
          refine at_icmp_ne (tgt := 60) C dX9_hoursOf_53 (by decide) (fun hc => ?_) (fun hc => ?_)
          · replace h := h.1 hc
            refine at_sub [0, 1, 2, 3, 5] rfl ?_
            exact t60 R6 hR6 _ _ _ _ _ _ h
          · replace h := h.2 hc
            refine at_sub [0, 1, 2, 3, 5] rfl ?_
            exact t56 R6 hR6 _ _ _ _ _ _ h
  have t6 : ∀ (n : Nat) (v1 : Int32) (v2 : Int32) (v3 : Int32) (v4 : Int32) (v5 : Int32) (u : SM), qX9_hoursOf_l6  Q n v1 v2 v3 v4 v5 u → At X 6 (wM T ad u) 6 [(0, .ref (ad 0)), (1, .int v1), (2, .int v2), (3, .int v3), (4, .int v4), (5, .int v5)] [] := by
    intro  n
    induction n with
    | zero => intro v1 v2 v3 v4 v5 u h; exact False.elim h
    | succ n ih => intro v1 v2 v3 v4 v5 u h; exact tb6 (qX9_hoursOf_l6  Q n) ih v1 v2 v3 v4 v5 u h
  unfold pX9_hoursOf at h
  refine at_iconst (v := 0) C dX9_hoursOf_0 (by decide) ?_
  refine at_istore (lv' := [(0, .ref (ad 0)), (1, .int v1), (2, .int v2), (3, .int v3), (4, .int 0)]) C dX9_hoursOf_1 (by decide) [1, 2, 3, 4, 0] rfl ?_
  refine at_iconst (v := 0) C dX9_hoursOf_3 (by decide) ?_
  refine at_istore (lv' := [(0, .ref (ad 0)), (1, .int v1), (2, .int v2), (3, .int v3), (4, .int 0), (5, .int 0)]) C dX9_hoursOf_4 (by decide) [1, 2, 3, 4, 5, 0] rfl ?_
  obtain ⟨n, h⟩ := h
  exact t6  n _ _ _ _ _ _ h
theorem m_X9_186 : Cond.methodLink RX9 186 yX9_hoursOf ∈ gW := gW_in 977 (by decide +kernel) (by decide +kernel)
theorem mc_X9_hoursOf : Cond.code yX9_hoursOf cX9_hoursOf 6 (some .int) ∈ gW := gW_in 980 (by decide +kernel) (by decide +kernel)
theorem ok_X9_hoursOf : okM yX9_hoursOf cX9_hoursOf 6 (some .int) 3 := ⟨mc_X9_hoursOf, mz_RX9, by decide +kernel⟩
theorem mi_X9_hoursOf : Cond.instanceMethod yX9_hoursOf ∈ gW := gW_in 979 (by decide +kernel) (by decide +kernel)
theorem ml_X9_hoursOf : Cond.selects RX9 yX9_hoursOf yX9_hoursOf ∈ gW := gW_in 77 (by decide +kernel) (by decide +kernel)
theorem m_X9_93 : Cond.fieldLink RX9 93 RX9 "upOf" "[J" ∈ gW := gW_in 779 (by decide +kernel) (by decide +kernel)
theorem gM_X9_93 {X : XT} {l : Launch} {D : va_G} {ad : Nat → Nat} {T : TT} {cc : ByteArray} {nL fr lo : Nat} {u : SM} {pc : Nat} {lv : List (Nat × Value)} {st : List Value} (C : Cx X (KM l D ad T) cc RX9 nL fr lo) (d : decode cc pc = .ok (.getfield 93, 3)) (kk : At X nL (wM T ad u) (pc + 3) lv (.ref (ad 25) :: st)) : At X nL (wM T ad u) pc lv (.ref (ad 0) :: st) := at_get C ingX9 (ci := 9) rfl 0 (wM_g0 T ad u) 32 (by decide) m_X9_93 rfl rfl d kk
theorem m_X9_190 : Cond.constantLong RX9 190 (1000) ∈ gW := gW_in 985 (by decide +kernel) (by decide +kernel)
theorem m_X9_97 : Cond.fieldLink RX9 97 RX9 "downOf" "[J" ∈ gW := gW_in 780 (by decide +kernel) (by decide +kernel)
theorem gM_X9_97 {X : XT} {l : Launch} {D : va_G} {ad : Nat → Nat} {T : TT} {cc : ByteArray} {nL fr lo : Nat} {u : SM} {pc : Nat} {lv : List (Nat × Value)} {st : List Value} (C : Cx X (KM l D ad T) cc RX9 nL fr lo) (d : decode cc pc = .ok (.getfield 97, 3)) (kk : At X nL (wM T ad u) (pc + 3) lv (.ref (ad 26) :: st)) : At X nL (wM T ad u) pc lv (.ref (ad 0) :: st) := at_get C ingX9 (ci := 9) rfl 0 (wM_g0 T ad u) 33 (by decide) m_X9_97 rfl rfl d kk
def qX9_missed_116 (R21 : Int32 → Int64 → Int64 → Int32 → SM → Prop) (Q : Int64 → SM → Prop) (v1 : Int32) (v2 : Int64) (v4 : Int64) (v6 : Int32) (k0 : Int64) (k1 : Int32) (u : SM) : Prop := (vp_in k1 4 ∧ ∀ s19 : SM, s19 = (u.1, st_upL u.2 26 (Int32.toNatClampNeg k1) k0) → ∀ x20 : Int32, x20 = v6 + 1 → R21 v1 v2 v4 x20 s19)
def qX9_missed_83 (R21 : Int32 → Int64 → Int64 → Int32 → SM → Prop) (Q : Int64 → SM → Prop) (v1 : Int32) (v2 : Int64) (v4 : Int64) (v6 : Int32) (v7 : Int64) (k0 : Int64) (k1 : Int64) (k2 : Int32) (u : SM) : Prop := (vp_in k2 4 ∧ ∀ s15 : SM, s15 = (u.1, st_upL u.2 25 (Int32.toNatClampNeg k2) (k1 * k0)) → (((lg_cmp v7 0) ≤ 0 → (((lg_cmp v4 0) ≤ 0 → (qX9_missed_116 R21 Q v1 v2 v4 v6 1 v6 s15)) ∧ (¬ (lg_cmp v4 0) ≤ 0 → (qX9_missed_116 R21 Q v1 v2 v4 v6 v4 v6 s15)))) ∧ (¬ (lg_cmp v7 0) ≤ 0 → (qX9_missed_116 R21 Q v1 v2 v4 v6 v7 v6 s15))))
def qX9_missed_178 (R132 : Int64 → Int64 → Int32 → SM → Prop) (R150 : Int64 → Int64 → Int32 → Int64 → Int32 → SM → Prop) (Q : Int64 → SM → Prop) (v6 : Int64) (v8 : Int64) (v10 : Int32) (v13 : Int32) (k0 : Int64) (u : SM) : Prop := ∀ x21 : Int32, x21 = v13 + 1 → R150 v6 v8 v10 k0 x21 u
def qX9_missed_150 (R132 : Int64 → Int64 → Int32 → SM → Prop) (R150 : Int64 → Int64 → Int32 → Int64 → Int32 → SM → Prop) (Q : Int64 → SM → Prop) (v6 : Int64) (v8 : Int64) (v10 : Int32) (v11 : Int64) (v13 : Int32) (u : SM) : Prop := ((4 ≤ v13 → ∀ x16 : Int64, x16 = (v6 + v11) → (vp_in v10 4 ∧ ∀ x17 : Int64, x17 = (v8 * (u.2 26 (Int32.toNatClampNeg v10))) → ∀ x18 : Int32, x18 = v10 + 1 → R132 x16 x17 x18 u)) ∧ (¬ 4 ≤ v13 → ((¬ v13 = v10 → (vp_in v13 4 ∧ (qX9_missed_178 R132 R150 Q v6 v8 v10 v13 (v11 * (u.2 26 (Int32.toNatClampNeg v13))) u))) ∧ (v13 = v10 → (qX9_missed_178 R132 R150 Q v6 v8 v10 v13 v11 u)))))
def qX9_missed_l150 (R132 : Int64 → Int64 → Int32 → SM → Prop) (Q : Int64 → SM → Prop) : Nat → Int64 → Int64 → Int32 → Int64 → Int32 → SM → Prop
  | 0 => fun _ _ _ _ _ _ => False
  | n + 1 => qX9_missed_150 R132 (qX9_missed_l150 R132 Q n) Q
def qX9_missed_132 (R132 : Int64 → Int64 → Int32 → SM → Prop) (Q : Int64 → SM → Prop) (v6 : Int64) (v8 : Int64) (v10 : Int32) (u : SM) : Prop := ((4 ≤ v10 → (¬ v8 = 0 ∧ (Q ((v6 * 1000) / v8) u))) ∧ (¬ 4 ≤ v10 → (vp_in v10 4 ∧ ∀ x14 : Int64, x14 = (u.2 25 (Int32.toNatClampNeg v10)) → (∃ n, qX9_missed_l150 R132 Q n v6 v8 v10 x14 0 u))))
def qX9_missed_l132  (Q : Int64 → SM → Prop) : Nat → Int64 → Int64 → Int32 → SM → Prop
  | 0 => fun _ _ _ _ => False
  | n + 1 => qX9_missed_132 (qX9_missed_l132  Q n) Q
def qX9_missed_21 (R21 : Int32 → Int64 → Int64 → Int32 → SM → Prop) (Q : Int64 → SM → Prop) (v1 : Int32) (v2 : Int64) (v4 : Int64) (v6 : Int32) (u : SM) : Prop := ((4 ≤ v6 → (∃ n, qX9_missed_l132  Q n 0 1 0 u)) ∧ (¬ 4 ≤ v6 → (pX9_hoursOf v1 v6 0 u (fun r8 s7 => ∀ x9 : Int64, x9 = (Int32.toInt64 r8) → (pX9_hoursOf v1 v6 1 s7 (fun r11 s10 => (((lg_cmp x9 0) ≤ 0 → (((lg_cmp v4 0) ≤ 0 → (qX9_missed_83 R21 Q v1 v2 v4 v6 x9 0 (Int32.toInt64 r11) v6 s10)) ∧ (¬ (lg_cmp v4 0) ≤ 0 → (qX9_missed_83 R21 Q v1 v2 v4 v6 x9 v2 (Int32.toInt64 r11) v6 s10)))) ∧ (¬ (lg_cmp x9 0) ≤ 0 → (pX9_birdsOf v1 v6 s10 (fun r13 s12 => (qX9_missed_83 R21 Q v1 v2 v4 v6 x9 (Int32.toInt64 r13) (Int32.toInt64 r11) v6 s12)))))))))))
def qX9_missed_l21  (Q : Int64 → SM → Prop) : Nat → Int32 → Int64 → Int64 → Int32 → SM → Prop
  | 0 => fun _ _ _ _ _ => False
  | n + 1 => qX9_missed_21 (qX9_missed_l21  Q n) Q
def pX9_missed (v1 : Int32) (u : SM) (Q : Int64 → SM → Prop) : Prop := (pX9_birdsOf v1 (-1) u (fun r2 s1 => ∀ x3 : Int64, x3 = (Int32.toInt64 r2) → (pX9_hoursOf v1 (-1) 0 s1 (fun r5 s4 => ∀ x6 : Int64, x6 = (Int32.toInt64 r5) → (∃ n, qX9_missed_l21  Q n v1 x3 x6 0 s4)))))
set_option maxRecDepth 100000 in
set_option maxHeartbeats 4000000 in
theorem kX9_missed (l : Launch) (D : va_G) (ad : Nat → Nat) (T : TT) (hI : injA 27 ad) (v1 : Int32) (u : SM) (Q : Int64 → SM → Prop) (h : pX9_missed v1 u Q) : Kl (KM l D ad T) (wM T ad) yX9_missed cX9_missed 14 (some .long) { frames := 3, cells := 0, slots := 0, locals := 67 } [.ref (ad 0), .int v1] (wM T ad u) Q := by
  refine st_ML (fr := 3) (lo := 67) (by decide) ⟨rfl, rfl⟩ rfl (Nat.le_of_ble_eq_true rfl) rfl (fun X C hD ret => ?_)
  replace hD : ∀ u, DX X (wM T ad u) := fun u => hD _ (wM_D hI T u)
  have t116 : ∀ (R21 : Int32 → Int64 → Int64 → Int32 → SM → Prop) (hR21 : ∀ (v1 : Int32) (v2 : Int64) (v4 : Int64) (v6 : Int32) (u : SM), R21 v1 v2 v4 v6 u → At X 14 (wM T ad u) 21 [(0, .ref (ad 0)), (1, .int v1), (2, .long v2), (4, .long v4), (6, .int v6)] []) (v1 : Int32) (v2 : Int64) (v4 : Int64) (v6 : Int32) (k0 : Int64) (k1 : Int32) (u : SM), qX9_missed_116 R21 Q v1 v2 v4 v6 k0 k1 u → At X 14 (wM T ad u) 116 [(0, .ref (ad 0)), (1, .int v1), (2, .long v2), (4, .long v4), (6, .int v6)] [.long k0, .int k1, .ref (ad 26)] := by
    intro R21 hR21 v1 v2 v4 v6 k0 k1 u h
    unfold qX9_missed_116 at h
    obtain ⟨hi, h⟩ := h
    refine sM_26 C hD hi dX9_missed_116 (fun s19 es19 => ?_)
    replace h := h s19 es19
    obtain ⟨x20, ex20⟩ : ∃ y : Int32, y = v6 + 1 := ⟨_, rfl⟩
    replace h := h x20 ex20
    refine at_iinc (v := x20) (lv' := [(0, .ref (ad 0)), (1, .int v1), (2, .long v2), (4, .long v4), (6, .int x20)]) C dX9_missed_117 4 rfl (by rw [ex20]; rfl) (by decide) [1, 2, 3, 4, 0] rfl ?_
    refine at_goto (tgt := 21) C dX9_missed_120 (by decide) ?_
    exact hR21 _ _ _ _ _ h
  have t83 : ∀ (R21 : Int32 → Int64 → Int64 → Int32 → SM → Prop) (hR21 : ∀ (v1 : Int32) (v2 : Int64) (v4 : Int64) (v6 : Int32) (u : SM), R21 v1 v2 v4 v6 u → At X 14 (wM T ad u) 21 [(0, .ref (ad 0)), (1, .int v1), (2, .long v2), (4, .long v4), (6, .int v6)] []) (v1 : Int32) (v2 : Int64) (v4 : Int64) (v6 : Int32) (v7 : Int64) (k0 : Int64) (k1 : Int64) (k2 : Int32) (u : SM), qX9_missed_83 R21 Q v1 v2 v4 v6 v7 k0 k1 k2 u → At X 14 (wM T ad u) 83 [(0, .ref (ad 0)), (1, .int v1), (2, .long v2), (4, .long v4), (6, .int v6), (7, .long v7)] [.long k0, .long k1, .int k2, .ref (ad 25)] := by
    intro R21 hR21 v1 v2 v4 v6 v7 k0 k1 k2 u h
    unfold qX9_missed_83 at h
    refine at_lmul C dX9_missed_83 ?_
    obtain ⟨hi, h⟩ := h
    refine sM_25 C hD hi dX9_missed_84 (fun s15 es15 => ?_)
    replace h := h s15 es15
    refine at_aload_n C dX9_missed_85 0 rfl ?_
    refine gM_X9_97 C dX9_missed_86 ?_
    refine at_iload C dX9_missed_89 4 rfl ?_
    refine at_lload C dX9_missed_91 5 rfl ?_
    refine at_lconst (v := 0) C dX9_missed_93 (by decide) ?_
    refine at_lcmp C dX9_missed_94 ?_
    refine at_if_le (tgt := 103) C dX9_missed_95 (by decide) (fun hc => ?_) (fun hc => ?_)
    · replace h := h.1 hc
      refine at_lload C dX9_missed_103 3 rfl ?_
      refine at_lconst (v := 0) C dX9_missed_105 (by decide) ?_
      refine at_lcmp C dX9_missed_106 ?_
      refine at_if_le (tgt := 115) C dX9_missed_107 (by decide) (fun hc => ?_) (fun hc => ?_)
      · replace h := h.1 hc
        refine at_lconst (v := 1) C dX9_missed_115 (by decide) ?_
        refine at_sub [0, 1, 2, 3, 4] rfl ?_
        exact t116 R21 hR21 _ _ _ _ _ _ _ h
      · replace h := h.2 hc
        refine at_lload C dX9_missed_110 3 rfl ?_
        refine at_goto (tgt := 116) C dX9_missed_112 (by decide) ?_
        refine at_sub [0, 1, 2, 3, 4] rfl ?_
        exact t116 R21 hR21 _ _ _ _ _ _ _ h
    · replace h := h.2 hc
      refine at_lload C dX9_missed_98 5 rfl ?_
      refine at_goto (tgt := 116) C dX9_missed_100 (by decide) ?_
      refine at_sub [0, 1, 2, 3, 4] rfl ?_
      exact t116 R21 hR21 _ _ _ _ _ _ _ h
  have t178 : ∀ (R132 : Int64 → Int64 → Int32 → SM → Prop) (hR132 : ∀ (v6 : Int64) (v8 : Int64) (v10 : Int32) (u : SM), R132 v6 v8 v10 u → At X 14 (wM T ad u) 132 [(0, .ref (ad 0)), (6, .long v6), (8, .long v8), (10, .int v10)] []) (R150 : Int64 → Int64 → Int32 → Int64 → Int32 → SM → Prop) (hR150 : ∀ (v6 : Int64) (v8 : Int64) (v10 : Int32) (v11 : Int64) (v13 : Int32) (u : SM), R150 v6 v8 v10 v11 v13 u → At X 14 (wM T ad u) 150 [(0, .ref (ad 0)), (6, .long v6), (8, .long v8), (10, .int v10), (11, .long v11), (13, .int v13)] []) (v6 : Int64) (v8 : Int64) (v10 : Int32) (v13 : Int32) (k0 : Int64) (u : SM), qX9_missed_178 R132 R150 Q v6 v8 v10 v13 k0 u → At X 14 (wM T ad u) 178 [(0, .ref (ad 0)), (6, .long v6), (8, .long v8), (10, .int v10), (13, .int v13)] [.long k0] := by
    intro R132 hR132 R150 hR150 v6 v8 v10 v13 k0 u h
    unfold qX9_missed_178 at h
    refine at_lstore (lv' := [(0, .ref (ad 0)), (6, .long v6), (8, .long v8), (10, .int v10), (11, .long k0), (13, .int v13)]) C dX9_missed_178 (by decide) [1, 2, 3, 4, 0, 5] rfl ?_
    obtain ⟨x21, ex21⟩ : ∃ y : Int32, y = v13 + 1 := ⟨_, rfl⟩
    replace h := h x21 ex21
    refine at_iinc (v := x21) (lv' := [(0, .ref (ad 0)), (6, .long v6), (8, .long v8), (10, .int v10), (11, .long k0), (13, .int x21)]) C dX9_missed_180 5 rfl (by rw [ex21]; rfl) (by decide) [1, 2, 3, 4, 5, 0] rfl ?_
    refine at_goto (tgt := 150) C dX9_missed_183 (by decide) ?_
    exact hR150 _ _ _ _ _ _ h
  have tb150 : ∀ (R132 : Int64 → Int64 → Int32 → SM → Prop) (hR132 : ∀ (v6 : Int64) (v8 : Int64) (v10 : Int32) (u : SM), R132 v6 v8 v10 u → At X 14 (wM T ad u) 132 [(0, .ref (ad 0)), (6, .long v6), (8, .long v8), (10, .int v10)] []) (R150 : Int64 → Int64 → Int32 → Int64 → Int32 → SM → Prop) (hR150 : ∀ (v6 : Int64) (v8 : Int64) (v10 : Int32) (v11 : Int64) (v13 : Int32) (u : SM), R150 v6 v8 v10 v11 v13 u → At X 14 (wM T ad u) 150 [(0, .ref (ad 0)), (6, .long v6), (8, .long v8), (10, .int v10), (11, .long v11), (13, .int v13)] []) (v6 : Int64) (v8 : Int64) (v10 : Int32) (v11 : Int64) (v13 : Int32) (u : SM), qX9_missed_150 R132 R150 Q v6 v8 v10 v11 v13 u → At X 14 (wM T ad u) 150 [(0, .ref (ad 0)), (6, .long v6), (8, .long v8), (10, .int v10), (11, .long v11), (13, .int v13)] [] := by
    intro R132 hR132 R150 hR150 v6 v8 v10 v11 v13 u h
    unfold qX9_missed_150 at h
    refine at_iload C dX9_missed_150 5 rfl ?_
    refine at_iconst (v := 4) C dX9_missed_152 (by decide) ?_
    refine at_icmp_ge (tgt := 186) C dX9_missed_153 (by decide) (fun hc => ?_) (fun hc => ?_)
    · replace h := h.1 hc
      refine at_lload C dX9_missed_186 1 rfl ?_
      refine at_lload C dX9_missed_188 4 rfl ?_
      refine at_ladd C dX9_missed_190 ?_
      refine at_topl (fun x16 ex16 => ?_)
      replace h := h x16 ex16
      refine at_lstore (lv' := [(0, .ref (ad 0)), (6, .long x16), (8, .long v8), (10, .int v10), (11, .long v11), (13, .int v13)]) C dX9_missed_191 (by decide) [1, 0, 2, 3, 4, 5] rfl ?_
      refine at_lload C dX9_missed_193 2 rfl ?_
      refine at_aload_n C dX9_missed_195 0 rfl ?_
      refine gM_X9_97 C dX9_missed_196 ?_
      refine at_iload C dX9_missed_199 3 rfl ?_
      obtain ⟨hi, h⟩ := h
      refine rM_26 C hi dX9_missed_201 ?_
      refine at_lmul C dX9_missed_202 ?_
      refine at_topl (fun x17 ex17 => ?_)
      replace h := h x17 ex17
      refine at_lstore (lv' := [(0, .ref (ad 0)), (6, .long x16), (8, .long x17), (10, .int v10), (11, .long v11), (13, .int v13)]) C dX9_missed_203 (by decide) [1, 2, 0, 3, 4, 5] rfl ?_
      obtain ⟨x18, ex18⟩ : ∃ y : Int32, y = v10 + 1 := ⟨_, rfl⟩
      replace h := h x18 ex18
      refine at_iinc (v := x18) (lv' := [(0, .ref (ad 0)), (6, .long x16), (8, .long x17), (10, .int x18), (11, .long v11), (13, .int v13)]) C dX9_missed_205 3 rfl (by rw [ex18]; rfl) (by decide) [1, 2, 3, 0, 4, 5] rfl ?_
      refine at_goto (tgt := 132) C dX9_missed_208 (by decide) ?_
      refine at_sub [0, 1, 2, 3] rfl ?_
      exact hR132 _ _ _ _ h
    · replace h := h.2 hc
      refine at_iload C dX9_missed_156 5 rfl ?_
      refine at_iload C dX9_missed_158 3 rfl ?_
      refine at_icmp_ne (tgt := 168) C dX9_missed_160 (by decide) (fun hc => ?_) (fun hc => ?_)
      · replace h := h.1 hc
        refine at_lload C dX9_missed_168 4 rfl ?_
        refine at_aload_n C dX9_missed_170 0 rfl ?_
        refine gM_X9_97 C dX9_missed_171 ?_
        refine at_iload C dX9_missed_174 5 rfl ?_
        obtain ⟨hi, h⟩ := h
        refine rM_26 C hi dX9_missed_176 ?_
        refine at_lmul C dX9_missed_177 ?_
        refine at_sub [0, 1, 2, 3, 5] rfl ?_
        exact t178 R132 hR132 R150 hR150 _ _ _ _ _ _ h
      · replace h := h.2 hc
        refine at_lload C dX9_missed_163 4 rfl ?_
        refine at_goto (tgt := 178) C dX9_missed_165 (by decide) ?_
        refine at_sub [0, 1, 2, 3, 5] rfl ?_
        exact t178 R132 hR132 R150 hR150 _ _ _ _ _ _ h
  have t150 : ∀ (R132 : Int64 → Int64 → Int32 → SM → Prop) (hR132 : ∀ (v6 : Int64) (v8 : Int64) (v10 : Int32) (u : SM), R132 v6 v8 v10 u → At X 14 (wM T ad u) 132 [(0, .ref (ad 0)), (6, .long v6), (8, .long v8), (10, .int v10)] []) (n : Nat) (v6 : Int64) (v8 : Int64) (v10 : Int32) (v11 : Int64) (v13 : Int32) (u : SM), qX9_missed_l150 R132 Q n v6 v8 v10 v11 v13 u → At X 14 (wM T ad u) 150 [(0, .ref (ad 0)), (6, .long v6), (8, .long v8), (10, .int v10), (11, .long v11), (13, .int v13)] [] := by
    intro R132 hR132 n
    induction n with
    | zero => intro v6 v8 v10 v11 v13 u h; exact False.elim h
    | succ n ih => intro v6 v8 v10 v11 v13 u h; exact tb150 R132 hR132 (qX9_missed_l150 R132 Q n) ih v6 v8 v10 v11 v13 u h
  have tb132 : ∀ (R132 : Int64 → Int64 → Int32 → SM → Prop) (hR132 : ∀ (v6 : Int64) (v8 : Int64) (v10 : Int32) (u : SM), R132 v6 v8 v10 u → At X 14 (wM T ad u) 132 [(0, .ref (ad 0)), (6, .long v6), (8, .long v8), (10, .int v10)] []) (v6 : Int64) (v8 : Int64) (v10 : Int32) (u : SM), qX9_missed_132 R132 Q v6 v8 v10 u → At X 14 (wM T ad u) 132 [(0, .ref (ad 0)), (6, .long v6), (8, .long v8), (10, .int v10)] [] := by
    intro R132 hR132 v6 v8 v10 u h
    unfold qX9_missed_132 at h
    refine at_iload C dX9_missed_132 3 rfl ?_
    refine at_iconst (v := 4) C dX9_missed_134 (by decide) ?_
    refine at_icmp_ge (tgt := 211) C dX9_missed_135 (by decide) (fun hc => ?_) (fun hc => ?_)
    · replace h := h.1 hc
      refine at_lload C dX9_missed_211 1 rfl ?_
      refine at_ldc2 (v := 1000) C m_X9_190 dX9_missed_213 ?_
      refine at_lmul C dX9_missed_216 ?_
      refine at_lload C dX9_missed_217 2 rfl ?_
      obtain ⟨hz, h⟩ := h
      refine at_ldiv C dX9_missed_219 hz ?_
      exact ret _ _ _ _ dX9_missed_220 h
    · replace h := h.2 hc
      refine at_aload_n C dX9_missed_138 0 rfl ?_
      refine gM_X9_93 C dX9_missed_139 ?_
      refine at_iload C dX9_missed_142 3 rfl ?_
      obtain ⟨hi, h⟩ := h
      refine rM_25 C hi dX9_missed_144 ?_
      refine at_topl (fun x14 ex14 => ?_)
      replace h := h x14 ex14
      refine at_lstore (lv' := [(0, .ref (ad 0)), (6, .long v6), (8, .long v8), (10, .int v10), (11, .long x14)]) C dX9_missed_145 (by decide) [1, 2, 3, 4, 0] rfl ?_
      refine at_iconst (v := 0) C dX9_missed_147 (by decide) ?_
      refine at_istore (lv' := [(0, .ref (ad 0)), (6, .long v6), (8, .long v8), (10, .int v10), (11, .long x14), (13, .int 0)]) C dX9_missed_148 (by decide) [1, 2, 3, 4, 5, 0] rfl ?_
      obtain ⟨n, h⟩ := h
      exact t150 R132 hR132 n _ _ _ _ _ _ h
  have t132 : ∀ (n : Nat) (v6 : Int64) (v8 : Int64) (v10 : Int32) (u : SM), qX9_missed_l132  Q n v6 v8 v10 u → At X 14 (wM T ad u) 132 [(0, .ref (ad 0)), (6, .long v6), (8, .long v8), (10, .int v10)] [] := by
    intro  n
    induction n with
    | zero => intro v6 v8 v10 u h; exact False.elim h
    | succ n ih => intro v6 v8 v10 u h; exact tb132 (qX9_missed_l132  Q n) ih v6 v8 v10 u h
  have tb21 : ∀ (R21 : Int32 → Int64 → Int64 → Int32 → SM → Prop) (hR21 : ∀ (v1 : Int32) (v2 : Int64) (v4 : Int64) (v6 : Int32) (u : SM), R21 v1 v2 v4 v6 u → At X 14 (wM T ad u) 21 [(0, .ref (ad 0)), (1, .int v1), (2, .long v2), (4, .long v4), (6, .int v6)] []) (v1 : Int32) (v2 : Int64) (v4 : Int64) (v6 : Int32) (u : SM), qX9_missed_21 R21 Q v1 v2 v4 v6 u → At X 14 (wM T ad u) 21 [(0, .ref (ad 0)), (1, .int v1), (2, .long v2), (4, .long v4), (6, .int v6)] [] := by
    intro R21 hR21 v1 v2 v4 v6 u h
    unfold qX9_missed_21 at h
    refine at_iload C dX9_missed_21 4 rfl ?_
    refine at_iconst (v := 4) C dX9_missed_23 (by decide) ?_
    refine at_icmp_ge (tgt := 123) C dX9_missed_24 (by decide) (fun hc => ?_) (fun hc => ?_)
    · replace h := h.1 hc
      refine at_lconst (v := 0) C dX9_missed_123 (by decide) ?_
      refine at_lstore (lv' := [(0, .ref (ad 0)), (1, .int v1), (2, .long v2), (4, .long v4), (6, .long 0)]) C dX9_missed_124 (by decide) [1, 2, 3, 4, 0] rfl ?_
      refine at_lconst (v := 1) C dX9_missed_126 (by decide) ?_
      refine at_lstore (lv' := [(0, .ref (ad 0)), (1, .int v1), (2, .long v2), (4, .long v4), (6, .long 0), (8, .long 1)]) C dX9_missed_127 (by decide) [1, 2, 3, 4, 5, 0] rfl ?_
      refine at_iconst (v := 0) C dX9_missed_129 (by decide) ?_
      refine at_istore (lv' := [(0, .ref (ad 0)), (1, .int v1), (2, .long v2), (4, .long v4), (6, .long 0), (8, .long 1), (10, .int 0)]) C dX9_missed_130 (by decide) [1, 2, 3, 4, 5, 6, 0] rfl ?_
      refine at_sub [0, 4, 5, 6] rfl ?_
      obtain ⟨n, h⟩ := h
      exact t132  n _ _ _ _ h
    · replace h := h.2 hc
      refine at_aload_n C dX9_missed_27 0 rfl ?_
      refine at_iload_n C dX9_missed_28 1 rfl ?_
      refine at_iload C dX9_missed_29 4 rfl ?_
      refine at_iconst (v := 0) C dX9_missed_31 (by decide) ?_
      refine at_callVi C (kX9_hoursOf l D ad T hI _ _ _ _ _ h) ok_X9_hoursOf m_X9_186 mi_X9_hoursOf ml_X9_hoursOf (wM_g0 T ad _) rfl ⟨rfl, rfl, Nat.le_of_ble_eq_true rfl, Nat.le_of_ble_eq_true rfl⟩ rfl rfl (Nat.le_of_ble_eq_true rfl) dX9_missed_32 (fun r8 s7 h => ?_)
      refine at_i2l C dX9_missed_35 ?_
      refine at_topl (fun x9 ex9 => ?_)
      replace h := h x9 ex9
      refine at_lstore (lv' := [(0, .ref (ad 0)), (1, .int v1), (2, .long v2), (4, .long v4), (6, .int v6), (7, .long x9)]) C dX9_missed_36 (by decide) [1, 2, 3, 4, 5, 0] rfl ?_
      refine at_aload_n C dX9_missed_38 0 rfl ?_
      refine gM_X9_93 C dX9_missed_39 ?_
      refine at_iload C dX9_missed_42 4 rfl ?_
      refine at_aload_n C dX9_missed_44 0 rfl ?_
      refine at_iload_n C dX9_missed_45 1 rfl ?_
      refine at_iload C dX9_missed_46 4 rfl ?_
      refine at_iconst (v := 1) C dX9_missed_48 (by decide) ?_
      refine at_callVi C (kX9_hoursOf l D ad T hI _ _ _ _ _ h) ok_X9_hoursOf m_X9_186 mi_X9_hoursOf ml_X9_hoursOf (wM_g0 T ad _) rfl ⟨rfl, rfl, Nat.le_of_ble_eq_true rfl, Nat.le_of_ble_eq_true rfl⟩ rfl rfl (Nat.le_of_ble_eq_true rfl) dX9_missed_49 (fun r11 s10 h => ?_)
      refine at_i2l C dX9_missed_52 ?_
      refine at_lload C dX9_missed_53 5 rfl ?_
      refine at_lconst (v := 0) C dX9_missed_55 (by decide) ?_
      refine at_lcmp C dX9_missed_56 ?_
      refine at_if_le (tgt := 71) C dX9_missed_57 (by decide) (fun hc => ?_) (fun hc => ?_)
      · replace h := h.1 hc
        refine at_lload C dX9_missed_71 3 rfl ?_
        refine at_lconst (v := 0) C dX9_missed_73 (by decide) ?_
        refine at_lcmp C dX9_missed_74 ?_
        refine at_if_le (tgt := 82) C dX9_missed_75 (by decide) (fun hc => ?_) (fun hc => ?_)
        · replace h := h.1 hc
          refine at_lconst (v := 0) C dX9_missed_82 (by decide) ?_
          exact t83 R21 hR21 _ _ _ _ _ _ _ _ _ h
        · replace h := h.2 hc
          refine at_lload_n C dX9_missed_78 2 rfl ?_
          refine at_goto (tgt := 83) C dX9_missed_79 (by decide) ?_
          exact t83 R21 hR21 _ _ _ _ _ _ _ _ _ h
      · replace h := h.2 hc
        refine at_aload_n C dX9_missed_60 0 rfl ?_
        refine at_iload_n C dX9_missed_61 1 rfl ?_
        refine at_iload C dX9_missed_62 4 rfl ?_
        refine at_callVi C (kX9_birdsOf l D ad T hI _ _ _ _ h) ok_X9_birdsOf m_X9_183 mi_X9_birdsOf ml_X9_birdsOf (wM_g0 T ad _) rfl ⟨rfl, rfl, Nat.le_of_ble_eq_true rfl, Nat.le_of_ble_eq_true rfl⟩ rfl rfl (Nat.le_of_ble_eq_true rfl) dX9_missed_64 (fun r13 s12 h => ?_)
        refine at_i2l C dX9_missed_67 ?_
        refine at_goto (tgt := 83) C dX9_missed_68 (by decide) ?_
        exact t83 R21 hR21 _ _ _ _ _ _ _ _ _ h
  have t21 : ∀ (n : Nat) (v1 : Int32) (v2 : Int64) (v4 : Int64) (v6 : Int32) (u : SM), qX9_missed_l21  Q n v1 v2 v4 v6 u → At X 14 (wM T ad u) 21 [(0, .ref (ad 0)), (1, .int v1), (2, .long v2), (4, .long v4), (6, .int v6)] [] := by
    intro  n
    induction n with
    | zero => intro v1 v2 v4 v6 u h; exact False.elim h
    | succ n ih => intro v1 v2 v4 v6 u h; exact tb21 (qX9_missed_l21  Q n) ih v1 v2 v4 v6 u h
  unfold pX9_missed at h
  refine at_aload_n C dX9_missed_0 0 rfl ?_
  refine at_iload_n C dX9_missed_1 1 rfl ?_
  refine at_iconst (v := (-1)) C dX9_missed_2 (by decide) ?_
  refine at_callVi C (kX9_birdsOf l D ad T hI _ _ _ _ h) ok_X9_birdsOf m_X9_183 mi_X9_birdsOf ml_X9_birdsOf (wM_g0 T ad _) rfl ⟨rfl, rfl, Nat.le_of_ble_eq_true rfl, Nat.le_of_ble_eq_true rfl⟩ rfl rfl (Nat.le_of_ble_eq_true rfl) dX9_missed_3 (fun r2 s1 h => ?_)
  refine at_i2l C dX9_missed_6 ?_
  refine at_topl (fun x3 ex3 => ?_)
  replace h := h x3 ex3
  refine at_lstore_n (lv' := [(0, .ref (ad 0)), (1, .int v1), (2, .long x3)]) C dX9_missed_7 (by decide) [1, 2, 0] rfl ?_
  refine at_aload_n C dX9_missed_8 0 rfl ?_
  refine at_iload_n C dX9_missed_9 1 rfl ?_
  refine at_iconst (v := (-1)) C dX9_missed_10 (by decide) ?_
  refine at_iconst (v := 0) C dX9_missed_11 (by decide) ?_
  refine at_callVi C (kX9_hoursOf l D ad T hI _ _ _ _ _ h) ok_X9_hoursOf m_X9_186 mi_X9_hoursOf ml_X9_hoursOf (wM_g0 T ad _) rfl ⟨rfl, rfl, Nat.le_of_ble_eq_true rfl, Nat.le_of_ble_eq_true rfl⟩ rfl rfl (Nat.le_of_ble_eq_true rfl) dX9_missed_12 (fun r5 s4 h => ?_)
  refine at_i2l C dX9_missed_15 ?_
  refine at_topl (fun x6 ex6 => ?_)
  replace h := h x6 ex6
  refine at_lstore (lv' := [(0, .ref (ad 0)), (1, .int v1), (2, .long x3), (4, .long x6)]) C dX9_missed_16 (by decide) [1, 2, 3, 0] rfl ?_
  refine at_iconst (v := 0) C dX9_missed_18 (by decide) ?_
  refine at_istore (lv' := [(0, .ref (ad 0)), (1, .int v1), (2, .long x3), (4, .long x6), (6, .int 0)]) C dX9_missed_19 (by decide) [1, 2, 3, 4, 0] rfl ?_
  obtain ⟨n, h⟩ := h
  exact t21  n _ _ _ _ _ h
theorem m_X9_192 : Cond.methodLink RX9 192 yX9_missed ∈ gW := gW_in 981 (by decide +kernel) (by decide +kernel)
theorem mc_X9_missed : Cond.code yX9_missed cX9_missed 14 (some .long) ∈ gW := gW_in 984 (by decide +kernel) (by decide +kernel)
theorem ok_X9_missed : okM yX9_missed cX9_missed 14 (some .long) 1 := ⟨mc_X9_missed, mz_RX9, by decide +kernel⟩
theorem mi_X9_missed : Cond.instanceMethod yX9_missed ∈ gW := gW_in 983 (by decide +kernel) (by decide +kernel)
theorem ml_X9_missed : Cond.selects RX9 yX9_missed yX9_missed ∈ gW := gW_in 78 (by decide +kernel) (by decide +kernel)
def pX9_total (v1 : Int32) (u : SM) (Q : Int64 → SM → Prop) : Prop := (pX9_pairsOf v1 u (fun s1 => (pX9_birdsOf v1 (-1) s1 (fun r4 s3 => (pX9_missed v1 s3 (fun r6 s5 => (Q ((1000 * (Int32.toInt64 r4)) + r6) s5)))))))
set_option maxRecDepth 100000 in
set_option maxHeartbeats 4000000 in
theorem kX9_total (l : Launch) (D : va_G) (ad : Nat → Nat) (T : TT) (hI : injA 27 ad) (v1 : Int32) (u : SM) (Q : Int64 → SM → Prop) (h : pX9_total v1 u Q) : Kl (KM l D ad T) (wM T ad) yX9_total cX9_total 2 (some .long) { frames := 18, cells := 0, slots := 0, locals := 403 } [.ref (ad 0), .int v1] (wM T ad u) Q := by
  refine st_ML (fr := 18) (lo := 403) (by decide) ⟨rfl, rfl⟩ rfl (Nat.le_of_ble_eq_true rfl) rfl (fun X C hD ret => ?_)
  replace hD : ∀ u, DX X (wM T ad u) := fun u => hD _ (wM_D hI T u)
  unfold pX9_total at h
  refine at_aload_n C dX9_total_0 0 rfl ?_
  refine at_iload_n C dX9_total_1 1 rfl ?_
  refine at_callVv C (kX9_pairsOf l D ad T hI _ _ _ h) ok_X9_pairsOf m_X9_154 mi_X9_pairsOf ml_X9_pairsOf (wM_g0 T ad _) rfl ⟨rfl, rfl, Nat.le_of_ble_eq_true rfl, Nat.le_of_ble_eq_true rfl⟩ rfl rfl (Nat.le_of_ble_eq_true rfl) dX9_total_2 (fun s1 h => ?_)
  refine at_ldc2 (v := 1000) C m_X9_190 dX9_total_5 ?_
  refine at_aload_n C dX9_total_8 0 rfl ?_
  refine at_iload_n C dX9_total_9 1 rfl ?_
  refine at_iconst (v := (-1)) C dX9_total_10 (by decide) ?_
  refine at_callVi C (kX9_birdsOf l D ad T hI _ _ _ _ h) ok_X9_birdsOf m_X9_183 mi_X9_birdsOf ml_X9_birdsOf (wM_g0 T ad _) rfl ⟨rfl, rfl, Nat.le_of_ble_eq_true rfl, Nat.le_of_ble_eq_true rfl⟩ rfl rfl (Nat.le_of_ble_eq_true rfl) dX9_total_11 (fun r4 s3 h => ?_)
  refine at_i2l C dX9_total_14 ?_
  refine at_lmul C dX9_total_15 ?_
  refine at_aload_n C dX9_total_16 0 rfl ?_
  refine at_iload_n C dX9_total_17 1 rfl ?_
  refine at_callVl C (kX9_missed l D ad T hI _ _ _ h) ok_X9_missed m_X9_192 mi_X9_missed ml_X9_missed (wM_g0 T ad _) rfl ⟨rfl, rfl, Nat.le_of_ble_eq_true rfl, Nat.le_of_ble_eq_true rfl⟩ rfl rfl (Nat.le_of_ble_eq_true rfl) dX9_total_18 (fun r6 s5 h => ?_)
  refine at_ladd C dX9_total_21 ?_
  exact ret _ _ _ _ dX9_total_22 h
theorem m_X9_196 : Cond.methodLink RX9 196 yX9_total ∈ gW := gW_in 986 (by decide +kernel) (by decide +kernel)
theorem mc_X9_total : Cond.code yX9_total cX9_total 2 (some .long) ∈ gW := gW_in 989 (by decide +kernel) (by decide +kernel)
theorem ok_X9_total : okM yX9_total cX9_total 2 (some .long) 1 := ⟨mc_X9_total, mz_RX9, by decide +kernel⟩
theorem mi_X9_total : Cond.instanceMethod yX9_total ∈ gW := gW_in 988 (by decide +kernel) (by decide +kernel)
theorem ml_X9_total : Cond.selects RX9 yX9_total yX9_total ∈ gW := gW_in 79 (by decide +kernel) (by decide +kernel)
def qX9_year_102 (R36 : Int32 → Int32 → Int32 → Int32 → SM → Prop) (Q : Int32 → SM → Prop) (v1 : Int32) (v2 : Int32) (v4 : Int32) (k0 : Int32) (k1 : Int32) (u : SM) : Prop := ∀ x14 : Int32, x14 = (k1 + k0) → ∀ x15 : Int32, x15 = v4 + 1 → R36 v1 v2 x14 x15 u
def qX9_year_97 (R36 : Int32 → Int32 → Int32 → Int32 → SM → Prop) (Q : Int32 → SM → Prop) (v1 : Int32) (v2 : Int32) (v4 : Int32) (k0 : Int32) (u : SM) : Prop := (qX9_year_102 R36 Q v1 v2 v4 1 k0 u)
def qX9_year_101 (R36 : Int32 → Int32 → Int32 → Int32 → SM → Prop) (Q : Int32 → SM → Prop) (v1 : Int32) (v2 : Int32) (v4 : Int32) (k0 : Int32) (u : SM) : Prop := (qX9_year_102 R36 Q v1 v2 v4 0 k0 u)
def qX9_year_70 (R36 : Int32 → Int32 → Int32 → Int32 → SM → Prop) (Q : Int32 → SM → Prop) (v1 : Int32) (v2 : Int32) (v3 : Int32) (v4 : Int32) (k0 : Int32) (u : SM) : Prop := ((k0 = 0 → (qX9_year_101 R36 Q v1 v2 v4 v3 u)) ∧ (¬ k0 = 0 → ((v2 = 0 → (qX9_year_97 R36 Q v1 v2 v4 v3 u)) ∧ (¬ v2 = 0 → ((¬ v2 = 1 → (qX9_year_101 R36 Q v1 v2 v4 v3 u)) ∧ (v2 = 1 → (vp_in v4 300 ∧ (((u.1 13 (Int32.toNatClampNeg v4)) < 0 → (qX9_year_101 R36 Q v1 v2 v4 v3 u)) ∧ (¬ (u.1 13 (Int32.toNatClampNeg v4)) < 0 → (qX9_year_97 R36 Q v1 v2 v4 v3 u))))))))))
def qX9_year_69 (R36 : Int32 → Int32 → Int32 → Int32 → SM → Prop) (Q : Int32 → SM → Prop) (v1 : Int32) (v2 : Int32) (v3 : Int32) (v4 : Int32) (u : SM) : Prop := (qX9_year_70 R36 Q v1 v2 v3 v4 0 u)
def qX9_year_36 (R36 : Int32 → Int32 → Int32 → Int32 → SM → Prop) (Q : Int32 → SM → Prop) (v1 : Int32) (v2 : Int32) (v3 : Int32) (v4 : Int32) (u : SM) : Prop := (((u.1 0 9) ≤ v4 → ((v2 = 0 → (Q v3 u)) ∧ (¬ v2 = 0 → ((v2 = 1 → (Q v3 u)) ∧ (¬ v2 = 1 → ((v2 = 2 → (pX9_birdsOf v1 (-1) u (fun r5 s4 => (Q r5 s4)))) ∧ (¬ v2 = 2 → ((v2 = 3 → (pX9_hoursOf v1 (-1) 1 u (fun r7 s6 => (Q r7 s6)))) ∧ (¬ v2 = 3 → ((v2 = 4 → (pX9_missed v1 u (fun r9 s8 => (Q (Int64.toInt32 r9) s8)))) ∧ (¬ v2 = 4 → (pX9_total v1 u (fun r11 s10 => (Q (Int64.toInt32 r11) s10)))))))))))))) ∧ (¬ (u.1 0 9) ≤ v4 → (pX9_isKnown v4 u (fun r13 s12 => ((r13 = 0 → (qX9_year_69 R36 Q v1 v2 v3 v4 s12)) ∧ (¬ r13 = 0 → (vp_in v4 300 ∧ ((¬ (s12.1 5 (Int32.toNatClampNeg v4)) = v1 → (qX9_year_69 R36 Q v1 v2 v3 v4 s12)) ∧ ((s12.1 5 (Int32.toNatClampNeg v4)) = v1 → (qX9_year_70 R36 Q v1 v2 v3 v4 1 s12))))))))))
def qX9_year_l36  (Q : Int32 → SM → Prop) : Nat → Int32 → Int32 → Int32 → Int32 → SM → Prop
  | 0 => fun _ _ _ _ _ => False
  | n + 1 => qX9_year_36 (qX9_year_l36  Q n) Q
def pX9_year (v1 : Int32) (v2 : Int32) (u : SM) (Q : Int32 → SM → Prop) : Prop := ∀ s1 : SM, s1 = (st_up u.1 0 0 0, u.2) → ((v1 < 0 → (Q (-1) s1)) ∧ (¬ v1 < 0 → ((6 ≤ v1 → (Q (-1) s1)) ∧ (¬ 6 ≤ v1 → ((v2 < 0 → (Q (-1) s1)) ∧ (¬ v2 < 0 → ((v2 ≤ 5 → (pX9_pairsOf v1 s1 (fun s2 => (∃ n, qX9_year_l36  Q n v1 v2 0 0 s2)))) ∧ (¬ v2 ≤ 5 → (Q (-1) s1)))))))))
set_option maxRecDepth 100000 in
set_option maxHeartbeats 4000000 in
theorem kX9_year (l : Launch) (D : va_G) (ad : Nat → Nat) (T : TT) (hI : injA 27 ad) (v1 : Int32) (v2 : Int32) (u : SM) (Q : Int32 → SM → Prop) (h : pX9_year v1 v2 u Q) : Ki (KM l D ad T) (wM T ad) yX9_year cX9_year 6 (some .int) { frames := 19, cells := 0, slots := 0, locals := 424 } [.ref (ad 0), .int v1, .int v2] (wM T ad u) Q := by
  refine st_MI (fr := 19) (lo := 424) (by decide) ⟨rfl, rfl⟩ rfl (Nat.le_of_ble_eq_true rfl) rfl (fun X C hD ret => ?_)
  replace hD : ∀ u, DX X (wM T ad u) := fun u => hD _ (wM_D hI T u)
  have t102 : ∀ (R36 : Int32 → Int32 → Int32 → Int32 → SM → Prop) (hR36 : ∀ (v1 : Int32) (v2 : Int32) (v3 : Int32) (v4 : Int32) (u : SM), R36 v1 v2 v3 v4 u → At X 6 (wM T ad u) 36 [(0, .ref (ad 0)), (1, .int v1), (2, .int v2), (3, .int v3), (4, .int v4)] []) (v1 : Int32) (v2 : Int32) (v4 : Int32) (k0 : Int32) (k1 : Int32) (u : SM), qX9_year_102 R36 Q v1 v2 v4 k0 k1 u → At X 6 (wM T ad u) 102 [(0, .ref (ad 0)), (1, .int v1), (2, .int v2), (4, .int v4)] [.int k0, .int k1] := by
    intro R36 hR36 v1 v2 v4 k0 k1 u h
    unfold qX9_year_102 at h
    refine at_iadd C dX9_year_102 ?_
    refine at_topi (fun x14 ex14 => ?_)
    replace h := h x14 ex14
    refine at_istore_n (lv' := [(0, .ref (ad 0)), (1, .int v1), (2, .int v2), (3, .int x14), (4, .int v4)]) C dX9_year_103 (by decide) [1, 2, 3, 0, 4] rfl ?_
    obtain ⟨x15, ex15⟩ : ∃ y : Int32, y = v4 + 1 := ⟨_, rfl⟩
    replace h := h x15 ex15
    refine at_iinc (v := x15) (lv' := [(0, .ref (ad 0)), (1, .int v1), (2, .int v2), (3, .int x14), (4, .int x15)]) C dX9_year_104 4 rfl (by rw [ex15]; rfl) (by decide) [1, 2, 3, 4, 0] rfl ?_
    refine at_goto (tgt := 36) C dX9_year_107 (by decide) ?_
    exact hR36 _ _ _ _ _ h
  have t97 : ∀ (R36 : Int32 → Int32 → Int32 → Int32 → SM → Prop) (hR36 : ∀ (v1 : Int32) (v2 : Int32) (v3 : Int32) (v4 : Int32) (u : SM), R36 v1 v2 v3 v4 u → At X 6 (wM T ad u) 36 [(0, .ref (ad 0)), (1, .int v1), (2, .int v2), (3, .int v3), (4, .int v4)] []) (v1 : Int32) (v2 : Int32) (v4 : Int32) (k0 : Int32) (u : SM), qX9_year_97 R36 Q v1 v2 v4 k0 u → At X 6 (wM T ad u) 97 [(0, .ref (ad 0)), (1, .int v1), (2, .int v2), (4, .int v4)] [.int k0] := by
    intro R36 hR36 v1 v2 v4 k0 u h
    unfold qX9_year_97 at h
    refine at_iconst (v := 1) C dX9_year_97 (by decide) ?_
    refine at_goto (tgt := 102) C dX9_year_98 (by decide) ?_
    exact t102 R36 hR36 _ _ _ _ _ _ h
  have t101 : ∀ (R36 : Int32 → Int32 → Int32 → Int32 → SM → Prop) (hR36 : ∀ (v1 : Int32) (v2 : Int32) (v3 : Int32) (v4 : Int32) (u : SM), R36 v1 v2 v3 v4 u → At X 6 (wM T ad u) 36 [(0, .ref (ad 0)), (1, .int v1), (2, .int v2), (3, .int v3), (4, .int v4)] []) (v1 : Int32) (v2 : Int32) (v4 : Int32) (k0 : Int32) (u : SM), qX9_year_101 R36 Q v1 v2 v4 k0 u → At X 6 (wM T ad u) 101 [(0, .ref (ad 0)), (1, .int v1), (2, .int v2), (4, .int v4)] [.int k0] := by
    intro R36 hR36 v1 v2 v4 k0 u h
    unfold qX9_year_101 at h
    refine at_iconst (v := 0) C dX9_year_101 (by decide) ?_
    exact t102 R36 hR36 _ _ _ _ _ _ h
  have t70 : ∀ (R36 : Int32 → Int32 → Int32 → Int32 → SM → Prop) (hR36 : ∀ (v1 : Int32) (v2 : Int32) (v3 : Int32) (v4 : Int32) (u : SM), R36 v1 v2 v3 v4 u → At X 6 (wM T ad u) 36 [(0, .ref (ad 0)), (1, .int v1), (2, .int v2), (3, .int v3), (4, .int v4)] []) (v1 : Int32) (v2 : Int32) (v3 : Int32) (v4 : Int32) (k0 : Int32) (u : SM), qX9_year_70 R36 Q v1 v2 v3 v4 k0 u → At X 6 (wM T ad u) 70 [(0, .ref (ad 0)), (1, .int v1), (2, .int v2), (3, .int v3), (4, .int v4)] [.int k0] := by
    intro R36 hR36 v1 v2 v3 v4 k0 u h
    unfold qX9_year_70 at h
    refine at_istore (lv' := [(0, .ref (ad 0)), (1, .int v1), (2, .int v2), (3, .int v3), (4, .int v4), (5, .int k0)]) C dX9_year_70 (by decide) [1, 2, 3, 4, 5, 0] rfl ?_
    refine at_iload_n C dX9_year_72 3 rfl ?_
    refine at_iload C dX9_year_73 5 rfl ?_
    refine at_if_eq (tgt := 101) C dX9_year_75 (by decide) (fun hc => ?_) (fun hc => ?_)
    · replace h := h.1 hc
      refine at_sub [0, 1, 2, 4] rfl ?_
      exact t101 R36 hR36 _ _ _ _ _ h
    · replace h := h.2 hc
      refine at_iload_n C dX9_year_78 2 rfl ?_
      refine at_if_eq (tgt := 97) C dX9_year_79 (by decide) (fun hc => ?_) (fun hc => ?_)
      · replace h := h.1 hc
        refine at_sub [0, 1, 2, 4] rfl ?_
        exact t97 R36 hR36 _ _ _ _ _ h
      · replace h := h.2 hc
        refine at_iload_n C dX9_year_82 2 rfl ?_
        refine at_iconst (v := 1) C dX9_year_83 (by decide) ?_
        refine at_icmp_ne (tgt := 101) C dX9_year_84 (by decide) (fun hc => ?_) (fun hc => ?_)
        · replace h := h.1 hc
          refine at_sub [0, 1, 2, 4] rfl ?_
          exact t101 R36 hR36 _ _ _ _ _ h
        · replace h := h.2 hc
          refine at_aload_n C dX9_year_87 0 rfl ?_
          refine gM_X9_57 C dX9_year_88 ?_
          refine at_iload C dX9_year_91 4 rfl ?_
          obtain ⟨hi, h⟩ := h
          refine rM_13 C hi dX9_year_93 ?_
          refine at_if_lt (tgt := 101) C dX9_year_94 (by decide) (fun hc => ?_) (fun hc => ?_)
          · replace h := h.1 hc
            refine at_sub [0, 1, 2, 4] rfl ?_
            exact t101 R36 hR36 _ _ _ _ _ h
          · replace h := h.2 hc
            refine at_sub [0, 1, 2, 4] rfl ?_
            exact t97 R36 hR36 _ _ _ _ _ h
  have t69 : ∀ (R36 : Int32 → Int32 → Int32 → Int32 → SM → Prop) (hR36 : ∀ (v1 : Int32) (v2 : Int32) (v3 : Int32) (v4 : Int32) (u : SM), R36 v1 v2 v3 v4 u → At X 6 (wM T ad u) 36 [(0, .ref (ad 0)), (1, .int v1), (2, .int v2), (3, .int v3), (4, .int v4)] []) (v1 : Int32) (v2 : Int32) (v3 : Int32) (v4 : Int32) (u : SM), qX9_year_69 R36 Q v1 v2 v3 v4 u → At X 6 (wM T ad u) 69 [(0, .ref (ad 0)), (1, .int v1), (2, .int v2), (3, .int v3), (4, .int v4)] [] := by
    intro R36 hR36 v1 v2 v3 v4 u h
    unfold qX9_year_69 at h
    refine at_iconst (v := 0) C dX9_year_69 (by decide) ?_
    exact t70 R36 hR36 _ _ _ _ _ _ h
  have tb36 : ∀ (R36 : Int32 → Int32 → Int32 → Int32 → SM → Prop) (hR36 : ∀ (v1 : Int32) (v2 : Int32) (v3 : Int32) (v4 : Int32) (u : SM), R36 v1 v2 v3 v4 u → At X 6 (wM T ad u) 36 [(0, .ref (ad 0)), (1, .int v1), (2, .int v2), (3, .int v3), (4, .int v4)] []) (v1 : Int32) (v2 : Int32) (v3 : Int32) (v4 : Int32) (u : SM), qX9_year_36 R36 Q v1 v2 v3 v4 u → At X 6 (wM T ad u) 36 [(0, .ref (ad 0)), (1, .int v1), (2, .int v2), (3, .int v3), (4, .int v4)] [] := by
    intro R36 hR36 v1 v2 v3 v4 u h
    unfold qX9_year_36 at h
    refine at_iload C dX9_year_36 4 rfl ?_
    refine at_aload_n C dX9_year_38 0 rfl ?_
    refine gM_X9_103 C dX9_year_39 ?_
    refine at_icmp_ge (tgt := 110) C dX9_year_42 (by decide) (fun hc => ?_) (fun hc => ?_)
    · replace h := h.1 hc
      refine at_iload_n C dX9_year_110 2 rfl ?_
      by_cases hc0 : v2 = 0
      · replace h := h.1 hc0
        refine at_tabIn (off := 33) (tgt := 144) C dX9_year_111 (by rw [hc0]; decide) (by rw [hc0]; decide) (by rw [hc0]; rfl) (by decide) ?_
        refine at_iload_n C dX9_year_144 3 rfl ?_
        exact ret _ _ _ _ dX9_year_145 h
      · replace h := h.2 hc0
        by_cases hc1 : v2 = 1
        · replace h := h.1 hc1
          refine at_tabIn (off := 33) (tgt := 144) C dX9_year_111 (by rw [hc1]; decide) (by rw [hc1]; decide) (by rw [hc1]; rfl) (by decide) ?_
          refine at_iload_n C dX9_year_144 3 rfl ?_
          exact ret _ _ _ _ dX9_year_145 h
        · replace h := h.2 hc1
          by_cases hc2 : v2 = 2
          · replace h := h.1 hc2
            refine at_tabIn (off := 35) (tgt := 146) C dX9_year_111 (by rw [hc2]; decide) (by rw [hc2]; decide) (by rw [hc2]; rfl) (by decide) ?_
            refine at_aload_n C dX9_year_146 0 rfl ?_
            refine at_iload_n C dX9_year_147 1 rfl ?_
            refine at_iconst (v := (-1)) C dX9_year_148 (by decide) ?_
            refine at_callVi C (kX9_birdsOf l D ad T hI _ _ _ _ h) ok_X9_birdsOf m_X9_183 mi_X9_birdsOf ml_X9_birdsOf (wM_g0 T ad _) rfl ⟨rfl, rfl, Nat.le_of_ble_eq_true rfl, Nat.le_of_ble_eq_true rfl⟩ rfl rfl (Nat.le_of_ble_eq_true rfl) dX9_year_149 (fun r5 s4 h => ?_)
            exact ret _ _ _ _ dX9_year_152 h
          · replace h := h.2 hc2
            by_cases hc3 : v2 = 3
            · replace h := h.1 hc3
              refine at_tabIn (off := 42) (tgt := 153) C dX9_year_111 (by rw [hc3]; decide) (by rw [hc3]; decide) (by rw [hc3]; rfl) (by decide) ?_
              refine at_aload_n C dX9_year_153 0 rfl ?_
              refine at_iload_n C dX9_year_154 1 rfl ?_
              refine at_iconst (v := (-1)) C dX9_year_155 (by decide) ?_
              refine at_iconst (v := 1) C dX9_year_156 (by decide) ?_
              refine at_callVi C (kX9_hoursOf l D ad T hI _ _ _ _ _ h) ok_X9_hoursOf m_X9_186 mi_X9_hoursOf ml_X9_hoursOf (wM_g0 T ad _) rfl ⟨rfl, rfl, Nat.le_of_ble_eq_true rfl, Nat.le_of_ble_eq_true rfl⟩ rfl rfl (Nat.le_of_ble_eq_true rfl) dX9_year_157 (fun r7 s6 h => ?_)
              exact ret _ _ _ _ dX9_year_160 h
            · replace h := h.2 hc3
              by_cases hc4 : v2 = 4
              · replace h := h.1 hc4
                refine at_tabIn (off := 50) (tgt := 161) C dX9_year_111 (by rw [hc4]; decide) (by rw [hc4]; decide) (by rw [hc4]; rfl) (by decide) ?_
                refine at_aload_n C dX9_year_161 0 rfl ?_
                refine at_iload_n C dX9_year_162 1 rfl ?_
                refine at_callVl C (kX9_missed l D ad T hI _ _ _ h) ok_X9_missed m_X9_192 mi_X9_missed ml_X9_missed (wM_g0 T ad _) rfl ⟨rfl, rfl, Nat.le_of_ble_eq_true rfl, Nat.le_of_ble_eq_true rfl⟩ rfl rfl (Nat.le_of_ble_eq_true rfl) dX9_year_163 (fun r9 s8 h => ?_)
                refine at_l2i C dX9_year_166 ?_
                exact ret _ _ _ _ dX9_year_167 h
              · replace h := h.2 hc4
                refine at_tabOut (tgt := 168) C dX9_year_111 (by have q0 := lv_neT hc0 (a := 0) (by decide); have q1 := lv_neT hc1 (a := 1) (by decide); have q2 := lv_neT hc2 (a := 2) (by decide); have q3 := lv_neT hc3 (a := 3) (by decide); have q4 := lv_neT hc4 (a := 4) (by decide); omega) (by decide) ?_
                refine at_aload_n C dX9_year_168 0 rfl ?_
                refine at_iload_n C dX9_year_169 1 rfl ?_
                refine at_callVl C (kX9_total l D ad T hI _ _ _ h) ok_X9_total m_X9_196 mi_X9_total ml_X9_total (wM_g0 T ad _) rfl ⟨rfl, rfl, Nat.le_of_ble_eq_true rfl, Nat.le_of_ble_eq_true rfl⟩ rfl rfl (Nat.le_of_ble_eq_true rfl) dX9_year_170 (fun r11 s10 h => ?_)
                refine at_l2i C dX9_year_173 ?_
                exact ret _ _ _ _ dX9_year_174 h
    · replace h := h.2 hc
      refine at_aload_n C dX9_year_45 0 rfl ?_
      refine at_iload C dX9_year_46 4 rfl ?_
      refine at_callVi C (kX9_isKnown l D ad T hI _ _ _ h) ok_X9_isKnown m_X9_137 mi_X9_isKnown ml_X9_isKnown (wM_g0 T ad _) rfl ⟨rfl, rfl, Nat.le_of_ble_eq_true rfl, Nat.le_of_ble_eq_true rfl⟩ rfl rfl (Nat.le_of_ble_eq_true rfl) dX9_year_48 (fun r13 s12 h => ?_)
      refine at_if_eq (tgt := 69) C dX9_year_51 (by decide) (fun hc => ?_) (fun hc => ?_)
      · replace h := h.1 hc
        exact t69 R36 hR36 _ _ _ _ _ h
      · replace h := h.2 hc
        refine at_aload_n C dX9_year_54 0 rfl ?_
        refine gM_X9_32 C dX9_year_55 ?_
        refine at_iload C dX9_year_58 4 rfl ?_
        obtain ⟨hi, h⟩ := h
        refine rM_5 C hi dX9_year_60 ?_
        refine at_iload_n C dX9_year_61 1 rfl ?_
        refine at_icmp_ne (tgt := 69) C dX9_year_62 (by decide) (fun hc => ?_) (fun hc => ?_)
        · replace h := h.1 hc
          exact t69 R36 hR36 _ _ _ _ _ h
        · replace h := h.2 hc
          refine at_iconst (v := 1) C dX9_year_65 (by decide) ?_
          refine at_goto (tgt := 70) C dX9_year_66 (by decide) ?_
          exact t70 R36 hR36 _ _ _ _ _ _ h
  have t36 : ∀ (n : Nat) (v1 : Int32) (v2 : Int32) (v3 : Int32) (v4 : Int32) (u : SM), qX9_year_l36  Q n v1 v2 v3 v4 u → At X 6 (wM T ad u) 36 [(0, .ref (ad 0)), (1, .int v1), (2, .int v2), (3, .int v3), (4, .int v4)] [] := by
    intro  n
    induction n with
    | zero => intro v1 v2 v3 v4 u h; exact False.elim h
    | succ n ih => intro v1 v2 v3 v4 u h; exact tb36 (qX9_year_l36  Q n) ih v1 v2 v3 v4 u h
  unfold pX9_year at h
  refine at_aload_n C dX9_year_0 0 rfl ?_
  refine at_iconst (v := 0) C dX9_year_1 (by decide) ?_
  refine pM_X9_1 C hD dX9_year_2 (fun s1 es1 => ?_)
  replace h := h s1 es1
  refine at_iload_n C dX9_year_5 1 rfl ?_
  refine at_if_lt (tgt := 24) C dX9_year_6 (by decide) (fun hc => ?_) (fun hc => ?_)
  · replace h := h.1 hc
    refine at_iconst (v := (-1)) C dX9_year_24 (by decide) ?_
    exact ret _ _ _ _ dX9_year_25 h
  · replace h := h.2 hc
    refine at_iload_n C dX9_year_9 1 rfl ?_
    refine at_bipush (v := 6) C dX9_year_10 (by decide) ?_
    refine at_icmp_ge (tgt := 24) C dX9_year_12 (by decide) (fun hc => ?_) (fun hc => ?_)
    · replace h := h.1 hc
      refine at_iconst (v := (-1)) C dX9_year_24 (by decide) ?_
      exact ret _ _ _ _ dX9_year_25 h
    · replace h := h.2 hc
      refine at_iload_n C dX9_year_15 2 rfl ?_
      refine at_if_lt (tgt := 24) C dX9_year_16 (by decide) (fun hc => ?_) (fun hc => ?_)
      · replace h := h.1 hc
        refine at_iconst (v := (-1)) C dX9_year_24 (by decide) ?_
        exact ret _ _ _ _ dX9_year_25 h
      · replace h := h.2 hc
        refine at_iload_n C dX9_year_19 2 rfl ?_
        refine at_iconst (v := 5) C dX9_year_20 (by decide) ?_
        refine at_icmp_le (tgt := 26) C dX9_year_21 (by decide) (fun hc => ?_) (fun hc => ?_)
        · replace h := h.1 hc
          refine at_aload_n C dX9_year_26 0 rfl ?_
          refine at_iload_n C dX9_year_27 1 rfl ?_
          refine at_callVv C (kX9_pairsOf l D ad T hI _ _ _ h) ok_X9_pairsOf m_X9_154 mi_X9_pairsOf ml_X9_pairsOf (wM_g0 T ad _) rfl ⟨rfl, rfl, Nat.le_of_ble_eq_true rfl, Nat.le_of_ble_eq_true rfl⟩ rfl rfl (Nat.le_of_ble_eq_true rfl) dX9_year_28 (fun s2 h => ?_)
          refine at_iconst (v := 0) C dX9_year_31 (by decide) ?_
          refine at_istore_n (lv' := [(0, .ref (ad 0)), (1, .int v1), (2, .int v2), (3, .int 0)]) C dX9_year_32 (by decide) [1, 2, 3, 0] rfl ?_
          refine at_iconst (v := 0) C dX9_year_33 (by decide) ?_
          refine at_istore (lv' := [(0, .ref (ad 0)), (1, .int v1), (2, .int v2), (3, .int 0), (4, .int 0)]) C dX9_year_34 (by decide) [1, 2, 3, 4, 0] rfl ?_
          obtain ⟨n, h⟩ := h
          exact t36  n _ _ _ _ _ h
        · replace h := h.2 hc
          refine at_iconst (v := (-1)) C dX9_year_24 (by decide) ?_
          exact ret _ _ _ _ dX9_year_25 h
def qX9_comeBy_71 (R6 : Int32 → Int32 → Int32 → Int32 → Int32 → SM → Prop) (Q : Int32 → SM → Prop) (v1 : Int32) (v2 : Int32) (v3 : Int32) (v5 : Int32) (k0 : Int32) (k1 : Int32) (u : SM) : Prop := ∀ x7 : Int32, x7 = (k1 + k0) → ∀ x8 : Int32, x8 = v5 + 1 → R6 v1 v2 v3 x7 x8 u
def qX9_comeBy_70 (R6 : Int32 → Int32 → Int32 → Int32 → Int32 → SM → Prop) (Q : Int32 → SM → Prop) (v1 : Int32) (v2 : Int32) (v3 : Int32) (v5 : Int32) (k0 : Int32) (u : SM) : Prop := (qX9_comeBy_71 R6 Q v1 v2 v3 v5 0 k0 u)
def qX9_comeBy_6 (R6 : Int32 → Int32 → Int32 → Int32 → Int32 → SM → Prop) (Q : Int32 → SM → Prop) (v1 : Int32) (v2 : Int32) (v3 : Int32) (v4 : Int32) (v5 : Int32) (u : SM) : Prop := (((u.1 0 9) ≤ v5 → (Q v4 u)) ∧ (¬ (u.1 0 9) ≤ v5 → (pX9_isBird v5 v1 u (fun r2 s1 => ((r2 = 0 → (qX9_comeBy_70 R6 Q v1 v2 v3 v5 v4 s1)) ∧ (¬ r2 = 0 → (vp_in v5 300 ∧ (vp_in v5 300 ∧ ((v3 < ((10 * (s1.1 6 (Int32.toNatClampNeg v5))) + ((s1.1 7 (Int32.toNatClampNeg v5)) / 60)) → (qX9_comeBy_70 R6 Q v1 v2 v3 v5 v4 s1)) ∧ (¬ v3 < ((10 * (s1.1 6 (Int32.toNatClampNeg v5))) + ((s1.1 7 (Int32.toNatClampNeg v5)) / 60)) → (pX9_kindOfBird v5 s1 (fun r4 s3 => (pX9_isUnder r4 v2 s3 (fun r6 s5 => ((r6 = 0 → (qX9_comeBy_70 R6 Q v1 v2 v3 v5 v4 s5)) ∧ (¬ r6 = 0 → (qX9_comeBy_71 R6 Q v1 v2 v3 v5 1 v4 s5)))))))))))))))))
def qX9_comeBy_l6  (Q : Int32 → SM → Prop) : Nat → Int32 → Int32 → Int32 → Int32 → Int32 → SM → Prop
  | 0 => fun _ _ _ _ _ _ => False
  | n + 1 => qX9_comeBy_6 (qX9_comeBy_l6  Q n) Q
def pX9_comeBy (v1 : Int32) (v2 : Int32) (v3 : Int32) (u : SM) (Q : Int32 → SM → Prop) : Prop := (∃ n, qX9_comeBy_l6  Q n v1 v2 v3 0 0 u)
set_option maxRecDepth 100000 in
set_option maxHeartbeats 4000000 in
theorem kX9_comeBy (l : Launch) (D : va_G) (ad : Nat → Nat) (T : TT) (hI : injA 27 ad) (v1 : Int32) (v2 : Int32) (v3 : Int32) (u : SM) (Q : Int32 → SM → Prop) (h : pX9_comeBy v1 v2 v3 u Q) : Ki (KM l D ad T) (wM T ad) yX9_comeBy cX9_comeBy 6 (some .int) { frames := 2, cells := 0, slots := 0, locals := 46 } [.ref (ad 0), .int v1, .int v2, .int v3] (wM T ad u) Q := by
  refine st_MI (fr := 2) (lo := 46) (by decide) ⟨rfl, rfl⟩ rfl (Nat.le_of_ble_eq_true rfl) rfl (fun X C hD ret => ?_)
  replace hD : ∀ u, DX X (wM T ad u) := fun u => hD _ (wM_D hI T u)
  have t71 : ∀ (R6 : Int32 → Int32 → Int32 → Int32 → Int32 → SM → Prop) (hR6 : ∀ (v1 : Int32) (v2 : Int32) (v3 : Int32) (v4 : Int32) (v5 : Int32) (u : SM), R6 v1 v2 v3 v4 v5 u → At X 6 (wM T ad u) 6 [(0, .ref (ad 0)), (1, .int v1), (2, .int v2), (3, .int v3), (4, .int v4), (5, .int v5)] []) (v1 : Int32) (v2 : Int32) (v3 : Int32) (v5 : Int32) (k0 : Int32) (k1 : Int32) (u : SM), qX9_comeBy_71 R6 Q v1 v2 v3 v5 k0 k1 u → At X 6 (wM T ad u) 71 [(0, .ref (ad 0)), (1, .int v1), (2, .int v2), (3, .int v3), (5, .int v5)] [.int k0, .int k1] := by
    intro R6 hR6 v1 v2 v3 v5 k0 k1 u h
    unfold qX9_comeBy_71 at h
    refine at_iadd C dX9_comeBy_71 ?_
    refine at_topi (fun x7 ex7 => ?_)
    replace h := h x7 ex7
    refine at_istore (lv' := [(0, .ref (ad 0)), (1, .int v1), (2, .int v2), (3, .int v3), (4, .int x7), (5, .int v5)]) C dX9_comeBy_72 (by decide) [1, 2, 3, 4, 0, 5] rfl ?_
    obtain ⟨x8, ex8⟩ : ∃ y : Int32, y = v5 + 1 := ⟨_, rfl⟩
    replace h := h x8 ex8
    refine at_iinc (v := x8) (lv' := [(0, .ref (ad 0)), (1, .int v1), (2, .int v2), (3, .int v3), (4, .int x7), (5, .int x8)]) C dX9_comeBy_74 5 rfl (by rw [ex8]; rfl) (by decide) [1, 2, 3, 4, 5, 0] rfl ?_
    refine at_goto (tgt := 6) C dX9_comeBy_77 (by decide) ?_
    exact hR6 _ _ _ _ _ _ h
  have t70 : ∀ (R6 : Int32 → Int32 → Int32 → Int32 → Int32 → SM → Prop) (hR6 : ∀ (v1 : Int32) (v2 : Int32) (v3 : Int32) (v4 : Int32) (v5 : Int32) (u : SM), R6 v1 v2 v3 v4 v5 u → At X 6 (wM T ad u) 6 [(0, .ref (ad 0)), (1, .int v1), (2, .int v2), (3, .int v3), (4, .int v4), (5, .int v5)] []) (v1 : Int32) (v2 : Int32) (v3 : Int32) (v5 : Int32) (k0 : Int32) (u : SM), qX9_comeBy_70 R6 Q v1 v2 v3 v5 k0 u → At X 6 (wM T ad u) 70 [(0, .ref (ad 0)), (1, .int v1), (2, .int v2), (3, .int v3), (5, .int v5)] [.int k0] := by
    intro R6 hR6 v1 v2 v3 v5 k0 u h
    unfold qX9_comeBy_70 at h
    refine at_iconst (v := 0) C dX9_comeBy_70 (by decide) ?_
    exact t71 R6 hR6 _ _ _ _ _ _ _ h
  have tb6 : ∀ (R6 : Int32 → Int32 → Int32 → Int32 → Int32 → SM → Prop) (hR6 : ∀ (v1 : Int32) (v2 : Int32) (v3 : Int32) (v4 : Int32) (v5 : Int32) (u : SM), R6 v1 v2 v3 v4 v5 u → At X 6 (wM T ad u) 6 [(0, .ref (ad 0)), (1, .int v1), (2, .int v2), (3, .int v3), (4, .int v4), (5, .int v5)] []) (v1 : Int32) (v2 : Int32) (v3 : Int32) (v4 : Int32) (v5 : Int32) (u : SM), qX9_comeBy_6 R6 Q v1 v2 v3 v4 v5 u → At X 6 (wM T ad u) 6 [(0, .ref (ad 0)), (1, .int v1), (2, .int v2), (3, .int v3), (4, .int v4), (5, .int v5)] [] := by
    intro R6 hR6 v1 v2 v3 v4 v5 u h
    unfold qX9_comeBy_6 at h
    refine at_iload C dX9_comeBy_6 5 rfl ?_
    refine at_aload_n C dX9_comeBy_8 0 rfl ?_
    refine gM_X9_103 C dX9_comeBy_9 ?_
    refine at_icmp_ge (tgt := 80) C dX9_comeBy_12 (by decide) (fun hc => ?_) (fun hc => ?_)
    · replace h := h.1 hc
      refine at_iload C dX9_comeBy_80 4 rfl ?_
      exact ret _ _ _ _ dX9_comeBy_82 h
    · replace h := h.2 hc
      refine at_iload C dX9_comeBy_15 4 rfl ?_
      refine at_aload_n C dX9_comeBy_17 0 rfl ?_
      refine at_iload C dX9_comeBy_18 5 rfl ?_
      refine at_iload_n C dX9_comeBy_20 1 rfl ?_
      refine at_callVi C (kX9_isBird l D ad T hI _ _ _ _ h) ok_X9_isBird m_X9_161 mi_X9_isBird ml_X9_isBird (wM_g0 T ad _) rfl ⟨rfl, rfl, Nat.le_of_ble_eq_true rfl, Nat.le_of_ble_eq_true rfl⟩ rfl rfl (Nat.le_of_ble_eq_true rfl) dX9_comeBy_21 (fun r2 s1 h => ?_)
      refine at_if_eq (tgt := 70) C dX9_comeBy_24 (by decide) (fun hc => ?_) (fun hc => ?_)
      · replace h := h.1 hc
        refine at_sub [0, 1, 2, 3, 5] rfl ?_
        exact t70 R6 hR6 _ _ _ _ _ _ h
      · replace h := h.2 hc
        refine at_bipush (v := 10) C dX9_comeBy_27 (by decide) ?_
        refine at_aload_n C dX9_comeBy_29 0 rfl ?_
        refine gM_X9_35 C dX9_comeBy_30 ?_
        refine at_iload C dX9_comeBy_33 5 rfl ?_
        obtain ⟨hi, h⟩ := h
        refine rM_6 C hi dX9_comeBy_35 ?_
        refine at_imul C dX9_comeBy_36 ?_
        refine at_aload_n C dX9_comeBy_37 0 rfl ?_
        refine gM_X9_38 C dX9_comeBy_38 ?_
        refine at_iload C dX9_comeBy_41 5 rfl ?_
        obtain ⟨hi, h⟩ := h
        refine rM_7 C hi dX9_comeBy_43 ?_
        refine at_bipush (v := 60) C dX9_comeBy_44 (by decide) ?_
        refine at_idiv C dX9_comeBy_46 (by decide) ?_
        refine at_iadd C dX9_comeBy_47 ?_
        refine at_iload_n C dX9_comeBy_48 3 rfl ?_
        refine at_icmp_gt (tgt := 70) C dX9_comeBy_49 (by decide) (fun hc => ?_) (fun hc => ?_)
        · replace h := h.1 hc
          refine at_sub [0, 1, 2, 3, 5] rfl ?_
          exact t70 R6 hR6 _ _ _ _ _ _ h
        · replace h := h.2 hc
          refine at_aload_n C dX9_comeBy_52 0 rfl ?_
          refine at_aload_n C dX9_comeBy_53 0 rfl ?_
          refine at_iload C dX9_comeBy_54 5 rfl ?_
          refine at_callVi C (kX9_kindOfBird l D ad T hI _ _ _ h) ok_X9_kindOfBird m_X9_164 mi_X9_kindOfBird ml_X9_kindOfBird (wM_g0 T ad _) rfl ⟨rfl, rfl, Nat.le_of_ble_eq_true rfl, Nat.le_of_ble_eq_true rfl⟩ rfl rfl (Nat.le_of_ble_eq_true rfl) dX9_comeBy_56 (fun r4 s3 h => ?_)
          refine at_iload_n C dX9_comeBy_59 2 rfl ?_
          refine at_callVi C (kX9_isUnder l D ad T hI _ _ _ _ h) ok_X9_isUnder m_X9_121 mi_X9_isUnder ml_X9_isUnder (wM_g0 T ad _) rfl ⟨rfl, rfl, Nat.le_of_ble_eq_true rfl, Nat.le_of_ble_eq_true rfl⟩ rfl rfl (Nat.le_of_ble_eq_true rfl) dX9_comeBy_60 (fun r6 s5 h => ?_)
          refine at_if_eq (tgt := 70) C dX9_comeBy_63 (by decide) (fun hc => ?_) (fun hc => ?_)
          · replace h := h.1 hc
            refine at_sub [0, 1, 2, 3, 5] rfl ?_
            exact t70 R6 hR6 _ _ _ _ _ _ h
          · replace h := h.2 hc
            refine at_iconst (v := 1) C dX9_comeBy_66 (by decide) ?_
            refine at_goto (tgt := 71) C dX9_comeBy_67 (by decide) ?_
            refine at_sub [0, 1, 2, 3, 5] rfl ?_
            exact t71 R6 hR6 _ _ _ _ _ _ _ h
  have t6 : ∀ (n : Nat) (v1 : Int32) (v2 : Int32) (v3 : Int32) (v4 : Int32) (v5 : Int32) (u : SM), qX9_comeBy_l6  Q n v1 v2 v3 v4 v5 u → At X 6 (wM T ad u) 6 [(0, .ref (ad 0)), (1, .int v1), (2, .int v2), (3, .int v3), (4, .int v4), (5, .int v5)] [] := by
    intro  n
    induction n with
    | zero => intro v1 v2 v3 v4 v5 u h; exact False.elim h
    | succ n ih => intro v1 v2 v3 v4 v5 u h; exact tb6 (qX9_comeBy_l6  Q n) ih v1 v2 v3 v4 v5 u h
  unfold pX9_comeBy at h
  refine at_iconst (v := 0) C dX9_comeBy_0 (by decide) ?_
  refine at_istore (lv' := [(0, .ref (ad 0)), (1, .int v1), (2, .int v2), (3, .int v3), (4, .int 0)]) C dX9_comeBy_1 (by decide) [1, 2, 3, 4, 0] rfl ?_
  refine at_iconst (v := 0) C dX9_comeBy_3 (by decide) ?_
  refine at_istore (lv' := [(0, .ref (ad 0)), (1, .int v1), (2, .int v2), (3, .int v3), (4, .int 0), (5, .int 0)]) C dX9_comeBy_4 (by decide) [1, 2, 3, 4, 5, 0] rfl ?_
  obtain ⟨n, h⟩ := h
  exact t6  n _ _ _ _ _ _ h
theorem m_X9_199 : Cond.methodLink RX9 199 yX9_comeBy ∈ gW := gW_in 994 (by decide +kernel) (by decide +kernel)
theorem mc_X9_comeBy : Cond.code yX9_comeBy cX9_comeBy 6 (some .int) ∈ gW := gW_in 997 (by decide +kernel) (by decide +kernel)
theorem ok_X9_comeBy : okM yX9_comeBy cX9_comeBy 6 (some .int) 3 := ⟨mc_X9_comeBy, mz_RX9, by decide +kernel⟩
theorem mi_X9_comeBy : Cond.instanceMethod yX9_comeBy ∈ gW := gW_in 996 (by decide +kernel) (by decide +kernel)
theorem ml_X9_comeBy : Cond.selects RX9 yX9_comeBy yX9_comeBy ∈ gW := gW_in 80 (by decide +kernel) (by decide +kernel)
def qX9_passage_129 (R63 : Int32 → Int32 → Int32 → Int32 → Int32 → Int32 → SM → Prop) (Q : Int32 → SM → Prop) (v1 : Int32) (v2 : Int32) (v3 : Int32) (v4 : Int32) (v5 : Int32) (k0 : Int32) (u : SM) : Prop := ∀ x10 : Int32, x10 = v5 + 1 → R63 v1 v2 v3 v4 x10 k0 u
def qX9_passage_63 (R63 : Int32 → Int32 → Int32 → Int32 → Int32 → Int32 → SM → Prop) (Q : Int32 → SM → Prop) (v1 : Int32) (v2 : Int32) (v3 : Int32) (v4 : Int32) (v5 : Int32) (v6 : Int32) (u : SM) : Prop := ((¬ v6 = 0 → (Q (v5 - 1) u)) ∧ (v6 = 0 → (pX9_comeBy v1 v2 v5 u (fun r9 s8 => ((¬ v3 = 0 → ((¬ v3 = 1 → ((¬ r9 = v4 → (qX9_passage_129 R63 Q v1 v2 v3 v4 v5 0 s8)) ∧ (r9 = v4 → (qX9_passage_129 R63 Q v1 v2 v3 v4 v5 1 s8)))) ∧ (v3 = 1 → (((2 * r9) < v4 → (qX9_passage_129 R63 Q v1 v2 v3 v4 v5 0 s8)) ∧ (¬ (2 * r9) < v4 → (qX9_passage_129 R63 Q v1 v2 v3 v4 v5 1 s8)))))) ∧ (v3 = 0 → ((r9 ≤ 0 → (qX9_passage_129 R63 Q v1 v2 v3 v4 v5 0 s8)) ∧ (¬ r9 ≤ 0 → (qX9_passage_129 R63 Q v1 v2 v3 v4 v5 1 s8)))))))))
def qX9_passage_l63  (Q : Int32 → SM → Prop) : Nat → Int32 → Int32 → Int32 → Int32 → Int32 → Int32 → SM → Prop
  | 0 => fun _ _ _ _ _ _ _ => False
  | n + 1 => qX9_passage_63 (qX9_passage_l63  Q n) Q
def pX9_passage (v1 : Int32) (v2 : Int32) (v3 : Int32) (u : SM) (Q : Int32 → SM → Prop) : Prop := ∀ s1 : SM, s1 = (st_up u.1 0 0 0, u.2) → ((v1 < 0 → (Q (-1) s1)) ∧ (¬ v1 < 0 → ((6 ≤ v1 → (Q (-1) s1)) ∧ (¬ 6 ≤ v1 → (pX9_isKind v2 s1 (fun r3 s2 => ((r3 = 0 → (Q (-1) s2)) ∧ (¬ r3 = 0 → ((v3 < 0 → (Q (-1) s2)) ∧ (¬ v3 < 0 → ((v3 ≤ 2 → (pX9_pairsOf v1 s2 (fun s4 => (pX9_comeBy v1 v2 300 s4 (fun r7 s6 => ((¬ r7 = 0 → (∃ n, qX9_passage_l63  Q n v1 v2 v3 r7 0 0 s6)) ∧ (r7 = 0 → (Q (-1) s6)))))))) ∧ (¬ v3 ≤ 2 → (Q (-1) s2)))))))))))))
set_option maxRecDepth 100000 in
set_option maxHeartbeats 4000000 in
theorem kX9_passage (l : Launch) (D : va_G) (ad : Nat → Nat) (T : TT) (hI : injA 27 ad) (v1 : Int32) (v2 : Int32) (v3 : Int32) (u : SM) (Q : Int32 → SM → Prop) (h : pX9_passage v1 v2 v3 u Q) : Ki (KM l D ad T) (wM T ad) yX9_passage cX9_passage 8 (some .int) { frames := 18, cells := 0, slots := 0, locals := 403 } [.ref (ad 0), .int v1, .int v2, .int v3] (wM T ad u) Q := by
  refine st_MI (fr := 18) (lo := 403) (by decide) ⟨rfl, rfl⟩ rfl (Nat.le_of_ble_eq_true rfl) rfl (fun X C hD ret => ?_)
  replace hD : ∀ u, DX X (wM T ad u) := fun u => hD _ (wM_D hI T u)
  have t129 : ∀ (R63 : Int32 → Int32 → Int32 → Int32 → Int32 → Int32 → SM → Prop) (hR63 : ∀ (v1 : Int32) (v2 : Int32) (v3 : Int32) (v4 : Int32) (v5 : Int32) (v6 : Int32) (u : SM), R63 v1 v2 v3 v4 v5 v6 u → At X 8 (wM T ad u) 63 [(0, .ref (ad 0)), (1, .int v1), (2, .int v2), (3, .int v3), (4, .int v4), (5, .int v5), (6, .int v6)] []) (v1 : Int32) (v2 : Int32) (v3 : Int32) (v4 : Int32) (v5 : Int32) (k0 : Int32) (u : SM), qX9_passage_129 R63 Q v1 v2 v3 v4 v5 k0 u → At X 8 (wM T ad u) 129 [(0, .ref (ad 0)), (1, .int v1), (2, .int v2), (3, .int v3), (4, .int v4), (5, .int v5)] [.int k0] := by
    intro R63 hR63 v1 v2 v3 v4 v5 k0 u h
    unfold qX9_passage_129 at h
    refine at_istore (lv' := [(0, .ref (ad 0)), (1, .int v1), (2, .int v2), (3, .int v3), (4, .int v4), (5, .int v5), (6, .int k0)]) C dX9_passage_129 (by decide) [1, 2, 3, 4, 5, 6, 0] rfl ?_
    obtain ⟨x10, ex10⟩ : ∃ y : Int32, y = v5 + 1 := ⟨_, rfl⟩
    replace h := h x10 ex10
    refine at_iinc (v := x10) (lv' := [(0, .ref (ad 0)), (1, .int v1), (2, .int v2), (3, .int v3), (4, .int v4), (5, .int x10), (6, .int k0)]) C dX9_passage_131 5 rfl (by rw [ex10]; rfl) (by decide) [1, 2, 3, 4, 5, 0, 6] rfl ?_
    refine at_goto (tgt := 63) C dX9_passage_134 (by decide) ?_
    exact hR63 _ _ _ _ _ _ _ h
  have tb63 : ∀ (R63 : Int32 → Int32 → Int32 → Int32 → Int32 → Int32 → SM → Prop) (hR63 : ∀ (v1 : Int32) (v2 : Int32) (v3 : Int32) (v4 : Int32) (v5 : Int32) (v6 : Int32) (u : SM), R63 v1 v2 v3 v4 v5 v6 u → At X 8 (wM T ad u) 63 [(0, .ref (ad 0)), (1, .int v1), (2, .int v2), (3, .int v3), (4, .int v4), (5, .int v5), (6, .int v6)] []) (v1 : Int32) (v2 : Int32) (v3 : Int32) (v4 : Int32) (v5 : Int32) (v6 : Int32) (u : SM), qX9_passage_63 R63 Q v1 v2 v3 v4 v5 v6 u → At X 8 (wM T ad u) 63 [(0, .ref (ad 0)), (1, .int v1), (2, .int v2), (3, .int v3), (4, .int v4), (5, .int v5), (6, .int v6)] [] := by
    intro R63 hR63 v1 v2 v3 v4 v5 v6 u h
    unfold qX9_passage_63 at h
    refine at_iload C dX9_passage_63 6 rfl ?_
    refine at_if_ne (tgt := 137) C dX9_passage_65 (by decide) (fun hc => ?_) (fun hc => ?_)
    · replace h := h.1 hc
      refine at_iload C dX9_passage_137 5 rfl ?_
      refine at_iconst (v := 1) C dX9_passage_139 (by decide) ?_
      refine at_isub C dX9_passage_140 ?_
      exact ret _ _ _ _ dX9_passage_141 h
    · replace h := h.2 hc
      refine at_aload_n C dX9_passage_68 0 rfl ?_
      refine at_iload_n C dX9_passage_69 1 rfl ?_
      refine at_iload_n C dX9_passage_70 2 rfl ?_
      refine at_iload C dX9_passage_71 5 rfl ?_
      refine at_callVi C (kX9_comeBy l D ad T hI _ _ _ _ _ h) ok_X9_comeBy m_X9_199 mi_X9_comeBy ml_X9_comeBy (wM_g0 T ad _) rfl ⟨rfl, rfl, Nat.le_of_ble_eq_true rfl, Nat.le_of_ble_eq_true rfl⟩ rfl rfl (Nat.le_of_ble_eq_true rfl) dX9_passage_73 (fun r9 s8 h => ?_)
      refine at_istore (lv' := [(0, .ref (ad 0)), (1, .int v1), (2, .int v2), (3, .int v3), (4, .int v4), (5, .int v5), (6, .int v6), (7, .int r9)]) C dX9_passage_76 (by decide) [1, 2, 3, 4, 5, 6, 7, 0] rfl ?_
      refine at_iload_n C dX9_passage_78 3 rfl ?_
      refine at_if_ne (tgt := 95) C dX9_passage_79 (by decide) (fun hc => ?_) (fun hc => ?_)
      · replace h := h.1 hc
        refine at_iload_n C dX9_passage_95 3 rfl ?_
        refine at_iconst (v := 1) C dX9_passage_96 (by decide) ?_
        refine at_icmp_ne (tgt := 117) C dX9_passage_97 (by decide) (fun hc => ?_) (fun hc => ?_)
        · replace h := h.1 hc
          refine at_iload C dX9_passage_117 7 rfl ?_
          refine at_iload C dX9_passage_119 4 rfl ?_
          refine at_icmp_ne (tgt := 128) C dX9_passage_121 (by decide) (fun hc => ?_) (fun hc => ?_)
          · replace h := h.1 hc
            refine at_iconst (v := 0) C dX9_passage_128 (by decide) ?_
            refine at_sub [0, 1, 2, 3, 4, 5] rfl ?_
            exact t129 R63 hR63 _ _ _ _ _ _ _ h
          · replace h := h.2 hc
            refine at_iconst (v := 1) C dX9_passage_124 (by decide) ?_
            refine at_goto (tgt := 129) C dX9_passage_125 (by decide) ?_
            refine at_sub [0, 1, 2, 3, 4, 5] rfl ?_
            exact t129 R63 hR63 _ _ _ _ _ _ _ h
        · replace h := h.2 hc
          refine at_iconst (v := 2) C dX9_passage_100 (by decide) ?_
          refine at_iload C dX9_passage_101 7 rfl ?_
          refine at_imul C dX9_passage_103 ?_
          refine at_iload C dX9_passage_104 4 rfl ?_
          refine at_icmp_lt (tgt := 113) C dX9_passage_106 (by decide) (fun hc => ?_) (fun hc => ?_)
          · replace h := h.1 hc
            refine at_iconst (v := 0) C dX9_passage_113 (by decide) ?_
            refine at_goto (tgt := 129) C dX9_passage_114 (by decide) ?_
            refine at_sub [0, 1, 2, 3, 4, 5] rfl ?_
            exact t129 R63 hR63 _ _ _ _ _ _ _ h
          · replace h := h.2 hc
            refine at_iconst (v := 1) C dX9_passage_109 (by decide) ?_
            refine at_goto (tgt := 129) C dX9_passage_110 (by decide) ?_
            refine at_sub [0, 1, 2, 3, 4, 5] rfl ?_
            exact t129 R63 hR63 _ _ _ _ _ _ _ h
      · replace h := h.2 hc
        refine at_iload C dX9_passage_82 7 rfl ?_
        refine at_if_le (tgt := 91) C dX9_passage_84 (by decide) (fun hc => ?_) (fun hc => ?_)
        · replace h := h.1 hc
          refine at_iconst (v := 0) C dX9_passage_91 (by decide) ?_
          refine at_goto (tgt := 129) C dX9_passage_92 (by decide) ?_
          refine at_sub [0, 1, 2, 3, 4, 5] rfl ?_
          exact t129 R63 hR63 _ _ _ _ _ _ _ h
        · replace h := h.2 hc
          refine at_iconst (v := 1) C dX9_passage_87 (by decide) ?_
          refine at_goto (tgt := 129) C dX9_passage_88 (by decide) ?_
          refine at_sub [0, 1, 2, 3, 4, 5] rfl ?_
          exact t129 R63 hR63 _ _ _ _ _ _ _ h
  have t63 : ∀ (n : Nat) (v1 : Int32) (v2 : Int32) (v3 : Int32) (v4 : Int32) (v5 : Int32) (v6 : Int32) (u : SM), qX9_passage_l63  Q n v1 v2 v3 v4 v5 v6 u → At X 8 (wM T ad u) 63 [(0, .ref (ad 0)), (1, .int v1), (2, .int v2), (3, .int v3), (4, .int v4), (5, .int v5), (6, .int v6)] [] := by
    intro  n
    induction n with
    | zero => intro v1 v2 v3 v4 v5 v6 u h; exact False.elim h
    | succ n ih => intro v1 v2 v3 v4 v5 v6 u h; exact tb63 (qX9_passage_l63  Q n) ih v1 v2 v3 v4 v5 v6 u h
  unfold pX9_passage at h
  refine at_aload_n C dX9_passage_0 0 rfl ?_
  refine at_iconst (v := 0) C dX9_passage_1 (by decide) ?_
  refine pM_X9_1 C hD dX9_passage_2 (fun s1 es1 => ?_)
  replace h := h s1 es1
  refine at_iload_n C dX9_passage_5 1 rfl ?_
  refine at_if_lt (tgt := 32) C dX9_passage_6 (by decide) (fun hc => ?_) (fun hc => ?_)
  · replace h := h.1 hc
    refine at_iconst (v := (-1)) C dX9_passage_32 (by decide) ?_
    exact ret _ _ _ _ dX9_passage_33 h
  · replace h := h.2 hc
    refine at_iload_n C dX9_passage_9 1 rfl ?_
    refine at_bipush (v := 6) C dX9_passage_10 (by decide) ?_
    refine at_icmp_ge (tgt := 32) C dX9_passage_12 (by decide) (fun hc => ?_) (fun hc => ?_)
    · replace h := h.1 hc
      refine at_iconst (v := (-1)) C dX9_passage_32 (by decide) ?_
      exact ret _ _ _ _ dX9_passage_33 h
    · replace h := h.2 hc
      refine at_aload_n C dX9_passage_15 0 rfl ?_
      refine at_iload_n C dX9_passage_16 2 rfl ?_
      refine at_callVi C (kX9_isKind l D ad T hI _ _ _ h) ok_X9_isKind m_X9_106 mi_X9_isKind ml_X9_isKind (wM_g0 T ad _) rfl ⟨rfl, rfl, Nat.le_of_ble_eq_true rfl, Nat.le_of_ble_eq_true rfl⟩ rfl rfl (Nat.le_of_ble_eq_true rfl) dX9_passage_17 (fun r3 s2 h => ?_)
      refine at_if_eq (tgt := 32) C dX9_passage_20 (by decide) (fun hc => ?_) (fun hc => ?_)
      · replace h := h.1 hc
        refine at_iconst (v := (-1)) C dX9_passage_32 (by decide) ?_
        exact ret _ _ _ _ dX9_passage_33 h
      · replace h := h.2 hc
        refine at_iload_n C dX9_passage_23 3 rfl ?_
        refine at_if_lt (tgt := 32) C dX9_passage_24 (by decide) (fun hc => ?_) (fun hc => ?_)
        · replace h := h.1 hc
          refine at_iconst (v := (-1)) C dX9_passage_32 (by decide) ?_
          exact ret _ _ _ _ dX9_passage_33 h
        · replace h := h.2 hc
          refine at_iload_n C dX9_passage_27 3 rfl ?_
          refine at_iconst (v := 2) C dX9_passage_28 (by decide) ?_
          refine at_icmp_le (tgt := 34) C dX9_passage_29 (by decide) (fun hc => ?_) (fun hc => ?_)
          · replace h := h.1 hc
            refine at_aload_n C dX9_passage_34 0 rfl ?_
            refine at_iload_n C dX9_passage_35 1 rfl ?_
            refine at_callVv C (kX9_pairsOf l D ad T hI _ _ _ h) ok_X9_pairsOf m_X9_154 mi_X9_pairsOf ml_X9_pairsOf (wM_g0 T ad _) rfl ⟨rfl, rfl, Nat.le_of_ble_eq_true rfl, Nat.le_of_ble_eq_true rfl⟩ rfl rfl (Nat.le_of_ble_eq_true rfl) dX9_passage_36 (fun s4 h => ?_)
            refine at_aload_n C dX9_passage_39 0 rfl ?_
            refine at_iload_n C dX9_passage_40 1 rfl ?_
            refine at_iload_n C dX9_passage_41 2 rfl ?_
            refine at_sipush (v := 300) C dX9_passage_42 (by decide) ?_
            refine at_callVi C (kX9_comeBy l D ad T hI _ _ _ _ _ h) ok_X9_comeBy m_X9_199 mi_X9_comeBy ml_X9_comeBy (wM_g0 T ad _) rfl ⟨rfl, rfl, Nat.le_of_ble_eq_true rfl, Nat.le_of_ble_eq_true rfl⟩ rfl rfl (Nat.le_of_ble_eq_true rfl) dX9_passage_45 (fun r7 s6 h => ?_)
            refine at_istore (lv' := [(0, .ref (ad 0)), (1, .int v1), (2, .int v2), (3, .int v3), (4, .int r7)]) C dX9_passage_48 (by decide) [1, 2, 3, 4, 0] rfl ?_
            refine at_iload C dX9_passage_50 4 rfl ?_
            refine at_if_ne (tgt := 57) C dX9_passage_52 (by decide) (fun hc => ?_) (fun hc => ?_)
            · replace h := h.1 hc
              refine at_iconst (v := 0) C dX9_passage_57 (by decide) ?_
              refine at_istore (lv' := [(0, .ref (ad 0)), (1, .int v1), (2, .int v2), (3, .int v3), (4, .int r7), (5, .int 0)]) C dX9_passage_58 (by decide) [1, 2, 3, 4, 5, 0] rfl ?_
              refine at_iconst (v := 0) C dX9_passage_60 (by decide) ?_
              refine at_istore (lv' := [(0, .ref (ad 0)), (1, .int v1), (2, .int v2), (3, .int v3), (4, .int r7), (5, .int 0), (6, .int 0)]) C dX9_passage_61 (by decide) [1, 2, 3, 4, 5, 6, 0] rfl ?_
              obtain ⟨n, h⟩ := h
              exact t63  n _ _ _ _ _ _ _ h
            · replace h := h.2 hc
              refine at_iconst (v := (-1)) C dX9_passage_55 (by decide) ?_
              exact ret _ _ _ _ dX9_passage_56 h
          · replace h := h.2 hc
            refine at_iconst (v := (-1)) C dX9_passage_32 (by decide) ?_
            exact ret _ _ _ _ dX9_passage_33 h
def pX9_change (v1 : Int32) (v2 : Int32) (u : SM) (Q : Int32 → SM → Prop) : Prop := ∀ s1 : SM, s1 = (st_up u.1 0 0 0, u.2) → ((v1 < 0 → (Q (-2) s1)) ∧ (¬ v1 < 0 → ((6 ≤ v1 → (Q (-2) s1)) ∧ (¬ 6 ≤ v1 → ((v2 < 0 → (Q (-2) s1)) ∧ (¬ v2 < 0 → ((v2 < 6 → (pX9_total v1 s1 (fun r3 s2 => (pX9_birdsOf v1 (-1) s2 (fun r5 s4 => ∀ x6 : Int64, x6 = (1000 * (Int32.toInt64 r5)) → (pX9_total v2 s4 (fun r8 s7 => (pX9_birdsOf v2 (-1) s7 (fun r10 s9 => ∀ x11 : Int64, x11 = (1000 * (Int32.toInt64 r10)) → (((lg_cmp x11 r3) ≤ 0 → ((0 ≤ (lg_cmp r8 x6) → (Q 0 s9)) ∧ (¬ 0 ≤ (lg_cmp r8 x6) → (Q (-1) s9)))) ∧ (¬ (lg_cmp x11 r3) ≤ 0 → (Q 1 s9)))))))))))) ∧ (¬ v2 < 6 → (Q (-2) s1)))))))))
set_option maxRecDepth 100000 in
set_option maxHeartbeats 4000000 in
theorem kX9_change (l : Launch) (D : va_G) (ad : Nat → Nat) (T : TT) (hI : injA 27 ad) (v1 : Int32) (v2 : Int32) (u : SM) (Q : Int32 → SM → Prop) (h : pX9_change v1 v2 u Q) : Ki (KM l D ad T) (wM T ad) yX9_change cX9_change 11 (some .int) { frames := 19, cells := 0, slots := 0, locals := 424 } [.ref (ad 0), .int v1, .int v2] (wM T ad u) Q := by
  refine st_MI (fr := 19) (lo := 424) (by decide) ⟨rfl, rfl⟩ rfl (Nat.le_of_ble_eq_true rfl) rfl (fun X C hD ret => ?_)
  replace hD : ∀ u, DX X (wM T ad u) := fun u => hD _ (wM_D hI T u)
  unfold pX9_change at h
  refine at_aload_n C dX9_change_0 0 rfl ?_
  refine at_iconst (v := 0) C dX9_change_1 (by decide) ?_
  refine pM_X9_1 C hD dX9_change_2 (fun s1 es1 => ?_)
  replace h := h s1 es1
  refine at_iload_n C dX9_change_5 1 rfl ?_
  refine at_if_lt (tgt := 25) C dX9_change_6 (by decide) (fun hc => ?_) (fun hc => ?_)
  · replace h := h.1 hc
    refine at_bipush (v := (-2)) C dX9_change_25 (by decide) ?_
    exact ret _ _ _ _ dX9_change_27 h
  · replace h := h.2 hc
    refine at_iload_n C dX9_change_9 1 rfl ?_
    refine at_bipush (v := 6) C dX9_change_10 (by decide) ?_
    refine at_icmp_ge (tgt := 25) C dX9_change_12 (by decide) (fun hc => ?_) (fun hc => ?_)
    · replace h := h.1 hc
      refine at_bipush (v := (-2)) C dX9_change_25 (by decide) ?_
      exact ret _ _ _ _ dX9_change_27 h
    · replace h := h.2 hc
      refine at_iload_n C dX9_change_15 2 rfl ?_
      refine at_if_lt (tgt := 25) C dX9_change_16 (by decide) (fun hc => ?_) (fun hc => ?_)
      · replace h := h.1 hc
        refine at_bipush (v := (-2)) C dX9_change_25 (by decide) ?_
        exact ret _ _ _ _ dX9_change_27 h
      · replace h := h.2 hc
        refine at_iload_n C dX9_change_19 2 rfl ?_
        refine at_bipush (v := 6) C dX9_change_20 (by decide) ?_
        refine at_icmp_lt (tgt := 28) C dX9_change_22 (by decide) (fun hc => ?_) (fun hc => ?_)
        · replace h := h.1 hc
          refine at_aload_n C dX9_change_28 0 rfl ?_
          refine at_iload_n C dX9_change_29 1 rfl ?_
          refine at_callVl C (kX9_total l D ad T hI _ _ _ h) ok_X9_total m_X9_196 mi_X9_total ml_X9_total (wM_g0 T ad _) rfl ⟨rfl, rfl, Nat.le_of_ble_eq_true rfl, Nat.le_of_ble_eq_true rfl⟩ rfl rfl (Nat.le_of_ble_eq_true rfl) dX9_change_30 (fun r3 s2 h => ?_)
          refine at_lstore_n (lv' := [(0, .ref (ad 0)), (1, .int v1), (2, .int v2), (3, .long r3)]) C dX9_change_33 (by decide) [1, 2, 3, 0] rfl ?_
          refine at_ldc2 (v := 1000) C m_X9_190 dX9_change_34 ?_
          refine at_aload_n C dX9_change_37 0 rfl ?_
          refine at_iload_n C dX9_change_38 1 rfl ?_
          refine at_iconst (v := (-1)) C dX9_change_39 (by decide) ?_
          refine at_callVi C (kX9_birdsOf l D ad T hI _ _ _ _ h) ok_X9_birdsOf m_X9_183 mi_X9_birdsOf ml_X9_birdsOf (wM_g0 T ad _) rfl ⟨rfl, rfl, Nat.le_of_ble_eq_true rfl, Nat.le_of_ble_eq_true rfl⟩ rfl rfl (Nat.le_of_ble_eq_true rfl) dX9_change_40 (fun r5 s4 h => ?_)
          refine at_i2l C dX9_change_43 ?_
          refine at_lmul C dX9_change_44 ?_
          refine at_topl (fun x6 ex6 => ?_)
          replace h := h x6 ex6
          refine at_lstore (lv' := [(0, .ref (ad 0)), (1, .int v1), (2, .int v2), (3, .long r3), (5, .long x6)]) C dX9_change_45 (by decide) [1, 2, 3, 4, 0] rfl ?_
          refine at_aload_n C dX9_change_47 0 rfl ?_
          refine at_iload_n C dX9_change_48 2 rfl ?_
          refine at_callVl C (kX9_total l D ad T hI _ _ _ h) ok_X9_total m_X9_196 mi_X9_total ml_X9_total (wM_g0 T ad _) rfl ⟨rfl, rfl, Nat.le_of_ble_eq_true rfl, Nat.le_of_ble_eq_true rfl⟩ rfl rfl (Nat.le_of_ble_eq_true rfl) dX9_change_49 (fun r8 s7 h => ?_)
          refine at_lstore (lv' := [(0, .ref (ad 0)), (1, .int v1), (2, .int v2), (3, .long r3), (5, .long x6), (7, .long r8)]) C dX9_change_52 (by decide) [1, 2, 3, 4, 5, 0] rfl ?_
          refine at_ldc2 (v := 1000) C m_X9_190 dX9_change_54 ?_
          refine at_aload_n C dX9_change_57 0 rfl ?_
          refine at_iload_n C dX9_change_58 2 rfl ?_
          refine at_iconst (v := (-1)) C dX9_change_59 (by decide) ?_
          refine at_callVi C (kX9_birdsOf l D ad T hI _ _ _ _ h) ok_X9_birdsOf m_X9_183 mi_X9_birdsOf ml_X9_birdsOf (wM_g0 T ad _) rfl ⟨rfl, rfl, Nat.le_of_ble_eq_true rfl, Nat.le_of_ble_eq_true rfl⟩ rfl rfl (Nat.le_of_ble_eq_true rfl) dX9_change_60 (fun r10 s9 h => ?_)
          refine at_i2l C dX9_change_63 ?_
          refine at_lmul C dX9_change_64 ?_
          refine at_topl (fun x11 ex11 => ?_)
          replace h := h x11 ex11
          refine at_lstore (lv' := [(0, .ref (ad 0)), (1, .int v1), (2, .int v2), (3, .long r3), (5, .long x6), (7, .long r8), (9, .long x11)]) C dX9_change_65 (by decide) [1, 2, 3, 4, 5, 6, 0] rfl ?_
          refine at_lload C dX9_change_67 6 rfl ?_
          refine at_lload_n C dX9_change_69 3 rfl ?_
          refine at_lcmp C dX9_change_70 ?_
          refine at_if_le (tgt := 78) C dX9_change_71 (by decide) (fun hc => ?_) (fun hc => ?_)
          · replace h := h.1 hc
            refine at_lload C dX9_change_78 5 rfl ?_
            refine at_lload C dX9_change_80 4 rfl ?_
            refine at_lcmp C dX9_change_82 ?_
            refine at_if_ge (tgt := 90) C dX9_change_83 (by decide) (fun hc => ?_) (fun hc => ?_)
            · replace h := h.1 hc
              refine at_iconst (v := 0) C dX9_change_90 (by decide) ?_
              exact ret _ _ _ _ dX9_change_91 h
            · replace h := h.2 hc
              refine at_iconst (v := (-1)) C dX9_change_86 (by decide) ?_
              refine at_goto (tgt := 91) C dX9_change_87 (by decide) ?_
              exact ret _ _ _ _ dX9_change_91 h
          · replace h := h.2 hc
            refine at_iconst (v := 1) C dX9_change_74 (by decide) ?_
            refine at_goto (tgt := 91) C dX9_change_75 (by decide) ?_
            exact ret _ _ _ _ dX9_change_91 h
        · replace h := h.2 hc
          refine at_bipush (v := (-2)) C dX9_change_25 (by decide) ?_
          exact ret _ _ _ _ dX9_change_27 h
