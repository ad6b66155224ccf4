def qX9_isKnown_36  (Q : Int32 → SM → Prop) (k0 : Int32) (k1 : Int32) (u : SM) : Prop := ((k0 < k1 → (Q 0 u)) ∧ (¬ k0 < k1 → (Q 1 u)))
def pX9_isKnown (v1 : Int32) (u : SM) (Q : Int32 → SM → Prop) : Prop := ((v1 < 0 → (Q 0 u)) ∧ (¬ v1 < 0 → (((u.1 0 9) ≤ v1 → (Q 0 u)) ∧ (¬ (u.1 0 9) ≤ v1 → (vp_in v1 300 ∧ ((0 ≤ (u.1 0 8) → (qX9_isKnown_36  Q (u.1 0 8) (u.1 10 (Int32.toNatClampNeg v1)) u)) ∧ (¬ 0 ≤ (u.1 0 8) → (qX9_isKnown_36  Q (u.1 0 7) (u.1 10 (Int32.toNatClampNeg v1)) u))))))))
set_option maxRecDepth 100000 in
set_option maxHeartbeats 4000000 in
theorem kX9_isKnown (l : Launch) (D : va_G) (ad : Nat → Nat) (T : TT) (hI : injA 27 ad) (v1 : Int32) (u : SM) (Q : Int32 → SM → Prop) (h : pX9_isKnown v1 u Q) : Ki (KM l D ad T) (wM T ad) yX9_isKnown cX9_isKnown 2 (some .boolean) { frames := 0, cells := 0, slots := 0, locals := 0 } [.ref (ad 0), .int v1] (wM T ad u) Q := by
  refine st_MZ (fr := 0) (lo := 0) (by decide) ⟨rfl, rfl⟩ rfl (Nat.le_of_ble_eq_true rfl) rfl (fun X C hD ret => ?_)
  replace hD : ∀ u, DX X (wM T ad u) := fun u => hD _ (wM_D hI T u)
  have t36 : ∀ (k0 : Int32) (k1 : Int32) (u : SM), qX9_isKnown_36  Q k0 k1 u → At X 2 (wM T ad u) 36 [] [.int k0, .int k1] := by
    intro k0 k1 u h
    unfold qX9_isKnown_36 at h
    refine at_icmp_gt (tgt := 43) C dX9_isKnown_36 (by decide) (fun hc => ?_) (fun hc => ?_)
    · replace h := h.1 hc
      refine at_iconst (v := 0) C dX9_isKnown_43 (by decide) ?_
      exact ret _ _ _ _ dX9_isKnown_44 rfl h
    · replace h := h.2 hc
      refine at_iconst (v := 1) C dX9_isKnown_39 (by decide) ?_
      refine at_goto (tgt := 44) C dX9_isKnown_40 (by decide) ?_
      exact ret _ _ _ _ dX9_isKnown_44 rfl h
  unfold pX9_isKnown at h
  refine at_iload_n C dX9_isKnown_0 1 rfl ?_
  refine at_if_lt (tgt := 43) C dX9_isKnown_1 (by decide) (fun hc => ?_) (fun hc => ?_)
  · replace h := h.1 hc
    refine at_iconst (v := 0) C dX9_isKnown_43 (by decide) ?_
    exact ret _ _ _ _ dX9_isKnown_44 rfl h
  · replace h := h.2 hc
    refine at_iload_n C dX9_isKnown_4 1 rfl ?_
    refine at_aload_n C dX9_isKnown_5 0 rfl ?_
    refine gM_X9_103 C dX9_isKnown_6 ?_
    refine at_icmp_ge (tgt := 43) C dX9_isKnown_9 (by decide) (fun hc => ?_) (fun hc => ?_)
    · replace h := h.1 hc
      refine at_iconst (v := 0) C dX9_isKnown_43 (by decide) ?_
      exact ret _ _ _ _ dX9_isKnown_44 rfl h
    · replace h := h.2 hc
      refine at_aload_n C dX9_isKnown_12 0 rfl ?_
      refine gM_X9_47 C dX9_isKnown_13 ?_
      refine at_iload_n C dX9_isKnown_16 1 rfl ?_
      obtain ⟨hi, h⟩ := h
      refine rM_10 C hi dX9_isKnown_17 ?_
      refine at_aload_n C dX9_isKnown_18 0 rfl ?_
      refine gM_X9_29 C dX9_isKnown_19 ?_
      refine at_if_ge (tgt := 32) C dX9_isKnown_22 (by decide) (fun hc => ?_) (fun hc => ?_)
      · replace h := h.1 hc
        refine at_aload_n C dX9_isKnown_32 0 rfl ?_
        refine gM_X9_29 C dX9_isKnown_33 ?_
        refine at_sub [] rfl ?_
        exact t36  _ _ _ h
      · replace h := h.2 hc
        refine at_aload_n C dX9_isKnown_25 0 rfl ?_
        refine gM_X9_110 C dX9_isKnown_26 ?_
        refine at_goto (tgt := 36) C dX9_isKnown_29 (by decide) ?_
        refine at_sub [] rfl ?_
        exact t36  _ _ _ h
theorem m_X9_137 : Cond.methodLink RX9 137 yX9_isKnown ∈ gW := gW_in 893 (by decide +kernel) (by decide +kernel)
theorem mc_X9_isKnown : Cond.code yX9_isKnown cX9_isKnown 2 (some .boolean) ∈ gW := gW_in 896 (by decide +kernel) (by decide +kernel)
theorem ok_X9_isKnown : okM yX9_isKnown cX9_isKnown 2 (some .boolean) 1 := ⟨mc_X9_isKnown, mz_RX9, by decide +kernel⟩
theorem mi_X9_isKnown : Cond.instanceMethod yX9_isKnown ∈ gW := gW_in 895 (by decide +kernel) (by decide +kernel)
theorem ml_X9_isKnown : Cond.selects RX9 yX9_isKnown yX9_isKnown ∈ gW := gW_in 59 (by decide +kernel) (by decide +kernel)
theorem m_X9_57 : Cond.fieldLink RX9 57 RX9 "upper" "[I" ∈ gW := gW_in 765 (by decide +kernel) (by decide +kernel)
theorem gM_X9_57 {X : XT} {l : Launch} {D : va_G} {ad : Nat → Nat} {T : TT} {cc : ByteArray} {nL fr lo : Nat} {u : SM} {pc : Nat} {lv : List (Nat × Value)} {st : List Value} (C : Cx X (KM l D ad T) cc RX9 nL fr lo) (d : decode cc pc = .ok (.getfield 57, 3)) (kk : At X nL (wM T ad u) (pc + 3) lv (.ref (ad 13) :: st)) : At X nL (wM T ad u) pc lv (.ref (ad 0) :: st) := at_get C ingX9 (ci := 9) rfl 0 (wM_g0 T ad u) 18 (by decide) m_X9_57 rfl rfl d kk
theorem m_X9_60 : Cond.fieldLink RX9 60 RX9 "lower" "[I" ∈ gW := gW_in 766 (by decide +kernel) (by decide +kernel)
theorem gM_X9_60 {X : XT} {l : Launch} {D : va_G} {ad : Nat → Nat} {T : TT} {cc : ByteArray} {nL fr lo : Nat} {u : SM} {pc : Nat} {lv : List (Nat × Value)} {st : List Value} (C : Cx X (KM l D ad T) cc RX9 nL fr lo) (d : decode cc pc = .ok (.getfield 60, 3)) (kk : At X nL (wM T ad u) (pc + 3) lv (.ref (ad 14) :: st)) : At X nL (wM T ad u) pc lv (.ref (ad 0) :: st) := at_get C ingX9 (ci := 9) rfl 0 (wM_g0 T ad u) 19 (by decide) m_X9_60 rfl rfl d kk
theorem m_X9_134 : Cond.fieldLink RX9 134 RX9 "ones" "I" ∈ gW := gW_in 767 (by decide +kernel) (by decide +kernel)
theorem pM_X9_134 {X : XT} {l : Launch} {D : va_G} {ad : Nat → Nat} {T : TT} {cc : ByteArray} {nL fr lo : Nat} {u : SM} {pc : Nat} {lv : List (Nat × Value)} {st : List Value} {x : Int32} (C : Cx X (KM l D ad T) cc RX9 nL fr lo) (hD : ∀ u, DX X (wM T ad u)) (d : decode cc pc = .ok (.putfield 134, 3)) (kk : ∀ u2 : SM, u2 = (st_up u.1 0 20 x, u.2) → At X nL (wM T ad u2) (pc + 3) lv st) : At X nL (wM T ad u) pc lv (.int x :: .ref (ad 0) :: st) := at_puti C ingX9 tyX9 tyX9_ok nmX9 (ci := 9) rfl (hD u) 0 (wM_g0 T ad u) 20 (by decide) m_X9_134 rfl rfl (by decide +kernel) (Nat.le_of_ble_eq_true rfl) rfl d (kk _ rfl)
theorem m_X9_128 : Cond.fieldLink RX9 128 RX9 "twos" "I" ∈ gW := gW_in 768 (by decide +kernel) (by decide +kernel)
theorem pM_X9_128 {X : XT} {l : Launch} {D : va_G} {ad : Nat → Nat} {T : TT} {cc : ByteArray} {nL fr lo : Nat} {u : SM} {pc : Nat} {lv : List (Nat × Value)} {st : List Value} {x : Int32} (C : Cx X (KM l D ad T) cc RX9 nL fr lo) (hD : ∀ u, DX X (wM T ad u)) (d : decode cc pc = .ok (.putfield 128, 3)) (kk : ∀ u2 : SM, u2 = (st_up u.1 0 21 x, u.2) → At X nL (wM T ad u2) (pc + 3) lv st) : At X nL (wM T ad u) pc lv (.int x :: .ref (ad 0) :: st) := at_puti C ingX9 tyX9 tyX9_ok nmX9 (ci := 9) rfl (hD u) 0 (wM_g0 T ad u) 21 (by decide) m_X9_128 rfl rfl (by decide +kernel) (Nat.le_of_ble_eq_true rfl) rfl d (kk _ rfl)
theorem m_X9_63 : Cond.fieldLink RX9 63 RX9 "one" "[I" ∈ gW := gW_in 769 (by decide +kernel) (by decide +kernel)
theorem gM_X9_63 {X : XT} {l : Launch} {D : va_G} {ad : Nat → Nat} {T : TT} {cc : ByteArray} {nL fr lo : Nat} {u : SM} {pc : Nat} {lv : List (Nat × Value)} {st : List Value} (C : Cx X (KM l D ad T) cc RX9 nL fr lo) (d : decode cc pc = .ok (.getfield 63, 3)) (kk : At X nL (wM T ad u) (pc + 3) lv (.ref (ad 15) :: st)) : At X nL (wM T ad u) pc lv (.ref (ad 0) :: st) := at_get C ingX9 (ci := 9) rfl 0 (wM_g0 T ad u) 22 (by decide) m_X9_63 rfl rfl d kk
theorem gM_X9_134 {X : XT} {l : Launch} {D : va_G} {ad : Nat → Nat} {T : TT} {cc : ByteArray} {nL fr lo : Nat} {u : SM} {pc : Nat} {lv : List (Nat × Value)} {st : List Value} (C : Cx X (KM l D ad T) cc RX9 nL fr lo) (d : decode cc pc = .ok (.getfield 134, 3)) (kk : At X nL (wM T ad u) (pc + 3) lv (.int (u.1 0 20) :: st)) : At X nL (wM T ad u) pc lv (.ref (ad 0) :: st) := at_get C ingX9 (ci := 9) rfl 0 (wM_g0 T ad u) 20 (by decide) m_X9_134 rfl rfl d kk
theorem m_X9_75 : Cond.fieldLink RX9 75 RX9 "isSet" "[Z" ∈ gW := gW_in 773 (by decide +kernel) (by decide +kernel)
theorem gM_X9_75 {X : XT} {l : Launch} {D : va_G} {ad : Nat → Nat} {T : TT} {cc : ByteArray} {nL fr lo : Nat} {u : SM} {pc : Nat} {lv : List (Nat × Value)} {st : List Value} (C : Cx X (KM l D ad T) cc RX9 nL fr lo) (d : decode cc pc = .ok (.getfield 75, 3)) (kk : At X nL (wM T ad u) (pc + 3) lv (.ref (ad 19) :: st)) : At X nL (wM T ad u) pc lv (.ref (ad 0) :: st) := at_get C ingX9 (ci := 9) rfl 0 (wM_g0 T ad u) 26 (by decide) m_X9_75 rfl rfl d kk
theorem m_X9_66 : Cond.fieldLink RX9 66 RX9 "two" "[I" ∈ gW := gW_in 770 (by decide +kernel) (by decide +kernel)
theorem gM_X9_66 {X : XT} {l : Launch} {D : va_G} {ad : Nat → Nat} {T : TT} {cc : ByteArray} {nL fr lo : Nat} {u : SM} {pc : Nat} {lv : List (Nat × Value)} {st : List Value} (C : Cx X (KM l D ad T) cc RX9 nL fr lo) (d : decode cc pc = .ok (.getfield 66, 3)) (kk : At X nL (wM T ad u) (pc + 3) lv (.ref (ad 16) :: st)) : At X nL (wM T ad u) pc lv (.ref (ad 0) :: st) := at_get C ingX9 (ci := 9) rfl 0 (wM_g0 T ad u) 23 (by decide) m_X9_66 rfl rfl d kk
theorem gM_X9_128 {X : XT} {l : Launch} {D : va_G} {ad : Nat → Nat} {T : TT} {cc : ByteArray} {nL fr lo : Nat} {u : SM} {pc : Nat} {lv : List (Nat × Value)} {st : List Value} (C : Cx X (KM l D ad T) cc RX9 nL fr lo) (d : decode cc pc = .ok (.getfield 128, 3)) (kk : At X nL (wM T ad u) (pc + 3) lv (.int (u.1 0 21) :: st)) : At X nL (wM T ad u) pc lv (.ref (ad 0) :: st) := at_get C ingX9 (ci := 9) rfl 0 (wM_g0 T ad u) 21 (by decide) m_X9_128 rfl rfl d kk
theorem m_X9_69 : Cond.fieldLink RX9 69 RX9 "isMet" "[Z" ∈ gW := gW_in 771 (by decide +kernel) (by decide +kernel)
theorem gM_X9_69 {X : XT} {l : Launch} {D : va_G} {ad : Nat → Nat} {T : TT} {cc : ByteArray} {nL fr lo : Nat} {u : SM} {pc : Nat} {lv : List (Nat × Value)} {st : List Value} (C : Cx X (KM l D ad T) cc RX9 nL fr lo) (d : decode cc pc = .ok (.getfield 69, 3)) (kk : At X nL (wM T ad u) (pc + 3) lv (.ref (ad 17) :: st)) : At X nL (wM T ad u) pc lv (.ref (ad 0) :: st) := at_get C ingX9 (ci := 9) rfl 0 (wM_g0 T ad u) 24 (by decide) m_X9_69 rfl rfl d kk
def qX9_isUnder_21  (Q : Int32 → SM → Prop) (v2 : Int32) (v3 : Int32) (u : SM) : Prop := ((¬ v3 = v2 → (Q 0 u)) ∧ (v3 = v2 → (Q 1 u)))
def qX9_isUnder_2 (R2 : Int32 → Int32 → SM → Prop) (Q : Int32 → SM → Prop) (v2 : Int32) (v3 : Int32) (u : SM) : Prop := ((v3 < 0 → (qX9_isUnder_21  Q v2 v3 u)) ∧ (¬ v3 < 0 → ((v3 = v2 → (qX9_isUnder_21  Q v2 v3 u)) ∧ (¬ v3 = v2 → (vp_in v3 20 ∧ ∀ x1 : Int32, x1 = (u.1 2 (Int32.toNatClampNeg v3)) → R2 v2 x1 u)))))
def qX9_isUnder_l2  (Q : Int32 → SM → Prop) : Nat → Int32 → Int32 → SM → Prop
  | 0 => fun _ _ _ => False
  | n + 1 => qX9_isUnder_2 (qX9_isUnder_l2  Q n) Q
def pX9_isUnder (v1 : Int32) (v2 : Int32) (u : SM) (Q : Int32 → SM → Prop) : Prop := (∃ n, qX9_isUnder_l2  Q n v2 v1 u)
set_option maxRecDepth 100000 in
set_option maxHeartbeats 4000000 in
theorem kX9_isUnder (l : Launch) (D : va_G) (ad : Nat → Nat) (T : TT) (hI : injA 27 ad) (v1 : Int32) (v2 : Int32) (u : SM) (Q : Int32 → SM → Prop) (h : pX9_isUnder v1 v2 u Q) : Ki (KM l D ad T) (wM T ad) yX9_isUnder cX9_isUnder 4 (some .boolean) { frames := 0, cells := 0, slots := 0, locals := 0 } [.ref (ad 0), .int v1, .int v2] (wM T ad u) Q := by
  refine st_MZ (fr := 0) (lo := 0) (by decide) ⟨rfl, rfl⟩ rfl (Nat.le_of_ble_eq_true rfl) rfl (fun X C hD ret => ?_)
  replace hD : ∀ u, DX X (wM T ad u) := fun u => hD _ (wM_D hI T u)
  have t21 : ∀ (v2 : Int32) (v3 : Int32) (u : SM), qX9_isUnder_21  Q v2 v3 u → At X 4 (wM T ad u) 21 [(2, .int v2), (3, .int v3)] [] := by
    intro v2 v3 u h
    unfold qX9_isUnder_21 at h
    refine at_iload_n C dX9_isUnder_21 1 rfl ?_
    refine at_iload_n C dX9_isUnder_22 0 rfl ?_
    refine at_icmp_ne (tgt := 30) C dX9_isUnder_23 (by decide) (fun hc => ?_) (fun hc => ?_)
    · replace h := h.1 hc
      refine at_iconst (v := 0) C dX9_isUnder_30 (by decide) ?_
      exact ret _ _ _ _ dX9_isUnder_31 rfl h
    · replace h := h.2 hc
      refine at_iconst (v := 1) C dX9_isUnder_26 (by decide) ?_
      refine at_goto (tgt := 31) C dX9_isUnder_27 (by decide) ?_
      exact ret _ _ _ _ dX9_isUnder_31 rfl h
  have tb2 : ∀ (R2 : Int32 → Int32 → SM → Prop) (hR2 : ∀ (v2 : Int32) (v3 : Int32) (u : SM), R2 v2 v3 u → At X 4 (wM T ad u) 2 [(0, .ref (ad 0)), (2, .int v2), (3, .int v3)] []) (v2 : Int32) (v3 : Int32) (u : SM), qX9_isUnder_2 R2 Q v2 v3 u → At X 4 (wM T ad u) 2 [(0, .ref (ad 0)), (2, .int v2), (3, .int v3)] [] := by
    intro R2 hR2 v2 v3 u h
    unfold qX9_isUnder_2 at h
    refine at_iload_n C dX9_isUnder_2 2 rfl ?_
    refine at_if_lt (tgt := 21) C dX9_isUnder_3 (by decide) (fun hc => ?_) (fun hc => ?_)
    · replace h := h.1 hc
      refine at_sub [1, 2] rfl ?_
      exact t21  _ _ _ h
    · replace h := h.2 hc
      refine at_iload_n C dX9_isUnder_6 2 rfl ?_
      refine at_iload_n C dX9_isUnder_7 1 rfl ?_
      refine at_icmp_eq (tgt := 21) C dX9_isUnder_8 (by decide) (fun hc => ?_) (fun hc => ?_)
      · replace h := h.1 hc
        refine at_sub [1, 2] rfl ?_
        exact t21  _ _ _ h
      · replace h := h.2 hc
        refine at_aload_n C dX9_isUnder_11 0 rfl ?_
        refine gM_X9_20 C dX9_isUnder_12 ?_
        refine at_iload_n C dX9_isUnder_15 2 rfl ?_
        obtain ⟨hi, h⟩ := h
        refine rM_2 C hi dX9_isUnder_16 ?_
        refine at_topi (fun x1 ex1 => ?_)
        replace h := h x1 ex1
        refine at_istore_n (lv' := [(0, .ref (ad 0)), (2, .int v2), (3, .int x1)]) C dX9_isUnder_17 (by decide) [1, 2, 0] rfl ?_
        refine at_goto (tgt := 2) C dX9_isUnder_18 (by decide) ?_
        exact hR2 _ _ _ h
  have t2 : ∀ (n : Nat) (v2 : Int32) (v3 : Int32) (u : SM), qX9_isUnder_l2  Q n v2 v3 u → At X 4 (wM T ad u) 2 [(0, .ref (ad 0)), (2, .int v2), (3, .int v3)] [] := by
    intro  n
    induction n with
    | zero => intro v2 v3 u h; exact False.elim h
    | succ n ih => intro v2 v3 u h; exact tb2 (qX9_isUnder_l2  Q n) ih v2 v3 u h
  unfold pX9_isUnder at h
  refine at_iload_n C dX9_isUnder_0 1 rfl ?_
  refine at_istore_n (lv' := [(0, .ref (ad 0)), (1, .int v1), (2, .int v2), (3, .int v1)]) C dX9_isUnder_1 (by decide) [1, 2, 3, 0] rfl ?_
  refine at_sub [0, 2, 3] rfl ?_
  obtain ⟨n, h⟩ := h
  exact t2  n _ _ _ h
theorem m_X9_121 : Cond.methodLink RX9 121 yX9_isUnder ∈ gW := gW_in 913 (by decide +kernel) (by decide +kernel)
theorem mc_X9_isUnder : Cond.code yX9_isUnder cX9_isUnder 4 (some .boolean) ∈ gW := gW_in 916 (by decide +kernel) (by decide +kernel)
theorem ok_X9_isUnder : okM yX9_isUnder cX9_isUnder 4 (some .boolean) 2 := ⟨mc_X9_isUnder, mz_RX9, by decide +kernel⟩
theorem mi_X9_isUnder : Cond.instanceMethod yX9_isUnder ∈ gW := gW_in 915 (by decide +kernel) (by decide +kernel)
theorem ml_X9_isUnder : Cond.selects RX9 yX9_isUnder yX9_isUnder ∈ gW := gW_in 64 (by decide +kernel) (by decide +kernel)
def qX9_depth_9 (R9 : Int32 → Int32 → SM → Prop) (Q : Int32 → SM → Prop) (v2 : Int32) (v3 : Int32) (u : SM) : Prop := ((v3 < 0 → (Q v2 u)) ∧ (¬ v3 < 0 → ∀ x2 : Int32, x2 = v2 + 1 → (vp_in v3 20 ∧ ∀ x3 : Int32, x3 = (u.1 2 (Int32.toNatClampNeg v3)) → R9 x2 x3 u)))
def qX9_depth_l9  (Q : Int32 → SM → Prop) : Nat → Int32 → Int32 → SM → Prop
  | 0 => fun _ _ _ => False
  | n + 1 => qX9_depth_9 (qX9_depth_l9  Q n) Q
def pX9_depth (v1 : Int32) (u : SM) (Q : Int32 → SM → Prop) : Prop := (vp_in v1 20 ∧ ∀ x1 : Int32, x1 = (u.1 2 (Int32.toNatClampNeg v1)) → (∃ n, qX9_depth_l9  Q n 0 x1 u))
set_option maxRecDepth 100000 in
set_option maxHeartbeats 4000000 in
theorem kX9_depth (l : Launch) (D : va_G) (ad : Nat → Nat) (T : TT) (hI : injA 27 ad) (v1 : Int32) (u : SM) (Q : Int32 → SM → Prop) (h : pX9_depth v1 u Q) : Ki (KM l D ad T) (wM T ad) yX9_depth cX9_depth 4 (some .int) { frames := 0, cells := 0, slots := 0, locals := 0 } [.ref (ad 0), .int v1] (wM T ad u) Q := by
  refine st_MI (fr := 0) (lo := 0) (by decide) ⟨rfl, rfl⟩ rfl (Nat.le_of_ble_eq_true rfl) rfl (fun X C hD ret => ?_)
  replace hD : ∀ u, DX X (wM T ad u) := fun u => hD _ (wM_D hI T u)
  have tb9 : ∀ (R9 : Int32 → Int32 → SM → Prop) (hR9 : ∀ (v2 : Int32) (v3 : Int32) (u : SM), R9 v2 v3 u → At X 4 (wM T ad u) 9 [(0, .ref (ad 0)), (2, .int v2), (3, .int v3)] []) (v2 : Int32) (v3 : Int32) (u : SM), qX9_depth_9 R9 Q v2 v3 u → At X 4 (wM T ad u) 9 [(0, .ref (ad 0)), (2, .int v2), (3, .int v3)] [] := by
    intro R9 hR9 v2 v3 u h
    unfold qX9_depth_9 at h
    refine at_iload_n C dX9_depth_9 2 rfl ?_
    refine at_if_lt (tgt := 26) C dX9_depth_10 (by decide) (fun hc => ?_) (fun hc => ?_)
    · replace h := h.1 hc
      refine at_iload_n C dX9_depth_26 1 rfl ?_
      exact ret _ _ _ _ dX9_depth_27 h
    · replace h := h.2 hc
      obtain ⟨x2, ex2⟩ : ∃ y : Int32, y = v2 + 1 := ⟨_, rfl⟩
      replace h := h x2 ex2
      refine at_iinc (v := x2) (lv' := [(0, .ref (ad 0)), (2, .int x2), (3, .int v3)]) C dX9_depth_13 1 rfl (by rw [ex2]; rfl) (by decide) [1, 0, 2] rfl ?_
      refine at_aload_n C dX9_depth_16 0 rfl ?_
      refine gM_X9_20 C dX9_depth_17 ?_
      refine at_iload_n C dX9_depth_20 2 rfl ?_
      obtain ⟨hi, h⟩ := h
      refine rM_2 C hi dX9_depth_21 ?_
      refine at_topi (fun x3 ex3 => ?_)
      replace h := h x3 ex3
      refine at_istore_n (lv' := [(0, .ref (ad 0)), (2, .int x2), (3, .int x3)]) C dX9_depth_22 (by decide) [1, 2, 0] rfl ?_
      refine at_goto (tgt := 9) C dX9_depth_23 (by decide) ?_
      exact hR9 _ _ _ h
  have t9 : ∀ (n : Nat) (v2 : Int32) (v3 : Int32) (u : SM), qX9_depth_l9  Q n v2 v3 u → At X 4 (wM T ad u) 9 [(0, .ref (ad 0)), (2, .int v2), (3, .int v3)] [] := by
    intro  n
    induction n with
    | zero => intro v2 v3 u h; exact False.elim h
    | succ n ih => intro v2 v3 u h; exact tb9 (qX9_depth_l9  Q n) ih v2 v3 u h
  unfold pX9_depth at h
  refine at_iconst (v := 0) C dX9_depth_0 (by decide) ?_
  refine at_istore_n (lv' := [(0, .ref (ad 0)), (1, .int v1), (2, .int 0)]) C dX9_depth_1 (by decide) [1, 2, 0] rfl ?_
  refine at_aload_n C dX9_depth_2 0 rfl ?_
  refine gM_X9_20 C dX9_depth_3 ?_
  refine at_iload_n C dX9_depth_6 1 rfl ?_
  obtain ⟨hi, h⟩ := h
  refine rM_2 C hi dX9_depth_7 ?_
  refine at_topi (fun x1 ex1 => ?_)
  replace h := h x1 ex1
  refine at_istore_n (lv' := [(0, .ref (ad 0)), (1, .int v1), (2, .int 0), (3, .int x1)]) C dX9_depth_8 (by decide) [1, 2, 3, 0] rfl ?_
  refine at_sub [0, 2, 3] rfl ?_
  obtain ⟨n, h⟩ := h
  exact t9  n _ _ _ h
theorem m_X9_124 : Cond.methodLink RX9 124 yX9_depth ∈ gW := gW_in 917 (by decide +kernel) (by decide +kernel)
theorem mc_X9_depth : Cond.code yX9_depth cX9_depth 4 (some .int) ∈ gW := gW_in 920 (by decide +kernel) (by decide +kernel)
theorem ok_X9_depth : okM yX9_depth cX9_depth 4 (some .int) 1 := ⟨mc_X9_depth, mz_RX9, by decide +kernel⟩
theorem mi_X9_depth : Cond.instanceMethod yX9_depth ∈ gW := gW_in 919 (by decide +kernel) (by decide +kernel)
theorem ml_X9_depth : Cond.selects RX9 yX9_depth yX9_depth ∈ gW := gW_in 65 (by decide +kernel) (by decide +kernel)
def qX9_meets_57  (Q : Int32 → SM → Prop) (v1 : Int32) (v2 : Int32) (k0 : Int32) (u : SM) : Prop := (vp_in v2 300 ∧ (vp_in v1 300 ∧ ∀ x11 : Int32, x11 = ((u.1 7 (Int32.toNatClampNeg v2)) - (u.1 7 (Int32.toNatClampNeg v1))) → (vp_in v2 300 ∧ (vp_in (u.1 8 (Int32.toNatClampNeg v2)) 4 ∧ (vp_in v1 300 ∧ (vp_in (u.1 8 (Int32.toNatClampNeg v1)) 4 ∧ ∀ x12 : Int32, x12 = (((u.1 1 (Int32.toNatClampNeg (u.1 8 (Int32.toNatClampNeg v2)))) - (u.1 1 (Int32.toNatClampNeg (u.1 8 (Int32.toNatClampNeg v1))))) * 60) → ((x11 < 1 → (Q 0 u)) ∧ (¬ x11 < 1 → (vp_in k0 20 ∧ ((x12 < ((u.1 3 (Int32.toNatClampNeg k0)) * x11) → (Q 0 u)) ∧ (¬ x12 < ((u.1 3 (Int32.toNatClampNeg k0)) * x11) → (vp_in k0 20 ∧ ((((u.1 4 (Int32.toNatClampNeg k0)) * x11) < x12 → (Q 0 u)) ∧ (¬ ((u.1 4 (Int32.toNatClampNeg k0)) * x11) < x12 → (Q 1 u)))))))))))))))
def qX9_meets_37  (Q : Int32 → SM → Prop) (v1 : Int32) (v2 : Int32) (v3 : Int32) (v4 : Int32) (u : SM) : Prop := (pX9_depth v3 u (fun r8 s7 => (pX9_depth v4 s7 (fun r10 s9 => ((r8 < r10 → (qX9_meets_57  Q v1 v2 v4 s9)) ∧ (¬ r8 < r10 → (qX9_meets_57  Q v1 v2 v3 s9)))))))
def pX9_meets (v1 : Int32) (v2 : Int32) (u : SM) (Q : Int32 → SM → Prop) : Prop := (vp_in v1 300 ∧ ∀ x1 : Int32, x1 = (u.1 9 (Int32.toNatClampNeg v1)) → (vp_in v2 300 ∧ ∀ x2 : Int32, x2 = (u.1 9 (Int32.toNatClampNeg v2)) → (pX9_isUnder x1 x2 u (fun r4 s3 => ((¬ r4 = 0 → (qX9_meets_37  Q v1 v2 x1 x2 s3)) ∧ (r4 = 0 → (pX9_isUnder x2 x1 s3 (fun r6 s5 => ((¬ r6 = 0 → (qX9_meets_37  Q v1 v2 x1 x2 s5)) ∧ (r6 = 0 → (Q 0 s5)))))))))))
set_option maxRecDepth 100000 in
set_option maxHeartbeats 4000000 in
theorem kX9_meets (l : Launch) (D : va_G) (ad : Nat → Nat) (T : TT) (hI : injA 27 ad) (v1 : Int32) (v2 : Int32) (u : SM) (Q : Int32 → SM → Prop) (h : pX9_meets v1 v2 u Q) : Ki (KM l D ad T) (wM T ad) yX9_meets cX9_meets 8 (some .boolean) { frames := 1, cells := 0, slots := 0, locals := 23 } [.ref (ad 0), .int v1, .int v2] (wM T ad u) Q := by
  refine st_MZ (fr := 1) (lo := 23) (by decide) ⟨rfl, rfl⟩ rfl (Nat.le_of_ble_eq_true rfl) rfl (fun X C hD ret => ?_)
  replace hD : ∀ u, DX X (wM T ad u) := fun u => hD _ (wM_D hI T u)
  have t57 : ∀ (v1 : Int32) (v2 : Int32) (k0 : Int32) (u : SM), qX9_meets_57  Q v1 v2 k0 u → At X 8 (wM T ad u) 57 [(0, .ref (ad 0)), (1, .int v1), (2, .int v2)] [.int k0] := by
    intro v1 v2 k0 u h
    unfold qX9_meets_57 at h
    refine at_istore (lv' := [(0, .ref (ad 0)), (1, .int v1), (2, .int v2), (5, .int k0)]) C dX9_meets_57 (by decide) [1, 2, 3, 0] rfl ?_
    refine at_aload_n C dX9_meets_59 0 rfl ?_
    refine gM_X9_38 C dX9_meets_60 ?_
    refine at_iload_n C dX9_meets_63 2 rfl ?_
    obtain ⟨hi, h⟩ := h
    refine rM_7 C hi dX9_meets_64 ?_
    refine at_aload_n C dX9_meets_65 0 rfl ?_
    refine gM_X9_38 C dX9_meets_66 ?_
    refine at_iload_n C dX9_meets_69 1 rfl ?_
    obtain ⟨hi, h⟩ := h
    refine rM_7 C hi dX9_meets_70 ?_
    refine at_isub C dX9_meets_71 ?_
    refine at_topi (fun x11 ex11 => ?_)
    replace h := h x11 ex11
    refine at_istore (lv' := [(0, .ref (ad 0)), (1, .int v1), (2, .int v2), (5, .int k0), (6, .int x11)]) C dX9_meets_72 (by decide) [1, 2, 3, 4, 0] rfl ?_
    refine at_aload_n C dX9_meets_74 0 rfl ?_
    refine gM_X9_13 C dX9_meets_75 ?_
    refine at_aload_n C dX9_meets_78 0 rfl ?_
    refine gM_X9_41 C dX9_meets_79 ?_
    refine at_iload_n C dX9_meets_82 2 rfl ?_
    obtain ⟨hi, h⟩ := h
    refine rM_8 C hi dX9_meets_83 ?_
    obtain ⟨hi, h⟩ := h
    refine rM_1 C hi dX9_meets_84 ?_
    refine at_aload_n C dX9_meets_85 0 rfl ?_
    refine gM_X9_13 C dX9_meets_86 ?_
    refine at_aload_n C dX9_meets_89 0 rfl ?_
    refine gM_X9_41 C dX9_meets_90 ?_
    refine at_iload_n C dX9_meets_93 1 rfl ?_
    obtain ⟨hi, h⟩ := h
    refine rM_8 C hi dX9_meets_94 ?_
    obtain ⟨hi, h⟩ := h
    refine rM_1 C hi dX9_meets_95 ?_
    refine at_isub C dX9_meets_96 ?_
    refine at_bipush (v := 60) C dX9_meets_97 (by decide) ?_
    refine at_imul C dX9_meets_99 ?_
    refine at_topi (fun x12 ex12 => ?_)
    replace h := h x12 ex12
    refine at_istore (lv' := [(0, .ref (ad 0)), (1, .int v1), (2, .int v2), (5, .int k0), (6, .int x11), (7, .int x12)]) C dX9_meets_100 (by decide) [1, 2, 3, 4, 5, 0] rfl ?_
    refine at_iload C dX9_meets_102 4 rfl ?_
    refine at_iconst (v := 1) C dX9_meets_104 (by decide) ?_
    refine at_icmp_lt (tgt := 142) C dX9_meets_105 (by decide) (fun hc => ?_) (fun hc => ?_)
    · replace h := h.1 hc
      refine at_iconst (v := 0) C dX9_meets_142 (by decide) ?_
      exact ret _ _ _ _ dX9_meets_143 rfl h
    · replace h := h.2 hc
      refine at_iload C dX9_meets_108 5 rfl ?_
      refine at_aload_n C dX9_meets_110 0 rfl ?_
      refine gM_X9_23 C dX9_meets_111 ?_
      refine at_iload C dX9_meets_114 3 rfl ?_
      obtain ⟨hi, h⟩ := h
      refine rM_3 C hi dX9_meets_116 ?_
      refine at_iload C dX9_meets_117 4 rfl ?_
      refine at_imul C dX9_meets_119 ?_
      refine at_icmp_lt (tgt := 142) C dX9_meets_120 (by decide) (fun hc => ?_) (fun hc => ?_)
      · replace h := h.1 hc
        refine at_iconst (v := 0) C dX9_meets_142 (by decide) ?_
        exact ret _ _ _ _ dX9_meets_143 rfl h
      · replace h := h.2 hc
        refine at_iload C dX9_meets_123 5 rfl ?_
        refine at_aload_n C dX9_meets_125 0 rfl ?_
        refine gM_X9_26 C dX9_meets_126 ?_
        refine at_iload C dX9_meets_129 3 rfl ?_
        obtain ⟨hi, h⟩ := h
        refine rM_4 C hi dX9_meets_131 ?_
        refine at_iload C dX9_meets_132 4 rfl ?_
        refine at_imul C dX9_meets_134 ?_
        refine at_icmp_gt (tgt := 142) C dX9_meets_135 (by decide) (fun hc => ?_) (fun hc => ?_)
        · replace h := h.1 hc
          refine at_iconst (v := 0) C dX9_meets_142 (by decide) ?_
          exact ret _ _ _ _ dX9_meets_143 rfl h
        · replace h := h.2 hc
          refine at_iconst (v := 1) C dX9_meets_138 (by decide) ?_
          refine at_goto (tgt := 143) C dX9_meets_139 (by decide) ?_
          exact ret _ _ _ _ dX9_meets_143 rfl h
  have t37 : ∀ (v1 : Int32) (v2 : Int32) (v3 : Int32) (v4 : Int32) (u : SM), qX9_meets_37  Q v1 v2 v3 v4 u → At X 8 (wM T ad u) 37 [(0, .ref (ad 0)), (1, .int v1), (2, .int v2), (3, .int v3), (4, .int v4)] [] := by
    intro v1 v2 v3 v4 u h
    unfold qX9_meets_37 at h
    refine at_aload_n C dX9_meets_37 0 rfl ?_
    refine at_iload_n C dX9_meets_38 3 rfl ?_
    refine at_callVi C (kX9_depth l D ad T hI _ _ _ h) ok_X9_depth m_X9_124 mi_X9_depth ml_X9_depth (wM_g0 T ad _) rfl ⟨rfl, rfl, Nat.le_of_ble_eq_true rfl, Nat.le_of_ble_eq_true rfl⟩ rfl rfl (Nat.le_of_ble_eq_true rfl) dX9_meets_39 (fun r8 s7 h => ?_)
    refine at_aload_n C dX9_meets_42 0 rfl ?_
    refine at_iload C dX9_meets_43 4 rfl ?_
    refine at_callVi C (kX9_depth l D ad T hI _ _ _ h) ok_X9_depth m_X9_124 mi_X9_depth ml_X9_depth (wM_g0 T ad _) rfl ⟨rfl, rfl, Nat.le_of_ble_eq_true rfl, Nat.le_of_ble_eq_true rfl⟩ rfl rfl (Nat.le_of_ble_eq_true rfl) dX9_meets_45 (fun r10 s9 h => ?_)
    refine at_icmp_lt (tgt := 55) C dX9_meets_48 (by decide) (fun hc => ?_) (fun hc => ?_)
    · replace h := h.1 hc
      refine at_iload C dX9_meets_55 4 rfl ?_
      refine at_sub [0, 1, 2] rfl ?_
      exact t57  _ _ _ _ h
    · replace h := h.2 hc
      refine at_iload_n C dX9_meets_51 3 rfl ?_
      refine at_goto (tgt := 57) C dX9_meets_52 (by decide) ?_
      refine at_sub [0, 1, 2] rfl ?_
      exact t57  _ _ _ _ h
  unfold pX9_meets at h
  refine at_aload_n C dX9_meets_0 0 rfl ?_
  refine gM_X9_44 C dX9_meets_1 ?_
  refine at_iload_n C dX9_meets_4 1 rfl ?_
  obtain ⟨hi, h⟩ := h
  refine rM_9 C hi dX9_meets_5 ?_
  refine at_topi (fun x1 ex1 => ?_)
  replace h := h x1 ex1
  refine at_istore_n (lv' := [(0, .ref (ad 0)), (1, .int v1), (2, .int v2), (3, .int x1)]) C dX9_meets_6 (by decide) [1, 2, 3, 0] rfl ?_
  refine at_aload_n C dX9_meets_7 0 rfl ?_
  refine gM_X9_44 C dX9_meets_8 ?_
  refine at_iload_n C dX9_meets_11 2 rfl ?_
  obtain ⟨hi, h⟩ := h
  refine rM_9 C hi dX9_meets_12 ?_
  refine at_topi (fun x2 ex2 => ?_)
  replace h := h x2 ex2
  refine at_istore (lv' := [(0, .ref (ad 0)), (1, .int v1), (2, .int v2), (3, .int x1), (4, .int x2)]) C dX9_meets_13 (by decide) [1, 2, 3, 4, 0] rfl ?_
  refine at_aload_n C dX9_meets_15 0 rfl ?_
  refine at_iload_n C dX9_meets_16 3 rfl ?_
  refine at_iload C dX9_meets_17 4 rfl ?_
  refine at_callVi C (kX9_isUnder l D ad T hI _ _ _ _ h) ok_X9_isUnder m_X9_121 mi_X9_isUnder ml_X9_isUnder (wM_g0 T ad _) rfl ⟨rfl, rfl, Nat.le_of_ble_eq_true rfl, Nat.le_of_ble_eq_true rfl⟩ rfl rfl (Nat.le_of_ble_eq_true rfl) dX9_meets_19 (fun r4 s3 h => ?_)
  refine at_if_ne (tgt := 37) C dX9_meets_22 (by decide) (fun hc => ?_) (fun hc => ?_)
  · replace h := h.1 hc
    exact t37  _ _ _ _ _ h
  · replace h := h.2 hc
    refine at_aload_n C dX9_meets_25 0 rfl ?_
    refine at_iload C dX9_meets_26 4 rfl ?_
    refine at_iload_n C dX9_meets_28 3 rfl ?_
    refine at_callVi C (kX9_isUnder l D ad T hI _ _ _ _ h) ok_X9_isUnder m_X9_121 mi_X9_isUnder ml_X9_isUnder (wM_g0 T ad _) rfl ⟨rfl, rfl, Nat.le_of_ble_eq_true rfl, Nat.le_of_ble_eq_true rfl⟩ rfl rfl (Nat.le_of_ble_eq_true rfl) dX9_meets_29 (fun r6 s5 h => ?_)
    refine at_if_ne (tgt := 37) C dX9_meets_32 (by decide) (fun hc => ?_) (fun hc => ?_)
    · replace h := h.1 hc
      exact t37  _ _ _ _ _ h
    · replace h := h.2 hc
      refine at_iconst (v := 0) C dX9_meets_35 (by decide) ?_
      exact ret _ _ _ _ dX9_meets_36 rfl h
theorem m_X9_140 : Cond.methodLink RX9 140 yX9_meets ∈ gW := gW_in 909 (by decide +kernel) (by decide +kernel)
theorem mc_X9_meets : Cond.code yX9_meets cX9_meets 8 (some .boolean) ∈ gW := gW_in 912 (by decide +kernel) (by decide +kernel)
theorem ok_X9_meets : okM yX9_meets cX9_meets 8 (some .boolean) 2 := ⟨mc_X9_meets, mz_RX9, by decide +kernel⟩
theorem mi_X9_meets : Cond.instanceMethod yX9_meets ∈ gW := gW_in 911 (by decide +kernel) (by decide +kernel)
theorem ml_X9_meets : Cond.selects RX9 yX9_meets yX9_meets ∈ gW := gW_in 63 (by decide +kernel) (by decide +kernel)
theorem m_X9_78 : Cond.fieldLink RX9 78 RX9 "isTaken" "[Z" ∈ gW := gW_in 774 (by decide +kernel) (by decide +kernel)
theorem gM_X9_78 {X : XT} {l : Launch} {D : va_G} {ad : Nat → Nat} {T : TT} {cc : ByteArray} {nL fr lo : Nat} {u : SM} {pc : Nat} {lv : List (Nat × Value)} {st : List Value} (C : Cx X (KM l D ad T) cc RX9 nL fr lo) (d : decode cc pc = .ok (.getfield 78, 3)) (kk : At X nL (wM T ad u) (pc + 3) lv (.ref (ad 20) :: st)) : At X nL (wM T ad u) pc lv (.ref (ad 0) :: st) := at_get C ingX9 (ci := 9) rfl 0 (wM_g0 T ad u) 27 (by decide) m_X9_78 rfl rfl d kk
def qX9_collect_153 (R13 : Int32 → Int32 → Int32 → Int32 → SM → Prop) (Q : SM → Prop) (v1 : Int32) (v2 : Int32) (v3 : Int32) (v4 : Int32) (u : SM) : Prop := ∀ x12 : Int32, x12 = v4 + 1 → R13 v1 v2 v3 x12 u
def qX9_collect_88 (R13 : Int32 → Int32 → Int32 → Int32 → SM → Prop) (Q : SM → Prop) (v1 : Int32) (v2 : Int32) (v3 : Int32) (v4 : Int32) (u : SM) : Prop := (pX9_isKnown v4 u (fun r9 s8 => ((r9 = 0 → (qX9_collect_153 R13 Q v1 v2 v3 v4 s8)) ∧ (¬ r9 = 0 → (vp_in v4 300 ∧ ((¬ (s8.1 5 (Int32.toNatClampNeg v4)) = v1 → (qX9_collect_153 R13 Q v1 v2 v3 v4 s8)) ∧ ((s8.1 5 (Int32.toNatClampNeg v4)) = v1 → (vp_in v4 300 ∧ ((¬ (s8.1 6 (Int32.toNatClampNeg v4)) = v2 → (qX9_collect_153 R13 Q v1 v2 v3 v4 s8)) ∧ ((s8.1 6 (Int32.toNatClampNeg v4)) = v2 → (vp_in v4 300 ∧ ((¬ (s8.1 8 (Int32.toNatClampNeg v4)) = (v3 + 1) → (qX9_collect_153 R13 Q v1 v2 v3 v4 s8)) ∧ ((s8.1 8 (Int32.toNatClampNeg v4)) = (v3 + 1) → (vp_in (s8.1 0 21) 12 ∧ ∀ s10 : SM, s10 = (st_up s8.1 16 (Int32.toNatClampNeg (s8.1 0 21)) v4, s8.2) → ∀ s11 : SM, s11 = (st_up s10.1 0 21 ((s10.1 0 21) + 1), s10.2) → (qX9_collect_153 R13 Q v1 v2 v3 v4 s11)))))))))))))))
def qX9_collect_182 (R162 : Int32 → SM → Prop) (R182 : Int32 → Int32 → SM → Prop) (Q : SM → Prop) (v4 : Int32) (v5 : Int32) (u : SM) : Prop := (((u.1 0 21) ≤ v5 → ∀ x13 : Int32, x13 = v4 + 1 → R162 x13 u) ∧ (¬ (u.1 0 21) ≤ v5 → (vp_in v4 12 ∧ (vp_in v5 12 ∧ (pX9_meets (u.1 15 (Int32.toNatClampNeg v4)) (u.1 16 (Int32.toNatClampNeg v5)) u (fun r15 s14 => (vp_in ((12 * v4) + v5) 144 ∧ ∀ s16 : SM, s16 = (st_up s14.1 17 (Int32.toNatClampNeg ((12 * v4) + v5)) (vp_nar .boolean r15), s14.2) → (vp_in v5 12 ∧ ∀ s17 : SM, s17 = (st_up s16.1 20 (Int32.toNatClampNeg v5) (vp_nar .boolean 0), s16.2) → ∀ x18 : Int32, x18 = v5 + 1 → R182 v4 x18 s17))))))))
def qX9_collect_l182 (R162 : Int32 → SM → Prop) (Q : SM → Prop) : Nat → Int32 → Int32 → SM → Prop
  | 0 => fun _ _ _ => False
  | n + 1 => qX9_collect_182 R162 (qX9_collect_l182 R162 Q n) Q
def qX9_collect_162 (R162 : Int32 → SM → Prop) (Q : SM → Prop) (v4 : Int32) (u : SM) : Prop := (((u.1 0 20) ≤ v4 → (Q u)) ∧ (¬ (u.1 0 20) ≤ v4 → (vp_in v4 12 ∧ ∀ s7 : SM, s7 = (st_up u.1 19 (Int32.toNatClampNeg v4) (vp_nar .boolean 0), u.2) → (∃ n, qX9_collect_l182 R162 Q n v4 0 s7))))
def qX9_collect_l162  (Q : SM → Prop) : Nat → Int32 → SM → Prop
  | 0 => fun _ _ => False
  | n + 1 => qX9_collect_162 (qX9_collect_l162  Q n) Q
def qX9_collect_13 (R13 : Int32 → Int32 → Int32 → Int32 → SM → Prop) (Q : SM → Prop) (v1 : Int32) (v2 : Int32) (v3 : Int32) (v4 : Int32) (u : SM) : Prop := (((u.1 0 9) ≤ v4 → (∃ n, qX9_collect_l162  Q n 0 u)) ∧ (¬ (u.1 0 9) ≤ v4 → (pX9_isKnown v4 u (fun r4 s3 => ((r4 = 0 → (qX9_collect_88 R13 Q v1 v2 v3 v4 s3)) ∧ (¬ r4 = 0 → (vp_in v4 300 ∧ ((¬ (s3.1 5 (Int32.toNatClampNeg v4)) = v1 → (qX9_collect_88 R13 Q v1 v2 v3 v4 s3)) ∧ ((s3.1 5 (Int32.toNatClampNeg v4)) = v1 → (vp_in v4 300 ∧ ((¬ (s3.1 6 (Int32.toNatClampNeg v4)) = v2 → (qX9_collect_88 R13 Q v1 v2 v3 v4 s3)) ∧ ((s3.1 6 (Int32.toNatClampNeg v4)) = v2 → (vp_in v4 300 ∧ ((¬ (s3.1 8 (Int32.toNatClampNeg v4)) = v3 → (qX9_collect_88 R13 Q v1 v2 v3 v4 s3)) ∧ ((s3.1 8 (Int32.toNatClampNeg v4)) = v3 → (vp_in (s3.1 0 20) 12 ∧ ∀ s5 : SM, s5 = (st_up s3.1 15 (Int32.toNatClampNeg (s3.1 0 20)) v4, s3.2) → ∀ s6 : SM, s6 = (st_up s5.1 0 20 ((s5.1 0 20) + 1), s5.2) → (qX9_collect_153 R13 Q v1 v2 v3 v4 s6)))))))))))))))))
def qX9_collect_l13  (Q : SM → Prop) : Nat → Int32 → Int32 → Int32 → Int32 → SM → Prop
  | 0 => fun _ _ _ _ _ => False
  | n + 1 => qX9_collect_13 (qX9_collect_l13  Q n) Q
def pX9_collect (v1 : Int32) (v2 : Int32) (v3 : Int32) (u : SM) (Q : SM → Prop) : Prop := ∀ s1 : SM, s1 = (st_up u.1 0 20 0, u.2) → ∀ s2 : SM, s2 = (st_up s1.1 0 21 0, s1.2) → (∃ n, qX9_collect_l13  Q n v1 v2 v3 0 s2)
set_option maxRecDepth 100000 in
set_option maxHeartbeats 4000000 in
theorem kX9_collect (l : Launch) (D : va_G) (ad : Nat → Nat) (T : TT) (hI : injA 27 ad) (v1 : Int32) (v2 : Int32) (v3 : Int32) (u : SM) (Q : SM → Prop) (h : pX9_collect v1 v2 v3 u Q) : Kv (KM l D ad T) (wM T ad) yX9_collect cX9_collect 6 none { frames := 2, cells := 0, slots := 0, locals := 50 } [.ref (ad 0), .int v1, .int v2, .int v3] (wM T ad u) Q := by
  refine st_MV (fr := 2) (lo := 50) (by decide) ⟨rfl, rfl⟩ rfl (Nat.le_of_ble_eq_true rfl) rfl (fun X C hD ret => ?_)
  replace hD : ∀ u, DX X (wM T ad u) := fun u => hD _ (wM_D hI T u)
  have t153 : ∀ (R13 : Int32 → Int32 → Int32 → Int32 → SM → Prop) (hR13 : ∀ (v1 : Int32) (v2 : Int32) (v3 : Int32) (v4 : Int32) (u : SM), R13 v1 v2 v3 v4 u → At X 6 (wM T ad u) 13 [(0, .ref (ad 0)), (1, .int v1), (2, .int v2), (3, .int v3), (4, .int v4)] []) (v1 : Int32) (v2 : Int32) (v3 : Int32) (v4 : Int32) (u : SM), qX9_collect_153 R13 Q v1 v2 v3 v4 u → At X 6 (wM T ad u) 153 [(0, .ref (ad 0)), (1, .int v1), (2, .int v2), (3, .int v3), (4, .int v4)] [] := by
    intro R13 hR13 v1 v2 v3 v4 u h
    unfold qX9_collect_153 at h
    obtain ⟨x12, ex12⟩ : ∃ y : Int32, y = v4 + 1 := ⟨_, rfl⟩
    replace h := h x12 ex12
    refine at_iinc (v := x12) (lv' := [(0, .ref (ad 0)), (1, .int v1), (2, .int v2), (3, .int v3), (4, .int x12)]) C dX9_collect_153 4 rfl (by rw [ex12]; rfl) (by decide) [1, 2, 3, 4, 0] rfl ?_
    refine at_goto (tgt := 13) C dX9_collect_156 (by decide) ?_
    exact hR13 _ _ _ _ _ h
  have t88 : ∀ (R13 : Int32 → Int32 → Int32 → Int32 → SM → Prop) (hR13 : ∀ (v1 : Int32) (v2 : Int32) (v3 : Int32) (v4 : Int32) (u : SM), R13 v1 v2 v3 v4 u → At X 6 (wM T ad u) 13 [(0, .ref (ad 0)), (1, .int v1), (2, .int v2), (3, .int v3), (4, .int v4)] []) (v1 : Int32) (v2 : Int32) (v3 : Int32) (v4 : Int32) (u : SM), qX9_collect_88 R13 Q v1 v2 v3 v4 u → At X 6 (wM T ad u) 88 [(0, .ref (ad 0)), (1, .int v1), (2, .int v2), (3, .int v3), (4, .int v4)] [] := by
    intro R13 hR13 v1 v2 v3 v4 u h
    unfold qX9_collect_88 at h
    refine at_aload_n C dX9_collect_88 0 rfl ?_
    refine at_iload C dX9_collect_89 4 rfl ?_
    refine at_callVi C (kX9_isKnown l D ad T hI _ _ _ h) ok_X9_isKnown m_X9_137 mi_X9_isKnown ml_X9_isKnown (wM_g0 T ad _) rfl ⟨rfl, rfl, Nat.le_of_ble_eq_true rfl, Nat.le_of_ble_eq_true rfl⟩ rfl rfl (Nat.le_of_ble_eq_true rfl) dX9_collect_91 (fun r9 s8 h => ?_)
    refine at_if_eq (tgt := 153) C dX9_collect_94 (by decide) (fun hc => ?_) (fun hc => ?_)
    · replace h := h.1 hc
      exact t153 R13 hR13 _ _ _ _ _ h
    · replace h := h.2 hc
      refine at_aload_n C dX9_collect_97 0 rfl ?_
      refine gM_X9_32 C dX9_collect_98 ?_
      refine at_iload C dX9_collect_101 4 rfl ?_
      obtain ⟨hi, h⟩ := h
      refine rM_5 C hi dX9_collect_103 ?_
      refine at_iload_n C dX9_collect_104 1 rfl ?_
      refine at_icmp_ne (tgt := 153) C dX9_collect_105 (by decide) (fun hc => ?_) (fun hc => ?_)
      · replace h := h.1 hc
        exact t153 R13 hR13 _ _ _ _ _ h
      · replace h := h.2 hc
        refine at_aload_n C dX9_collect_108 0 rfl ?_
        refine gM_X9_35 C dX9_collect_109 ?_
        refine at_iload C dX9_collect_112 4 rfl ?_
        obtain ⟨hi, h⟩ := h
        refine rM_6 C hi dX9_collect_114 ?_
        refine at_iload_n C dX9_collect_115 2 rfl ?_
        refine at_icmp_ne (tgt := 153) C dX9_collect_116 (by decide) (fun hc => ?_) (fun hc => ?_)
        · replace h := h.1 hc
          exact t153 R13 hR13 _ _ _ _ _ h
        · replace h := h.2 hc
          refine at_aload_n C dX9_collect_119 0 rfl ?_
          refine gM_X9_41 C dX9_collect_120 ?_
          refine at_iload C dX9_collect_123 4 rfl ?_
          obtain ⟨hi, h⟩ := h
          refine rM_8 C hi dX9_collect_125 ?_
          refine at_iload_n C dX9_collect_126 3 rfl ?_
          refine at_iconst (v := 1) C dX9_collect_127 (by decide) ?_
          refine at_iadd C dX9_collect_128 ?_
          refine at_icmp_ne (tgt := 153) C dX9_collect_129 (by decide) (fun hc => ?_) (fun hc => ?_)
          · replace h := h.1 hc
            exact t153 R13 hR13 _ _ _ _ _ h
          · replace h := h.2 hc
            refine at_aload_n C dX9_collect_132 0 rfl ?_
            refine gM_X9_66 C dX9_collect_133 ?_
            refine at_aload_n C dX9_collect_136 0 rfl ?_
            refine gM_X9_128 C dX9_collect_137 ?_
            refine at_iload C dX9_collect_140 4 rfl ?_
            obtain ⟨hi, h⟩ := h
            refine sM_16 C hD hi dX9_collect_142 (fun s10 es10 => ?_)
            replace h := h s10 es10
            refine at_aload_n C dX9_collect_143 0 rfl ?_
            refine at_dup C dX9_collect_144 rfl ?_
            refine gM_X9_128 C dX9_collect_145 ?_
            refine at_iconst (v := 1) C dX9_collect_148 (by decide) ?_
            refine at_iadd C dX9_collect_149 ?_
            refine pM_X9_128 C hD dX9_collect_150 (fun s11 es11 => ?_)
            replace h := h s11 es11
            exact t153 R13 hR13 _ _ _ _ _ h
  have tb182 : ∀ (R162 : Int32 → SM → Prop) (hR162 : ∀ (v4 : Int32) (u : SM), R162 v4 u → At X 6 (wM T ad u) 162 [(0, .ref (ad 0)), (4, .int v4)] []) (R182 : Int32 → Int32 → SM → Prop) (hR182 : ∀ (v4 : Int32) (v5 : Int32) (u : SM), R182 v4 v5 u → At X 6 (wM T ad u) 182 [(0, .ref (ad 0)), (4, .int v4), (5, .int v5)] []) (v4 : Int32) (v5 : Int32) (u : SM), qX9_collect_182 R162 R182 Q v4 v5 u → At X 6 (wM T ad u) 182 [(0, .ref (ad 0)), (4, .int v4), (5, .int v5)] [] := by
    intro R162 hR162 R182 hR182 v4 v5 u h
    unfold qX9_collect_182 at h
    refine at_iload C dX9_collect_182 2 rfl ?_
    refine at_aload_n C dX9_collect_184 0 rfl ?_
    refine gM_X9_128 C dX9_collect_185 ?_
    refine at_icmp_ge (tgt := 236) C dX9_collect_188 (by decide) (fun hc => ?_) (fun hc => ?_)
    · replace h := h.1 hc
      obtain ⟨x13, ex13⟩ : ∃ y : Int32, y = v4 + 1 := ⟨_, rfl⟩
      replace h := h x13 ex13
      refine at_iinc (v := x13) (lv' := [(0, .ref (ad 0)), (4, .int x13), (5, .int v5)]) C dX9_collect_236 1 rfl (by rw [ex13]; rfl) (by decide) [1, 0, 2] rfl ?_
      refine at_goto (tgt := 162) C dX9_collect_239 (by decide) ?_
      refine at_sub [0, 1] rfl ?_
      exact hR162 _ _ h
    · replace h := h.2 hc
      refine at_aload_n C dX9_collect_191 0 rfl ?_
      refine gM_X9_69 C dX9_collect_192 ?_
      refine at_bipush (v := 12) C dX9_collect_195 (by decide) ?_
      refine at_iload C dX9_collect_197 1 rfl ?_
      refine at_imul C dX9_collect_199 ?_
      refine at_iload C dX9_collect_200 2 rfl ?_
      refine at_iadd C dX9_collect_202 ?_
      refine at_aload_n C dX9_collect_203 0 rfl ?_
      refine at_aload_n C dX9_collect_204 0 rfl ?_
      refine gM_X9_63 C dX9_collect_205 ?_
      refine at_iload C dX9_collect_208 1 rfl ?_
      obtain ⟨hi, h⟩ := h
      refine rM_15 C hi dX9_collect_210 ?_
      refine at_aload_n C dX9_collect_211 0 rfl ?_
      refine gM_X9_66 C dX9_collect_212 ?_
      refine at_iload C dX9_collect_215 2 rfl ?_
      obtain ⟨hi, h⟩ := h
      refine rM_16 C hi dX9_collect_217 ?_
      refine at_callVi C (kX9_meets l D ad T hI _ _ _ _ h) ok_X9_meets m_X9_140 mi_X9_meets ml_X9_meets (wM_g0 T ad _) rfl ⟨rfl, rfl, Nat.le_of_ble_eq_true rfl, Nat.le_of_ble_eq_true rfl⟩ rfl rfl (Nat.le_of_ble_eq_true rfl) dX9_collect_218 (fun r15 s14 h => ?_)
      obtain ⟨hi, h⟩ := h
      refine sM_17 C hD hi dX9_collect_221 (fun s16 es16 => ?_)
      replace h := h s16 es16
      refine at_aload_n C dX9_collect_222 0 rfl ?_
      refine gM_X9_78 C dX9_collect_223 ?_
      refine at_iload C dX9_collect_226 2 rfl ?_
      refine at_iconst (v := 0) C dX9_collect_228 (by decide) ?_
      obtain ⟨hi, h⟩ := h
      refine sM_20 C hD hi dX9_collect_229 (fun s17 es17 => ?_)
      replace h := h s17 es17
      obtain ⟨x18, ex18⟩ : ∃ y : Int32, y = v5 + 1 := ⟨_, rfl⟩
      replace h := h x18 ex18
      refine at_iinc (v := x18) (lv' := [(0, .ref (ad 0)), (4, .int v4), (5, .int x18)]) C dX9_collect_230 2 rfl (by rw [ex18]; rfl) (by decide) [1, 2, 0] rfl ?_
      refine at_goto (tgt := 182) C dX9_collect_233 (by decide) ?_
      exact hR182 _ _ _ h
  have t182 : ∀ (R162 : Int32 → SM → Prop) (hR162 : ∀ (v4 : Int32) (u : SM), R162 v4 u → At X 6 (wM T ad u) 162 [(0, .ref (ad 0)), (4, .int v4)] []) (n : Nat) (v4 : Int32) (v5 : Int32) (u : SM), qX9_collect_l182 R162 Q n v4 v5 u → At X 6 (wM T ad u) 182 [(0, .ref (ad 0)), (4, .int v4), (5, .int v5)] [] := by
    intro R162 hR162 n
    induction n with
    | zero => intro v4 v5 u h; exact False.elim h
    | succ n ih => intro v4 v5 u h; exact tb182 R162 hR162 (qX9_collect_l182 R162 Q n) ih v4 v5 u h
  have tb162 : ∀ (R162 : Int32 → SM → Prop) (hR162 : ∀ (v4 : Int32) (u : SM), R162 v4 u → At X 6 (wM T ad u) 162 [(0, .ref (ad 0)), (4, .int v4)] []) (v4 : Int32) (u : SM), qX9_collect_162 R162 Q v4 u → At X 6 (wM T ad u) 162 [(0, .ref (ad 0)), (4, .int v4)] [] := by
    intro R162 hR162 v4 u h
    unfold qX9_collect_162 at h
    refine at_iload C dX9_collect_162 1 rfl ?_
    refine at_aload_n C dX9_collect_164 0 rfl ?_
    refine gM_X9_134 C dX9_collect_165 ?_
    refine at_icmp_ge (tgt := 242) C dX9_collect_168 (by decide) (fun hc => ?_) (fun hc => ?_)
    · replace h := h.1 hc
      exact ret _ _ _ dX9_collect_242 h
    · replace h := h.2 hc
      refine at_aload_n C dX9_collect_171 0 rfl ?_
      refine gM_X9_75 C dX9_collect_172 ?_
      refine at_iload C dX9_collect_175 1 rfl ?_
      refine at_iconst (v := 0) C dX9_collect_177 (by decide) ?_
      obtain ⟨hi, h⟩ := h
      refine sM_19 C hD hi dX9_collect_178 (fun s7 es7 => ?_)
      replace h := h s7 es7
      refine at_iconst (v := 0) C dX9_collect_179 (by decide) ?_
      refine at_istore (lv' := [(0, .ref (ad 0)), (4, .int v4), (5, .int 0)]) C dX9_collect_180 (by decide) [1, 2, 0] rfl ?_
      obtain ⟨n, h⟩ := h
      exact t182 R162 hR162 n _ _ _ h
  have t162 : ∀ (n : Nat) (v4 : Int32) (u : SM), qX9_collect_l162  Q n v4 u → At X 6 (wM T ad u) 162 [(0, .ref (ad 0)), (4, .int v4)] [] := by
    intro  n
    induction n with
    | zero => intro v4 u h; exact False.elim h
    | succ n ih => intro v4 u h; exact tb162 (qX9_collect_l162  Q n) ih v4 u h
  have tb13 : ∀ (R13 : Int32 → Int32 → Int32 → Int32 → SM → Prop) (hR13 : ∀ (v1 : Int32) (v2 : Int32) (v3 : Int32) (v4 : Int32) (u : SM), R13 v1 v2 v3 v4 u → At X 6 (wM T ad u) 13 [(0, .ref (ad 0)), (1, .int v1), (2, .int v2), (3, .int v3), (4, .int v4)] []) (v1 : Int32) (v2 : Int32) (v3 : Int32) (v4 : Int32) (u : SM), qX9_collect_13 R13 Q v1 v2 v3 v4 u → At X 6 (wM T ad u) 13 [(0, .ref (ad 0)), (1, .int v1), (2, .int v2), (3, .int v3), (4, .int v4)] [] := by
    intro R13 hR13 v1 v2 v3 v4 u h
    unfold qX9_collect_13 at h
    refine at_iload C dX9_collect_13 4 rfl ?_
    refine at_aload_n C dX9_collect_15 0 rfl ?_
    refine gM_X9_103 C dX9_collect_16 ?_
    refine at_icmp_ge (tgt := 159) C dX9_collect_19 (by decide) (fun hc => ?_) (fun hc => ?_)
    · replace h := h.1 hc
      refine at_iconst (v := 0) C dX9_collect_159 (by decide) ?_
      refine at_istore (lv' := [(0, .ref (ad 0)), (1, .int v1), (2, .int v2), (3, .int v3), (4, .int 0)]) C dX9_collect_160 (by decide) [1, 2, 3, 4, 0] rfl ?_
      refine at_sub [0, 4] rfl ?_
      obtain ⟨n, h⟩ := h
      exact t162  n _ _ h
    · replace h := h.2 hc
      refine at_aload_n C dX9_collect_22 0 rfl ?_
      refine at_iload C dX9_collect_23 4 rfl ?_
      refine at_callVi C (kX9_isKnown l D ad T hI _ _ _ h) ok_X9_isKnown m_X9_137 mi_X9_isKnown ml_X9_isKnown (wM_g0 T ad _) rfl ⟨rfl, rfl, Nat.le_of_ble_eq_true rfl, Nat.le_of_ble_eq_true rfl⟩ rfl rfl (Nat.le_of_ble_eq_true rfl) dX9_collect_25 (fun r4 s3 h => ?_)
      refine at_if_eq (tgt := 88) C dX9_collect_28 (by decide) (fun hc => ?_) (fun hc => ?_)
      · replace h := h.1 hc
        exact t88 R13 hR13 _ _ _ _ _ h
      · replace h := h.2 hc
        refine at_aload_n C dX9_collect_31 0 rfl ?_
        refine gM_X9_32 C dX9_collect_32 ?_
        refine at_iload C dX9_collect_35 4 rfl ?_
        obtain ⟨hi, h⟩ := h
        refine rM_5 C hi dX9_collect_37 ?_
        refine at_iload_n C dX9_collect_38 1 rfl ?_
        refine at_icmp_ne (tgt := 88) C dX9_collect_39 (by decide) (fun hc => ?_) (fun hc => ?_)
        · replace h := h.1 hc
          exact t88 R13 hR13 _ _ _ _ _ h
        · replace h := h.2 hc
          refine at_aload_n C dX9_collect_42 0 rfl ?_
          refine gM_X9_35 C dX9_collect_43 ?_
          refine at_iload C dX9_collect_46 4 rfl ?_
          obtain ⟨hi, h⟩ := h
          refine rM_6 C hi dX9_collect_48 ?_
          refine at_iload_n C dX9_collect_49 2 rfl ?_
          refine at_icmp_ne (tgt := 88) C dX9_collect_50 (by decide) (fun hc => ?_) (fun hc => ?_)
          · replace h := h.1 hc
            exact t88 R13 hR13 _ _ _ _ _ h
          · replace h := h.2 hc
            refine at_aload_n C dX9_collect_53 0 rfl ?_
            refine gM_X9_41 C dX9_collect_54 ?_
            refine at_iload C dX9_collect_57 4 rfl ?_
            obtain ⟨hi, h⟩ := h
            refine rM_8 C hi dX9_collect_59 ?_
            refine at_iload_n C dX9_collect_60 3 rfl ?_
            refine at_icmp_ne (tgt := 88) C dX9_collect_61 (by decide) (fun hc => ?_) (fun hc => ?_)
            · replace h := h.1 hc
              exact t88 R13 hR13 _ _ _ _ _ h
            · replace h := h.2 hc
              refine at_aload_n C dX9_collect_64 0 rfl ?_
              refine gM_X9_63 C dX9_collect_65 ?_
              refine at_aload_n C dX9_collect_68 0 rfl ?_
              refine gM_X9_134 C dX9_collect_69 ?_
              refine at_iload C dX9_collect_72 4 rfl ?_
              obtain ⟨hi, h⟩ := h
              refine sM_15 C hD hi dX9_collect_74 (fun s5 es5 => ?_)
              replace h := h s5 es5
              refine at_aload_n C dX9_collect_75 0 rfl ?_
              refine at_dup C dX9_collect_76 rfl ?_
              refine gM_X9_134 C dX9_collect_77 ?_
              refine at_iconst (v := 1) C dX9_collect_80 (by decide) ?_
              refine at_iadd C dX9_collect_81 ?_
              refine pM_X9_134 C hD dX9_collect_82 (fun s6 es6 => ?_)
              replace h := h s6 es6
              refine at_goto (tgt := 153) C dX9_collect_85 (by decide) ?_
              exact t153 R13 hR13 _ _ _ _ _ h
  have t13 : ∀ (n : Nat) (v1 : Int32) (v2 : Int32) (v3 : Int32) (v4 : Int32) (u : SM), qX9_collect_l13  Q n v1 v2 v3 v4 u → At X 6 (wM T ad u) 13 [(0, .ref (ad 0)), (1, .int v1), (2, .int v2), (3, .int v3), (4, .int v4)] [] := by
    intro  n
    induction n with
    | zero => intro v1 v2 v3 v4 u h; exact False.elim h
    | succ n ih => intro v1 v2 v3 v4 u h; exact tb13 (qX9_collect_l13  Q n) ih v1 v2 v3 v4 u h
  unfold pX9_collect at h
  refine at_aload_n C dX9_collect_0 0 rfl ?_
  refine at_iconst (v := 0) C dX9_collect_1 (by decide) ?_
  refine pM_X9_134 C hD dX9_collect_2 (fun s1 es1 => ?_)
  replace h := h s1 es1
  refine at_aload_n C dX9_collect_5 0 rfl ?_
  refine at_iconst (v := 0) C dX9_collect_6 (by decide) ?_
  refine pM_X9_128 C hD dX9_collect_7 (fun s2 es2 => ?_)
  replace h := h s2 es2
  refine at_iconst (v := 0) C dX9_collect_10 (by decide) ?_
  refine at_istore (lv' := [(0, .ref (ad 0)), (1, .int v1), (2, .int v2), (3, .int v3), (4, .int 0)]) C dX9_collect_11 (by decide) [1, 2, 3, 4, 0] rfl ?_
  obtain ⟨n, h⟩ := h
  exact t13  n _ _ _ _ _ h
theorem m_X9_143 : Cond.methodLink RX9 143 yX9_collect ∈ gW := gW_in 905 (by decide +kernel) (by decide +kernel)
theorem mc_X9_collect : Cond.code yX9_collect cX9_collect 6 none ∈ gW := gW_in 908 (by decide +kernel) (by decide +kernel)
theorem ok_X9_collect : okM yX9_collect cX9_collect 6 none 3 := ⟨mc_X9_collect, mz_RX9, by decide +kernel⟩
theorem mi_X9_collect : Cond.instanceMethod yX9_collect ∈ gW := gW_in 907 (by decide +kernel) (by decide +kernel)
theorem ml_X9_collect : Cond.selects RX9 yX9_collect yX9_collect ∈ gW := gW_in 62 (by decide +kernel) (by decide +kernel)
theorem m_X9_72 : Cond.fieldLink RX9 72 RX9 "has" "[I" ∈ gW := gW_in 772 (by decide +kernel) (by decide +kernel)
theorem gM_X9_72 {X : XT} {l : Launch} {D : va_G} {ad : Nat → Nat} {T : TT} {cc : ByteArray} {nL fr lo : Nat} {u : SM} {pc : Nat} {lv : List (Nat × Value)} {st : List Value} (C : Cx X (KM l D ad T) cc RX9 nL fr lo) (d : decode cc pc = .ok (.getfield 72, 3)) (kk : At X nL (wM T ad u) (pc + 3) lv (.ref (ad 18) :: st)) : At X nL (wM T ad u) pc lv (.ref (ad 0) :: st) := at_get C ingX9 (ci := 9) rfl 0 (wM_g0 T ad u) 25 (by decide) m_X9_72 rfl rfl d kk
theorem m_X9_81 : Cond.fieldLink RX9 81 RX9 "isSeen" "[Z" ∈ gW := gW_in 775 (by decide +kernel) (by decide +kernel)
theorem gM_X9_81 {X : XT} {l : Launch} {D : va_G} {ad : Nat → Nat} {T : TT} {cc : ByteArray} {nL fr lo : Nat} {u : SM} {pc : Nat} {lv : List (Nat × Value)} {st : List Value} (C : Cx X (KM l D ad T) cc RX9 nL fr lo) (d : decode cc pc = .ok (.getfield 81, 3)) (kk : At X nL (wM T ad u) (pc + 3) lv (.ref (ad 21) :: st)) : At X nL (wM T ad u) pc lv (.ref (ad 0) :: st) := at_get C ingX9 (ci := 9) rfl 0 (wM_g0 T ad u) 28 (by decide) m_X9_81 rfl rfl d kk
theorem m_X9_131 : Cond.methodLink RX9 131 yX9_finds ∈ gW := gW_in 925 (by decide +kernel) (by decide +kernel)
theorem mc_X9_finds : Cond.code yX9_finds cX9_finds 3 (some .boolean) ∈ gW := gW_in 928 (by decide +kernel) (by decide +kernel)
theorem ok_X9_finds : okM yX9_finds cX9_finds 3 (some .boolean) 1 := ⟨mc_X9_finds, mz_RX9, by decide +kernel⟩
theorem mi_X9_finds : Cond.instanceMethod yX9_finds ∈ gW := gW_in 927 (by decide +kernel) (by decide +kernel)
theorem ml_X9_finds : Cond.selects RX9 yX9_finds yX9_finds ∈ gW := gW_in 67 (by decide +kernel) (by decide +kernel)
def qX9_finds_71 (rec : Int32 → SM → (Int32 → SM → Prop) → Prop)  (Q : Int32 → SM → Prop) (v1 : Int32) (v2 : Int32) (u : SM) : Prop := (vp_in v2 12 ∧ ∀ s5 : SM, s5 = (st_up u.1 18 (Int32.toNatClampNeg v2) v1, u.2) → (Q 1 s5))
def qX9_finds_80 (rec : Int32 → SM → (Int32 → SM → Prop) → Prop) (R2 : Int32 → Int32 → SM → Prop) (Q : Int32 → SM → Prop) (v1 : Int32) (v2 : Int32) (u : SM) : Prop := ∀ x4 : Int32, x4 = v2 + 1 → R2 v1 x4 u
def qX9_finds_2 (rec : Int32 → SM → (Int32 → SM → Prop) → Prop) (R2 : Int32 → Int32 → SM → Prop) (Q : Int32 → SM → Prop) (v1 : Int32) (v2 : Int32) (u : SM) : Prop := (((u.1 0 21) ≤ v2 → (Q 0 u)) ∧ (¬ (u.1 0 21) ≤ v2 → (vp_in ((12 * v1) + v2) 144 ∧ (((u.1 17 (Int32.toNatClampNeg ((12 * v1) + v2))) = 0 → (qX9_finds_80 rec R2 Q v1 v2 u)) ∧ (¬ (u.1 17 (Int32.toNatClampNeg ((12 * v1) + v2))) = 0 → (vp_in v2 12 ∧ ((¬ (u.1 20 (Int32.toNatClampNeg v2)) = 0 → (qX9_finds_80 rec R2 Q v1 v2 u)) ∧ ((u.1 20 (Int32.toNatClampNeg v2)) = 0 → (vp_in v2 12 ∧ ((¬ (u.1 21 (Int32.toNatClampNeg v2)) = 0 → (qX9_finds_80 rec R2 Q v1 v2 u)) ∧ ((u.1 21 (Int32.toNatClampNeg v2)) = 0 → (vp_in v2 12 ∧ ∀ s1 : SM, s1 = (st_up u.1 21 (Int32.toNatClampNeg v2) (vp_nar .boolean 1), u.2) → (vp_in v2 12 ∧ (((s1.1 18 (Int32.toNatClampNeg v2)) < 0 → (qX9_finds_71 rec  Q v1 v2 s1)) ∧ (¬ (s1.1 18 (Int32.toNatClampNeg v2)) < 0 → (vp_in v2 12 ∧ (rec (s1.1 18 (Int32.toNatClampNeg v2)) s1 (fun r3 s2 => ((r3 = 0 → (qX9_finds_80 rec R2 Q v1 v2 s2)) ∧ (¬ r3 = 0 → (qX9_finds_71 rec  Q v1 v2 s2)))))))))))))))))))))
def qX9_finds_l2 (rec : Int32 → SM → (Int32 → SM → Prop) → Prop)  (Q : Int32 → SM → Prop) : Nat → Int32 → Int32 → SM → Prop
  | 0 => fun _ _ _ => False
  | n + 1 => qX9_finds_2 rec (qX9_finds_l2 rec  Q n) Q
def pX9_finds_b (rec : Int32 → SM → (Int32 → SM → Prop) → Prop) (v1 : Int32) (u : SM) (Q : Int32 → SM → Prop) : Prop := (∃ n, qX9_finds_l2 rec  Q n v1 0 u)
def pX9_finds : Nat → Int32 → SM → (Int32 → SM → Prop) → Prop
  | 0 => fun _ _ _ => False
  | d + 1 => pX9_finds_b (pX9_finds d)
set_option maxRecDepth 100000 in
set_option maxHeartbeats 4000000 in
theorem kX9_finds_b (l : Launch) (D : va_G) (ad : Nat → Nat) (T : TT) (hI : injA 27 ad) (d : Nat) (rec : Int32 → SM → (Int32 → SM → Prop) → Prop) (hrec : ∀ (v1 : Int32) (u : SM) (Q : Int32 → SM → Prop), rec v1 u Q → Ki (KM l D ad T) (wM T ad) yX9_finds cX9_finds 3 (some .boolean) { frames := d, cells := 0, slots := 0, locals := d * 22 } [.ref (ad 0), .int v1] (wM T ad u) Q) (v1 : Int32) (u : SM) (Q : Int32 → SM → Prop) (h : pX9_finds_b rec v1 u Q) : Ki (KM l D ad T) (wM T ad) yX9_finds cX9_finds 3 (some .boolean) { frames := d + 1, cells := 0, slots := 0, locals := (d + 1) * 22 } [.ref (ad 0), .int v1] (wM T ad u) Q := by
  refine st_MZ (fr := d + 1) (lo := (d + 1) * 22) (by decide) ⟨rfl, rfl⟩ rfl (Nat.le_of_ble_eq_true rfl) rfl (fun X C hD ret => ?_)
  have hrm : rmOk { frames := d, cells := 0, slots := 0, locals := d * 22 } 3 (d + 1) ((d + 1) * 22) := ⟨rfl, rfl, Nat.le_refl _, by show 8 + (3 + 11) + d * 22 ≤ (d + 1) * 22; omega⟩
  replace hD : ∀ u, DX X (wM T ad u) := fun u => hD _ (wM_D hI T u)
  have t71 : ∀ (v1 : Int32) (v2 : Int32) (u : SM), qX9_finds_71 rec  Q v1 v2 u → At X 3 (wM T ad u) 71 [(0, .ref (ad 0)), (1, .int v1), (2, .int v2)] [] := by
    intro v1 v2 u h
    unfold qX9_finds_71 at h
    refine at_aload_n C dX9_finds_71 0 rfl ?_
    refine gM_X9_72 C dX9_finds_72 ?_
    refine at_iload_n C dX9_finds_75 2 rfl ?_
    refine at_iload_n C dX9_finds_76 1 rfl ?_
    obtain ⟨hi, h⟩ := h
    refine sM_18 C hD hi dX9_finds_77 (fun s5 es5 => ?_)
    replace h := h s5 es5
    refine at_iconst (v := 1) C dX9_finds_78 (by decide) ?_
    exact ret _ _ _ _ dX9_finds_79 rfl h
  have t80 : ∀ (R2 : Int32 → Int32 → SM → Prop) (hR2 : ∀ (v1 : Int32) (v2 : Int32) (u : SM), R2 v1 v2 u → At X 3 (wM T ad u) 2 [(0, .ref (ad 0)), (1, .int v1), (2, .int v2)] []) (v1 : Int32) (v2 : Int32) (u : SM), qX9_finds_80 rec R2 Q v1 v2 u → At X 3 (wM T ad u) 80 [(0, .ref (ad 0)), (1, .int v1), (2, .int v2)] [] := by
    intro R2 hR2 v1 v2 u h
    unfold qX9_finds_80 at h
    obtain ⟨x4, ex4⟩ : ∃ y : Int32, y = v2 + 1 := ⟨_, rfl⟩
    replace h := h x4 ex4
    refine at_iinc (v := x4) (lv' := [(0, .ref (ad 0)), (1, .int v1), (2, .int x4)]) C dX9_finds_80 2 rfl (by rw [ex4]; rfl) (by decide) [1, 2, 0] rfl ?_
    refine at_goto (tgt := 2) C dX9_finds_83 (by decide) ?_
    exact hR2 _ _ _ h
  have tb2 : ∀ (R2 : Int32 → Int32 → SM → Prop) (hR2 : ∀ (v1 : Int32) (v2 : Int32) (u : SM), R2 v1 v2 u → At X 3 (wM T ad u) 2 [(0, .ref (ad 0)), (1, .int v1), (2, .int v2)] []) (v1 : Int32) (v2 : Int32) (u : SM), qX9_finds_2 rec R2 Q v1 v2 u → At X 3 (wM T ad u) 2 [(0, .ref (ad 0)), (1, .int v1), (2, .int v2)] [] := by
    intro R2 hR2 v1 v2 u h
    unfold qX9_finds_2 at h
    refine at_iload_n C dX9_finds_2 2 rfl ?_
    refine at_aload_n C dX9_finds_3 0 rfl ?_
    refine gM_X9_128 C dX9_finds_4 ?_
    refine at_icmp_ge (tgt := 86) C dX9_finds_7 (by decide) (fun hc => ?_) (fun hc => ?_)
    · replace h := h.1 hc
      refine at_iconst (v := 0) C dX9_finds_86 (by decide) ?_
      exact ret _ _ _ _ dX9_finds_87 rfl h
    · replace h := h.2 hc
      refine at_aload_n C dX9_finds_10 0 rfl ?_
      refine gM_X9_69 C dX9_finds_11 ?_
      refine at_bipush (v := 12) C dX9_finds_14 (by decide) ?_
      refine at_iload_n C dX9_finds_16 1 rfl ?_
      refine at_imul C dX9_finds_17 ?_
      refine at_iload_n C dX9_finds_18 2 rfl ?_
      refine at_iadd C dX9_finds_19 ?_
      obtain ⟨hi, h⟩ := h
      refine rM_17 C hi dX9_finds_20 ?_
      refine at_if_eq (tgt := 80) C dX9_finds_21 (by decide) (fun hc => ?_) (fun hc => ?_)
      · replace h := h.1 hc
        exact t80 R2 hR2 _ _ _ h
      · replace h := h.2 hc
        refine at_aload_n C dX9_finds_24 0 rfl ?_
        refine gM_X9_78 C dX9_finds_25 ?_
        refine at_iload_n C dX9_finds_28 2 rfl ?_
        obtain ⟨hi, h⟩ := h
        refine rM_20 C hi dX9_finds_29 ?_
        refine at_if_ne (tgt := 80) C dX9_finds_30 (by decide) (fun hc => ?_) (fun hc => ?_)
        · replace h := h.1 hc
          exact t80 R2 hR2 _ _ _ h
        · replace h := h.2 hc
          refine at_aload_n C dX9_finds_33 0 rfl ?_
          refine gM_X9_81 C dX9_finds_34 ?_
          refine at_iload_n C dX9_finds_37 2 rfl ?_
          obtain ⟨hi, h⟩ := h
          refine rM_21 C hi dX9_finds_38 ?_
          refine at_if_ne (tgt := 80) C dX9_finds_39 (by decide) (fun hc => ?_) (fun hc => ?_)
          · replace h := h.1 hc
            exact t80 R2 hR2 _ _ _ h
          · replace h := h.2 hc
            refine at_aload_n C dX9_finds_42 0 rfl ?_
            refine gM_X9_81 C dX9_finds_43 ?_
            refine at_iload_n C dX9_finds_46 2 rfl ?_
            refine at_iconst (v := 1) C dX9_finds_47 (by decide) ?_
            obtain ⟨hi, h⟩ := h
            refine sM_21 C hD hi dX9_finds_48 (fun s1 es1 => ?_)
            replace h := h s1 es1
            refine at_aload_n C dX9_finds_49 0 rfl ?_
            refine gM_X9_72 C dX9_finds_50 ?_
            refine at_iload_n C dX9_finds_53 2 rfl ?_
            obtain ⟨hi, h⟩ := h
            refine rM_18 C hi dX9_finds_54 ?_
            refine at_if_lt (tgt := 71) C dX9_finds_55 (by decide) (fun hc => ?_) (fun hc => ?_)
            · replace h := h.1 hc
              exact t71  _ _ _ h
            · replace h := h.2 hc
              refine at_aload_n C dX9_finds_58 0 rfl ?_
              refine at_aload_n C dX9_finds_59 0 rfl ?_
              refine gM_X9_72 C dX9_finds_60 ?_
              refine at_iload_n C dX9_finds_63 2 rfl ?_
              obtain ⟨hi, h⟩ := h
              refine rM_18 C hi dX9_finds_64 ?_
              refine at_callVi C (hrec _ _ _ h) ok_X9_finds m_X9_131 mi_X9_finds ml_X9_finds (wM_g0 T ad _) rfl hrm rfl rfl (Nat.le_of_ble_eq_true rfl) dX9_finds_65 (fun r3 s2 h => ?_)
              refine at_if_eq (tgt := 80) C dX9_finds_68 (by decide) (fun hc => ?_) (fun hc => ?_)
              · replace h := h.1 hc
                exact t80 R2 hR2 _ _ _ h
              · replace h := h.2 hc
                exact t71  _ _ _ h
  have t2 : ∀ (n : Nat) (v1 : Int32) (v2 : Int32) (u : SM), qX9_finds_l2 rec  Q n v1 v2 u → At X 3 (wM T ad u) 2 [(0, .ref (ad 0)), (1, .int v1), (2, .int v2)] [] := by
    intro  n
    induction n with
    | zero => intro v1 v2 u h; exact False.elim h
    | succ n ih => intro v1 v2 u h; exact tb2 (qX9_finds_l2 rec  Q n) ih v1 v2 u h
  unfold pX9_finds_b at h
  refine at_iconst (v := 0) C dX9_finds_0 (by decide) ?_
  refine at_istore_n (lv' := [(0, .ref (ad 0)), (1, .int v1), (2, .int 0)]) C dX9_finds_1 (by decide) [1, 2, 0] rfl ?_
  obtain ⟨n, h⟩ := h
  exact t2  n _ _ _ h
set_option maxRecDepth 100000 in
set_option maxHeartbeats 4000000 in
theorem kX9_finds (l : Launch) (D : va_G) (ad : Nat → Nat) (T : TT) (hI : injA 27 ad) : ∀ (d : Nat) (v1 : Int32) (u : SM) (Q : Int32 → SM → Prop), pX9_finds d v1 u Q → Ki (KM l D ad T) (wM T ad) yX9_finds cX9_finds 3 (some .boolean) { frames := d, cells := 0, slots := 0, locals := d * 22 } [.ref (ad 0), .int v1] (wM T ad u) Q := by
  intro d
  induction d with
  | zero => intro v1 u Q h; exact False.elim h
  | succ d ih => intro v1 u Q h; exact kX9_finds_b l D ad T hI d (pX9_finds d) ih v1 u Q h
def qX9_most_81 (R27 : Int32 → Int32 → SM → Prop) (Q : Int32 → SM → Prop) (v2 : Int32) (k0 : Int32) (k1 : Int32) (u : SM) : Prop := ∀ x7 : Int32, x7 = (k1 + k0) → ∀ x8 : Int32, x8 = v2 + 1 → R27 x7 x8 u
def qX9_most_80 (R27 : Int32 → Int32 → SM → Prop) (Q : Int32 → SM → Prop) (v2 : Int32) (k0 : Int32) (u : SM) : Prop := (qX9_most_81 R27 Q v2 0 k0 u)
def qX9_most_37 (R27 : Int32 → Int32 → SM → Prop) (R37 : Int32 → Int32 → Int32 → SM → Prop) (Q : Int32 → SM → Prop) (v1 : Int32) (v2 : Int32) (v3 : Int32) (u : SM) : Prop := (((u.1 0 21) ≤ v3 → (vp_in v2 12 ∧ ((¬ (u.1 19 (Int32.toNatClampNeg v2)) = 0 → (qX9_most_80 R27 Q v2 v1 u)) ∧ ((u.1 19 (Int32.toNatClampNeg v2)) = 0 → (pX9_finds 14 v2 u (fun r4 s3 => ((r4 = 0 → (qX9_most_80 R27 Q v2 v1 s3)) ∧ (¬ r4 = 0 → (qX9_most_81 R27 Q v2 1 v1 s3))))))))) ∧ (¬ (u.1 0 21) ≤ v3 → (vp_in v3 12 ∧ ∀ s5 : SM, s5 = (st_up u.1 21 (Int32.toNatClampNeg v3) (vp_nar .boolean 0), u.2) → ∀ x6 : Int32, x6 = v3 + 1 → R37 v1 v2 x6 s5)))
def qX9_most_l37 (R27 : Int32 → Int32 → SM → Prop) (Q : Int32 → SM → Prop) : Nat → Int32 → Int32 → Int32 → SM → Prop
  | 0 => fun _ _ _ _ => False
  | n + 1 => qX9_most_37 R27 (qX9_most_l37 R27 Q n) Q
def qX9_most_27 (R27 : Int32 → Int32 → SM → Prop) (Q : Int32 → SM → Prop) (v1 : Int32) (v2 : Int32) (u : SM) : Prop := (((u.1 0 20) ≤ v2 → (Q v1 u)) ∧ (¬ (u.1 0 20) ≤ v2 → (∃ n, qX9_most_l37 R27 Q n v1 v2 0 u)))
def qX9_most_l27  (Q : Int32 → SM → Prop) : Nat → Int32 → Int32 → SM → Prop
  | 0 => fun _ _ _ => False
  | n + 1 => qX9_most_27 (qX9_most_l27  Q n) Q
def qX9_most_4 (R4 : Int32 → Int32 → SM → Prop) (Q : Int32 → SM → Prop) (v1 : Int32) (v2 : Int32) (u : SM) : Prop := (((u.1 0 21) ≤ v2 → (∃ n, qX9_most_l27  Q n v1 0 u)) ∧ (¬ (u.1 0 21) ≤ v2 → (vp_in v2 12 ∧ ∀ s1 : SM, s1 = (st_up u.1 18 (Int32.toNatClampNeg v2) (-1), u.2) → ∀ x2 : Int32, x2 = v2 + 1 → R4 v1 x2 s1)))
def qX9_most_l4  (Q : Int32 → SM → Prop) : Nat → Int32 → Int32 → SM → Prop
  | 0 => fun _ _ _ => False
  | n + 1 => qX9_most_4 (qX9_most_l4  Q n) Q
def pX9_most  (u : SM) (Q : Int32 → SM → Prop) : Prop := (∃ n, qX9_most_l4  Q n 0 0 u)
set_option maxRecDepth 100000 in
set_option maxHeartbeats 4000000 in
theorem kX9_most (l : Launch) (D : va_G) (ad : Nat → Nat) (T : TT) (hI : injA 27 ad)  (u : SM) (Q : Int32 → SM → Prop) (h : pX9_most  u Q) : Ki (KM l D ad T) (wM T ad) yX9_most cX9_most 4 (some .int) { frames := 15, cells := 0, slots := 0, locals := 330 } [.ref (ad 0)] (wM T ad u) Q := by
  refine st_MI (fr := 15) (lo := 330) (by decide) ⟨rfl, rfl⟩ rfl (Nat.le_of_ble_eq_true rfl) rfl (fun X C hD ret => ?_)
  replace hD : ∀ u, DX X (wM T ad u) := fun u => hD _ (wM_D hI T u)
  have t81 : ∀ (R27 : Int32 → Int32 → SM → Prop) (hR27 : ∀ (v1 : Int32) (v2 : Int32) (u : SM), R27 v1 v2 u → At X 4 (wM T ad u) 27 [(0, .ref (ad 0)), (1, .int v1), (2, .int v2)] []) (v2 : Int32) (k0 : Int32) (k1 : Int32) (u : SM), qX9_most_81 R27 Q v2 k0 k1 u → At X 4 (wM T ad u) 81 [(0, .ref (ad 0)), (2, .int v2)] [.int k0, .int k1] := by
    intro R27 hR27 v2 k0 k1 u h
    unfold qX9_most_81 at h
    refine at_iadd C dX9_most_81 ?_
    refine at_topi (fun x7 ex7 => ?_)
    replace h := h x7 ex7
    refine at_istore_n (lv' := [(0, .ref (ad 0)), (1, .int x7), (2, .int v2)]) C dX9_most_82 (by decide) [1, 0, 2] rfl ?_
    obtain ⟨x8, ex8⟩ : ∃ y : Int32, y = v2 + 1 := ⟨_, rfl⟩
    replace h := h x8 ex8
    refine at_iinc (v := x8) (lv' := [(0, .ref (ad 0)), (1, .int x7), (2, .int x8)]) C dX9_most_83 2 rfl (by rw [ex8]; rfl) (by decide) [1, 2, 0] rfl ?_
    refine at_goto (tgt := 27) C dX9_most_86 (by decide) ?_
    exact hR27 _ _ _ h
  have t80 : ∀ (R27 : Int32 → Int32 → SM → Prop) (hR27 : ∀ (v1 : Int32) (v2 : Int32) (u : SM), R27 v1 v2 u → At X 4 (wM T ad u) 27 [(0, .ref (ad 0)), (1, .int v1), (2, .int v2)] []) (v2 : Int32) (k0 : Int32) (u : SM), qX9_most_80 R27 Q v2 k0 u → At X 4 (wM T ad u) 80 [(0, .ref (ad 0)), (2, .int v2)] [.int k0] := by
    intro R27 hR27 v2 k0 u h
    unfold qX9_most_80 at h
    refine at_iconst (v := 0) C dX9_most_80 (by decide) ?_
    exact t81 R27 hR27 _ _ _ _ h
  have tb37 : ∀ (R27 : Int32 → Int32 → SM → Prop) (hR27 : ∀ (v1 : Int32) (v2 : Int32) (u : SM), R27 v1 v2 u → At X 4 (wM T ad u) 27 [(0, .ref (ad 0)), (1, .int v1), (2, .int v2)] []) (R37 : Int32 → Int32 → Int32 → SM → Prop) (hR37 : ∀ (v1 : Int32) (v2 : Int32) (v3 : Int32) (u : SM), R37 v1 v2 v3 u → At X 4 (wM T ad u) 37 [(0, .ref (ad 0)), (1, .int v1), (2, .int v2), (3, .int v3)] []) (v1 : Int32) (v2 : Int32) (v3 : Int32) (u : SM), qX9_most_37 R27 R37 Q v1 v2 v3 u → At X 4 (wM T ad u) 37 [(0, .ref (ad 0)), (1, .int v1), (2, .int v2), (3, .int v3)] [] := by
    intro R27 hR27 R37 hR37 v1 v2 v3 u h
    unfold qX9_most_37 at h
    refine at_iload_n C dX9_most_37 3 rfl ?_
    refine at_aload_n C dX9_most_38 0 rfl ?_
    refine gM_X9_128 C dX9_most_39 ?_
    refine at_icmp_ge (tgt := 58) C dX9_most_42 (by decide) (fun hc => ?_) (fun hc => ?_)
    · replace h := h.1 hc
      refine at_iload_n C dX9_most_58 1 rfl ?_
      refine at_aload_n C dX9_most_59 0 rfl ?_
      refine gM_X9_75 C dX9_most_60 ?_
      refine at_iload_n C dX9_most_63 2 rfl ?_
      obtain ⟨hi, h⟩ := h
      refine rM_19 C hi dX9_most_64 ?_
      refine at_if_ne (tgt := 80) C dX9_most_65 (by decide) (fun hc => ?_) (fun hc => ?_)
      · replace h := h.1 hc
        refine at_sub [0, 2] rfl ?_
        exact t80 R27 hR27 _ _ _ h
      · replace h := h.2 hc
        refine at_aload_n C dX9_most_68 0 rfl ?_
        refine at_iload_n C dX9_most_69 2 rfl ?_
        refine at_callVi C (kX9_finds l D ad T hI 14 _ _ _ h) ok_X9_finds m_X9_131 mi_X9_finds ml_X9_finds (wM_g0 T ad _) rfl ⟨rfl, rfl, Nat.le_of_ble_eq_true rfl, Nat.le_of_ble_eq_true rfl⟩ rfl rfl (Nat.le_of_ble_eq_true rfl) dX9_most_70 (fun r4 s3 h => ?_)
        refine at_if_eq (tgt := 80) C dX9_most_73 (by decide) (fun hc => ?_) (fun hc => ?_)
        · replace h := h.1 hc
          refine at_sub [0, 2] rfl ?_
          exact t80 R27 hR27 _ _ _ h
        · replace h := h.2 hc
          refine at_iconst (v := 1) C dX9_most_76 (by decide) ?_
          refine at_goto (tgt := 81) C dX9_most_77 (by decide) ?_
          refine at_sub [0, 2] rfl ?_
          exact t81 R27 hR27 _ _ _ _ h
    · replace h := h.2 hc
      refine at_aload_n C dX9_most_45 0 rfl ?_
      refine gM_X9_81 C dX9_most_46 ?_
      refine at_iload_n C dX9_most_49 3 rfl ?_
      refine at_iconst (v := 0) C dX9_most_50 (by decide) ?_
      obtain ⟨hi, h⟩ := h
      refine sM_21 C hD hi dX9_most_51 (fun s5 es5 => ?_)
      replace h := h s5 es5
      obtain ⟨x6, ex6⟩ : ∃ y : Int32, y = v3 + 1 := ⟨_, rfl⟩
      replace h := h x6 ex6
      refine at_iinc (v := x6) (lv' := [(0, .ref (ad 0)), (1, .int v1), (2, .int v2), (3, .int x6)]) C dX9_most_52 3 rfl (by rw [ex6]; rfl) (by decide) [1, 2, 3, 0] rfl ?_
      refine at_goto (tgt := 37) C dX9_most_55 (by decide) ?_
      exact hR37 _ _ _ _ h
  have t37 : ∀ (R27 : Int32 → Int32 → SM → Prop) (hR27 : ∀ (v1 : Int32) (v2 : Int32) (u : SM), R27 v1 v2 u → At X 4 (wM T ad u) 27 [(0, .ref (ad 0)), (1, .int v1), (2, .int v2)] []) (n : Nat) (v1 : Int32) (v2 : Int32) (v3 : Int32) (u : SM), qX9_most_l37 R27 Q n v1 v2 v3 u → At X 4 (wM T ad u) 37 [(0, .ref (ad 0)), (1, .int v1), (2, .int v2), (3, .int v3)] [] := by
    intro R27 hR27 n
    induction n with
    | zero => intro v1 v2 v3 u h; exact False.elim h
    | succ n ih => intro v1 v2 v3 u h; exact tb37 R27 hR27 (qX9_most_l37 R27 Q n) ih v1 v2 v3 u h
  have tb27 : ∀ (R27 : Int32 → Int32 → SM → Prop) (hR27 : ∀ (v1 : Int32) (v2 : Int32) (u : SM), R27 v1 v2 u → At X 4 (wM T ad u) 27 [(0, .ref (ad 0)), (1, .int v1), (2, .int v2)] []) (v1 : Int32) (v2 : Int32) (u : SM), qX9_most_27 R27 Q v1 v2 u → At X 4 (wM T ad u) 27 [(0, .ref (ad 0)), (1, .int v1), (2, .int v2)] [] := by
    intro R27 hR27 v1 v2 u h
    unfold qX9_most_27 at h
    refine at_iload_n C dX9_most_27 2 rfl ?_
    refine at_aload_n C dX9_most_28 0 rfl ?_
    refine gM_X9_134 C dX9_most_29 ?_
    refine at_icmp_ge (tgt := 89) C dX9_most_32 (by decide) (fun hc => ?_) (fun hc => ?_)
    · replace h := h.1 hc
      refine at_iload_n C dX9_most_89 1 rfl ?_
      exact ret _ _ _ _ dX9_most_90 h
    · replace h := h.2 hc
      refine at_iconst (v := 0) C dX9_most_35 (by decide) ?_
      refine at_istore_n (lv' := [(0, .ref (ad 0)), (1, .int v1), (2, .int v2), (3, .int 0)]) C dX9_most_36 (by decide) [1, 2, 3, 0] rfl ?_
      obtain ⟨n, h⟩ := h
      exact t37 R27 hR27 n _ _ _ _ h
  have t27 : ∀ (n : Nat) (v1 : Int32) (v2 : Int32) (u : SM), qX9_most_l27  Q n v1 v2 u → At X 4 (wM T ad u) 27 [(0, .ref (ad 0)), (1, .int v1), (2, .int v2)] [] := by
    intro  n
    induction n with
    | zero => intro v1 v2 u h; exact False.elim h
    | succ n ih => intro v1 v2 u h; exact tb27 (qX9_most_l27  Q n) ih v1 v2 u h
  have tb4 : ∀ (R4 : Int32 → Int32 → SM → Prop) (hR4 : ∀ (v1 : Int32) (v2 : Int32) (u : SM), R4 v1 v2 u → At X 4 (wM T ad u) 4 [(0, .ref (ad 0)), (1, .int v1), (2, .int v2)] []) (v1 : Int32) (v2 : Int32) (u : SM), qX9_most_4 R4 Q v1 v2 u → At X 4 (wM T ad u) 4 [(0, .ref (ad 0)), (1, .int v1), (2, .int v2)] [] := by
    intro R4 hR4 v1 v2 u h
    unfold qX9_most_4 at h
    refine at_iload_n C dX9_most_4 2 rfl ?_
    refine at_aload_n C dX9_most_5 0 rfl ?_
    refine gM_X9_128 C dX9_most_6 ?_
    refine at_icmp_ge (tgt := 25) C dX9_most_9 (by decide) (fun hc => ?_) (fun hc => ?_)
    · replace h := h.1 hc
      refine at_iconst (v := 0) C dX9_most_25 (by decide) ?_
      refine at_istore_n (lv' := [(0, .ref (ad 0)), (1, .int v1), (2, .int 0)]) C dX9_most_26 (by decide) [1, 2, 0] rfl ?_
      obtain ⟨n, h⟩ := h
      exact t27  n _ _ _ h
    · replace h := h.2 hc
      refine at_aload_n C dX9_most_12 0 rfl ?_
      refine gM_X9_72 C dX9_most_13 ?_
      refine at_iload_n C dX9_most_16 2 rfl ?_
      refine at_iconst (v := (-1)) C dX9_most_17 (by decide) ?_
      obtain ⟨hi, h⟩ := h
      refine sM_18 C hD hi dX9_most_18 (fun s1 es1 => ?_)
      replace h := h s1 es1
      obtain ⟨x2, ex2⟩ : ∃ y : Int32, y = v2 + 1 := ⟨_, rfl⟩
      replace h := h x2 ex2
      refine at_iinc (v := x2) (lv' := [(0, .ref (ad 0)), (1, .int v1), (2, .int x2)]) C dX9_most_19 2 rfl (by rw [ex2]; rfl) (by decide) [1, 2, 0] rfl ?_
      refine at_goto (tgt := 4) C dX9_most_22 (by decide) ?_
      exact hR4 _ _ _ h
  have t4 : ∀ (n : Nat) (v1 : Int32) (v2 : Int32) (u : SM), qX9_most_l4  Q n v1 v2 u → At X 4 (wM T ad u) 4 [(0, .ref (ad 0)), (1, .int v1), (2, .int v2)] [] := by
    intro  n
    induction n with
    | zero => intro v1 v2 u h; exact False.elim h
    | succ n ih => intro v1 v2 u h; exact tb4 (qX9_most_l4  Q n) ih v1 v2 u h
  unfold pX9_most at h
  refine at_iconst (v := 0) C dX9_most_0 (by decide) ?_
  refine at_istore_n (lv' := [(0, .ref (ad 0)), (1, .int 0)]) C dX9_most_1 (by decide) [1, 0] rfl ?_
  refine at_iconst (v := 0) C dX9_most_2 (by decide) ?_
  refine at_istore_n (lv' := [(0, .ref (ad 0)), (1, .int 0), (2, .int 0)]) C dX9_most_3 (by decide) [1, 2, 0] rfl ?_
  obtain ⟨n, h⟩ := h
  exact t4  n _ _ _ h
theorem m_X9_147 : Cond.methodLink RX9 147 yX9_most ∈ gW := gW_in 921 (by decide +kernel) (by decide +kernel)
theorem mc_X9_most : Cond.code yX9_most cX9_most 4 (some .int) ∈ gW := gW_in 924 (by decide +kernel) (by decide +kernel)
theorem ok_X9_most : okM yX9_most cX9_most 4 (some .int) 0 := ⟨mc_X9_most, mz_RX9, by decide +kernel⟩
theorem mi_X9_most : Cond.instanceMethod yX9_most ∈ gW := gW_in 923 (by decide +kernel) (by decide +kernel)
theorem ml_X9_most : Cond.selects RX9 yX9_most yX9_most ∈ gW := gW_in 66 (by decide +kernel) (by decide +kernel)
def qX9_pairs_128 (R16 : Int32 → Int32 → SM → Prop) (R39 : Int32 → Int32 → Int32 → Int32 → SM → Prop) (Q : SM → Prop) (v4 : Int32) (v5 : Int32) (v6 : Int32) (v7 : Int32) (u : SM) : Prop := ∀ x12 : Int32, x12 = v7 + 1 → R39 v4 v5 v6 x12 u
def qX9_pairs_127 (R16 : Int32 → Int32 → SM → Prop) (R39 : Int32 → Int32 → Int32 → Int32 → SM → Prop) (Q : SM → Prop) (v4 : Int32) (v5 : Int32) (v6 : Int32) (v7 : Int32) (k0 : Int32) (k1 : Int32) (u : SM) : Prop := (vp_in k1 12 ∧ ∀ s14 : SM, s14 = (st_up u.1 20 (Int32.toNatClampNeg k1) (vp_nar .boolean k0), u.2) → (qX9_pairs_128 R16 R39 Q v4 v5 v6 v7 s14))
def qX9_pairs_109 (R16 : Int32 → Int32 → SM → Prop) (R39 : Int32 → Int32 → Int32 → Int32 → SM → Prop) (Q : SM → Prop) (v4 : Int32) (v5 : Int32) (v7 : Int32) (k0 : Int32) (u : SM) : Prop := ((k0 < 0 → (qX9_pairs_127 R16 R39 Q v4 v5 k0 v7 0 v7 u)) ∧ (¬ k0 < 0 → (qX9_pairs_127 R16 R39 Q v4 v5 k0 v7 1 v7 u)))
def qX9_pairs_180 (R16 : Int32 → Int32 → SM → Prop) (Q : SM → Prop) (v4 : Int32) (v5 : Int32) (u : SM) : Prop := ∀ x13 : Int32, x13 = v5 + 1 → R16 v4 x13 u
def qX9_pairs_134 (R16 : Int32 → Int32 → SM → Prop) (Q : SM → Prop) (v4 : Int32) (v5 : Int32) (v6 : Int32) (u : SM) : Prop := ((v6 < 0 → (qX9_pairs_180 R16 Q v4 v5 u)) ∧ (¬ v6 < 0 → (vp_in v5 12 ∧ (vp_in v6 12 ∧ (vp_in (u.1 15 (Int32.toNatClampNeg v5)) 300 ∧ ∀ s9 : SM, s9 = (st_up u.1 13 (Int32.toNatClampNeg (u.1 15 (Int32.toNatClampNeg v5))) (u.1 16 (Int32.toNatClampNeg v6)), u.2) → (vp_in v6 12 ∧ (vp_in v5 12 ∧ (vp_in (s9.1 16 (Int32.toNatClampNeg v6)) 300 ∧ ∀ s10 : SM, s10 = (st_up s9.1 14 (Int32.toNatClampNeg (s9.1 16 (Int32.toNatClampNeg v6))) (s9.1 15 (Int32.toNatClampNeg v5)), s9.2) → ∀ x11 : Int32, x11 = v4 + (-1) → (qX9_pairs_180 R16 Q x11 v5 s10)))))))))
def qX9_pairs_39 (R16 : Int32 → Int32 → SM → Prop) (R39 : Int32 → Int32 → Int32 → Int32 → SM → Prop) (Q : SM → Prop) (v4 : Int32) (v5 : Int32) (v6 : Int32) (v7 : Int32) (u : SM) : Prop := (((u.1 0 21) ≤ v7 → (qX9_pairs_134 R16 Q v4 v5 v6 u)) ∧ (¬ (u.1 0 21) ≤ v7 → ((0 ≤ v6 → (qX9_pairs_134 R16 Q v4 v5 v6 u)) ∧ (¬ 0 ≤ v6 → ((v4 ≤ 0 → (qX9_pairs_134 R16 Q v4 v5 v6 u)) ∧ (¬ v4 ≤ 0 → (vp_in ((12 * v5) + v7) 144 ∧ (((u.1 17 (Int32.toNatClampNeg ((12 * v5) + v7))) = 0 → (qX9_pairs_128 R16 R39 Q v4 v5 v6 v7 u)) ∧ (¬ (u.1 17 (Int32.toNatClampNeg ((12 * v5) + v7))) = 0 → (vp_in v7 12 ∧ ((¬ (u.1 20 (Int32.toNatClampNeg v7)) = 0 → (qX9_pairs_128 R16 R39 Q v4 v5 v6 v7 u)) ∧ ((u.1 20 (Int32.toNatClampNeg v7)) = 0 → (vp_in v7 12 ∧ ∀ s6 : SM, s6 = (st_up u.1 20 (Int32.toNatClampNeg v7) (vp_nar .boolean 1), u.2) → (pX9_most s6 (fun r8 s7 => ((¬ r8 = (v4 - 1) → (qX9_pairs_109 R16 R39 Q v4 v5 v7 (-1) s7)) ∧ (r8 = (v4 - 1) → (qX9_pairs_109 R16 R39 Q v4 v5 v7 v7 s7))))))))))))))))))
def qX9_pairs_l39 (R16 : Int32 → Int32 → SM → Prop) (Q : SM → Prop) : Nat → Int32 → Int32 → Int32 → Int32 → SM → Prop
  | 0 => fun _ _ _ _ _ => False
  | n + 1 => qX9_pairs_39 R16 (qX9_pairs_l39 R16 Q n) Q
def qX9_pairs_16 (R16 : Int32 → Int32 → SM → Prop) (Q : SM → Prop) (v4 : Int32) (v5 : Int32) (u : SM) : Prop := (((u.1 0 20) ≤ v5 → (Q u)) ∧ (¬ (u.1 0 20) ≤ v5 → (vp_in v5 12 ∧ ∀ s5 : SM, s5 = (st_up u.1 19 (Int32.toNatClampNeg v5) (vp_nar .boolean 1), u.2) → (∃ n, qX9_pairs_l39 R16 Q n v4 v5 (-1) 0 s5))))
def qX9_pairs_l16  (Q : SM → Prop) : Nat → Int32 → Int32 → SM → Prop
  | 0 => fun _ _ _ => False
  | n + 1 => qX9_pairs_16 (qX9_pairs_l16  Q n) Q
def pX9_pairs (v1 : Int32) (v2 : Int32) (v3 : Int32) (u : SM) (Q : SM → Prop) : Prop := (pX9_collect v1 v2 v3 u (fun s1 => (pX9_most s1 (fun r4 s3 => (∃ n, qX9_pairs_l16  Q n r4 0 s3)))))
set_option maxRecDepth 100000 in
set_option maxHeartbeats 4000000 in
theorem kX9_pairs (l : Launch) (D : va_G) (ad : Nat → Nat) (T : TT) (hI : injA 27 ad) (v1 : Int32) (v2 : Int32) (v3 : Int32) (u : SM) (Q : SM → Prop) (h : pX9_pairs v1 v2 v3 u Q) : Kv (KM l D ad T) (wM T ad) yX9_pairs cX9_pairs 8 none { frames := 16, cells := 0, slots := 0, locals := 353 } [.ref (ad 0), .int v1, .int v2, .int v3] (wM T ad u) Q := by
  refine st_MV (fr := 16) (lo := 353) (by decide) ⟨rfl, rfl⟩ rfl (Nat.le_of_ble_eq_true rfl) rfl (fun X C hD ret => ?_)
  replace hD : ∀ u, DX X (wM T ad u) := fun u => hD _ (wM_D hI T u)
  have t128 : ∀ (R16 : Int32 → Int32 → SM → Prop) (hR16 : ∀ (v4 : Int32) (v5 : Int32) (u : SM), R16 v4 v5 u → At X 8 (wM T ad u) 16 [(0, .ref (ad 0)), (4, .int v4), (5, .int v5)] []) (R39 : Int32 → Int32 → Int32 → Int32 → SM → Prop) (hR39 : ∀ (v4 : Int32) (v5 : Int32) (v6 : Int32) (v7 : Int32) (u : SM), R39 v4 v5 v6 v7 u → At X 8 (wM T ad u) 39 [(0, .ref (ad 0)), (4, .int v4), (5, .int v5), (6, .int v6), (7, .int v7)] []) (v4 : Int32) (v5 : Int32) (v6 : Int32) (v7 : Int32) (u : SM), qX9_pairs_128 R16 R39 Q v4 v5 v6 v7 u → At X 8 (wM T ad u) 128 [(0, .ref (ad 0)), (4, .int v4), (5, .int v5), (6, .int v6), (7, .int v7)] [] := by
    intro R16 hR16 R39 hR39 v4 v5 v6 v7 u h
    unfold qX9_pairs_128 at h
    obtain ⟨x12, ex12⟩ : ∃ y : Int32, y = v7 + 1 := ⟨_, rfl⟩
    replace h := h x12 ex12
    refine at_iinc (v := x12) (lv' := [(0, .ref (ad 0)), (4, .int v4), (5, .int v5), (6, .int v6), (7, .int x12)]) C dX9_pairs_128 4 rfl (by rw [ex12]; rfl) (by decide) [1, 2, 3, 4, 0] rfl ?_
    refine at_goto (tgt := 39) C dX9_pairs_131 (by decide) ?_
    exact hR39 _ _ _ _ _ h
  have t127 : ∀ (R16 : Int32 → Int32 → SM → Prop) (hR16 : ∀ (v4 : Int32) (v5 : Int32) (u : SM), R16 v4 v5 u → At X 8 (wM T ad u) 16 [(0, .ref (ad 0)), (4, .int v4), (5, .int v5)] []) (R39 : Int32 → Int32 → Int32 → Int32 → SM → Prop) (hR39 : ∀ (v4 : Int32) (v5 : Int32) (v6 : Int32) (v7 : Int32) (u : SM), R39 v4 v5 v6 v7 u → At X 8 (wM T ad u) 39 [(0, .ref (ad 0)), (4, .int v4), (5, .int v5), (6, .int v6), (7, .int v7)] []) (v4 : Int32) (v5 : Int32) (v6 : Int32) (v7 : Int32) (k0 : Int32) (k1 : Int32) (u : SM), qX9_pairs_127 R16 R39 Q v4 v5 v6 v7 k0 k1 u → At X 8 (wM T ad u) 127 [(0, .ref (ad 0)), (4, .int v4), (5, .int v5), (6, .int v6), (7, .int v7)] [.int k0, .int k1, .ref (ad 20)] := by
    intro R16 hR16 R39 hR39 v4 v5 v6 v7 k0 k1 u h
    unfold qX9_pairs_127 at h
    obtain ⟨hi, h⟩ := h
    refine sM_20 C hD hi dX9_pairs_127 (fun s14 es14 => ?_)
    replace h := h s14 es14
    exact t128 R16 hR16 R39 hR39 _ _ _ _ _ h
  have t109 : ∀ (R16 : Int32 → Int32 → SM → Prop) (hR16 : ∀ (v4 : Int32) (v5 : Int32) (u : SM), R16 v4 v5 u → At X 8 (wM T ad u) 16 [(0, .ref (ad 0)), (4, .int v4), (5, .int v5)] []) (R39 : Int32 → Int32 → Int32 → Int32 → SM → Prop) (hR39 : ∀ (v4 : Int32) (v5 : Int32) (v6 : Int32) (v7 : Int32) (u : SM), R39 v4 v5 v6 v7 u → At X 8 (wM T ad u) 39 [(0, .ref (ad 0)), (4, .int v4), (5, .int v5), (6, .int v6), (7, .int v7)] []) (v4 : Int32) (v5 : Int32) (v7 : Int32) (k0 : Int32) (u : SM), qX9_pairs_109 R16 R39 Q v4 v5 v7 k0 u → At X 8 (wM T ad u) 109 [(0, .ref (ad 0)), (4, .int v4), (5, .int v5), (7, .int v7)] [.int k0] := by
    intro R16 hR16 R39 hR39 v4 v5 v7 k0 u h
    unfold qX9_pairs_109 at h
    refine at_istore (lv' := [(0, .ref (ad 0)), (4, .int v4), (5, .int v5), (6, .int k0), (7, .int v7)]) C dX9_pairs_109 (by decide) [1, 2, 3, 0, 4] rfl ?_
    refine at_aload_n C dX9_pairs_111 0 rfl ?_
    refine gM_X9_78 C dX9_pairs_112 ?_
    refine at_iload C dX9_pairs_115 4 rfl ?_
    refine at_iload C dX9_pairs_117 3 rfl ?_
    refine at_if_lt (tgt := 126) C dX9_pairs_119 (by decide) (fun hc => ?_) (fun hc => ?_)
    · replace h := h.1 hc
      refine at_iconst (v := 0) C dX9_pairs_126 (by decide) ?_
      exact t127 R16 hR16 R39 hR39 _ _ _ _ _ _ _ h
    · replace h := h.2 hc
      refine at_iconst (v := 1) C dX9_pairs_122 (by decide) ?_
      refine at_goto (tgt := 127) C dX9_pairs_123 (by decide) ?_
      exact t127 R16 hR16 R39 hR39 _ _ _ _ _ _ _ h
  have t180 : ∀ (R16 : Int32 → Int32 → SM → Prop) (hR16 : ∀ (v4 : Int32) (v5 : Int32) (u : SM), R16 v4 v5 u → At X 8 (wM T ad u) 16 [(0, .ref (ad 0)), (4, .int v4), (5, .int v5)] []) (v4 : Int32) (v5 : Int32) (u : SM), qX9_pairs_180 R16 Q v4 v5 u → At X 8 (wM T ad u) 180 [(0, .ref (ad 0)), (4, .int v4), (5, .int v5)] [] := by
    intro R16 hR16 v4 v5 u h
    unfold qX9_pairs_180 at h
    obtain ⟨x13, ex13⟩ : ∃ y : Int32, y = v5 + 1 := ⟨_, rfl⟩
    replace h := h x13 ex13
    refine at_iinc (v := x13) (lv' := [(0, .ref (ad 0)), (4, .int v4), (5, .int x13)]) C dX9_pairs_180 2 rfl (by rw [ex13]; rfl) (by decide) [1, 2, 0] rfl ?_
    refine at_goto (tgt := 16) C dX9_pairs_183 (by decide) ?_
    exact hR16 _ _ _ h
  have t134 : ∀ (R16 : Int32 → Int32 → SM → Prop) (hR16 : ∀ (v4 : Int32) (v5 : Int32) (u : SM), R16 v4 v5 u → At X 8 (wM T ad u) 16 [(0, .ref (ad 0)), (4, .int v4), (5, .int v5)] []) (v4 : Int32) (v5 : Int32) (v6 : Int32) (u : SM), qX9_pairs_134 R16 Q v4 v5 v6 u → At X 8 (wM T ad u) 134 [(0, .ref (ad 0)), (4, .int v4), (5, .int v5), (6, .int v6)] [] := by
    intro R16 hR16 v4 v5 v6 u h
    unfold qX9_pairs_134 at h
    refine at_iload C dX9_pairs_134 3 rfl ?_
    refine at_if_lt (tgt := 180) C dX9_pairs_136 (by decide) (fun hc => ?_) (fun hc => ?_)
    · replace h := h.1 hc
      refine at_sub [0, 1, 2] rfl ?_
      exact t180 R16 hR16 _ _ _ h
    · replace h := h.2 hc
      refine at_aload_n C dX9_pairs_139 0 rfl ?_
      refine gM_X9_57 C dX9_pairs_140 ?_
      refine at_aload_n C dX9_pairs_143 0 rfl ?_
      refine gM_X9_63 C dX9_pairs_144 ?_
      refine at_iload C dX9_pairs_147 2 rfl ?_
      obtain ⟨hi, h⟩ := h
      refine rM_15 C hi dX9_pairs_149 ?_
      refine at_aload_n C dX9_pairs_150 0 rfl ?_
      refine gM_X9_66 C dX9_pairs_151 ?_
      refine at_iload C dX9_pairs_154 3 rfl ?_
      obtain ⟨hi, h⟩ := h
      refine rM_16 C hi dX9_pairs_156 ?_
      obtain ⟨hi, h⟩ := h
      refine sM_13 C hD hi dX9_pairs_157 (fun s9 es9 => ?_)
      replace h := h s9 es9
      refine at_aload_n C dX9_pairs_158 0 rfl ?_
      refine gM_X9_60 C dX9_pairs_159 ?_
      refine at_aload_n C dX9_pairs_162 0 rfl ?_
      refine gM_X9_66 C dX9_pairs_163 ?_
      refine at_iload C dX9_pairs_166 3 rfl ?_
      obtain ⟨hi, h⟩ := h
      refine rM_16 C hi dX9_pairs_168 ?_
      refine at_aload_n C dX9_pairs_169 0 rfl ?_
      refine gM_X9_63 C dX9_pairs_170 ?_
      refine at_iload C dX9_pairs_173 2 rfl ?_
      obtain ⟨hi, h⟩ := h
      refine rM_15 C hi dX9_pairs_175 ?_
      obtain ⟨hi, h⟩ := h
      refine sM_14 C hD hi dX9_pairs_176 (fun s10 es10 => ?_)
      replace h := h s10 es10
      obtain ⟨x11, ex11⟩ : ∃ y : Int32, y = v4 + (-1) := ⟨_, rfl⟩
      replace h := h x11 ex11
      refine at_iinc (v := x11) (lv' := [(0, .ref (ad 0)), (4, .int x11), (5, .int v5), (6, .int v6)]) C dX9_pairs_177 1 rfl (by rw [ex11]; rfl) (by decide) [1, 0, 2, 3] rfl ?_
      refine at_sub [0, 1, 2] rfl ?_
      exact t180 R16 hR16 _ _ _ h
  have tb39 : ∀ (R16 : Int32 → Int32 → SM → Prop) (hR16 : ∀ (v4 : Int32) (v5 : Int32) (u : SM), R16 v4 v5 u → At X 8 (wM T ad u) 16 [(0, .ref (ad 0)), (4, .int v4), (5, .int v5)] []) (R39 : Int32 → Int32 → Int32 → Int32 → SM → Prop) (hR39 : ∀ (v4 : Int32) (v5 : Int32) (v6 : Int32) (v7 : Int32) (u : SM), R39 v4 v5 v6 v7 u → At X 8 (wM T ad u) 39 [(0, .ref (ad 0)), (4, .int v4), (5, .int v5), (6, .int v6), (7, .int v7)] []) (v4 : Int32) (v5 : Int32) (v6 : Int32) (v7 : Int32) (u : SM), qX9_pairs_39 R16 R39 Q v4 v5 v6 v7 u → At X 8 (wM T ad u) 39 [(0, .ref (ad 0)), (4, .int v4), (5, .int v5), (6, .int v6), (7, .int v7)] [] := by
    intro R16 hR16 R39 hR39 v4 v5 v6 v7 u h
    unfold qX9_pairs_39 at h
    refine at_iload C dX9_pairs_39 4 rfl ?_
    refine at_aload_n C dX9_pairs_41 0 rfl ?_
    refine gM_X9_128 C dX9_pairs_42 ?_
    refine at_icmp_ge (tgt := 134) C dX9_pairs_45 (by decide) (fun hc => ?_) (fun hc => ?_)
    · replace h := h.1 hc
      refine at_sub [0, 1, 2, 3] rfl ?_
      exact t134 R16 hR16 _ _ _ _ h
    · replace h := h.2 hc
      refine at_iload C dX9_pairs_48 3 rfl ?_
      refine at_if_ge (tgt := 134) C dX9_pairs_50 (by decide) (fun hc => ?_) (fun hc => ?_)
      · replace h := h.1 hc
        refine at_sub [0, 1, 2, 3] rfl ?_
        exact t134 R16 hR16 _ _ _ _ h
      · replace h := h.2 hc
        refine at_iload C dX9_pairs_53 1 rfl ?_
        refine at_if_le (tgt := 134) C dX9_pairs_55 (by decide) (fun hc => ?_) (fun hc => ?_)
        · replace h := h.1 hc
          refine at_sub [0, 1, 2, 3] rfl ?_
          exact t134 R16 hR16 _ _ _ _ h
        · replace h := h.2 hc
          refine at_aload_n C dX9_pairs_58 0 rfl ?_
          refine gM_X9_69 C dX9_pairs_59 ?_
          refine at_bipush (v := 12) C dX9_pairs_62 (by decide) ?_
          refine at_iload C dX9_pairs_64 2 rfl ?_
          refine at_imul C dX9_pairs_66 ?_
          refine at_iload C dX9_pairs_67 4 rfl ?_
          refine at_iadd C dX9_pairs_69 ?_
          obtain ⟨hi, h⟩ := h
          refine rM_17 C hi dX9_pairs_70 ?_
          refine at_if_eq (tgt := 128) C dX9_pairs_71 (by decide) (fun hc => ?_) (fun hc => ?_)
          · replace h := h.1 hc
            exact t128 R16 hR16 R39 hR39 _ _ _ _ _ h
          · replace h := h.2 hc
            refine at_aload_n C dX9_pairs_74 0 rfl ?_
            refine gM_X9_78 C dX9_pairs_75 ?_
            refine at_iload C dX9_pairs_78 4 rfl ?_
            obtain ⟨hi, h⟩ := h
            refine rM_20 C hi dX9_pairs_80 ?_
            refine at_if_ne (tgt := 128) C dX9_pairs_81 (by decide) (fun hc => ?_) (fun hc => ?_)
            · replace h := h.1 hc
              exact t128 R16 hR16 R39 hR39 _ _ _ _ _ h
            · replace h := h.2 hc
              refine at_aload_n C dX9_pairs_84 0 rfl ?_
              refine gM_X9_78 C dX9_pairs_85 ?_
              refine at_iload C dX9_pairs_88 4 rfl ?_
              refine at_iconst (v := 1) C dX9_pairs_90 (by decide) ?_
              obtain ⟨hi, h⟩ := h
              refine sM_20 C hD hi dX9_pairs_91 (fun s6 es6 => ?_)
              replace h := h s6 es6
              refine at_aload_n C dX9_pairs_92 0 rfl ?_
              refine at_callVi C (kX9_most l D ad T hI  _ _ h) ok_X9_most m_X9_147 mi_X9_most ml_X9_most (wM_g0 T ad _) rfl ⟨rfl, rfl, Nat.le_of_ble_eq_true rfl, Nat.le_of_ble_eq_true rfl⟩ rfl rfl (Nat.le_of_ble_eq_true rfl) dX9_pairs_93 (fun r8 s7 h => ?_)
              refine at_iload C dX9_pairs_96 1 rfl ?_
              refine at_iconst (v := 1) C dX9_pairs_98 (by decide) ?_
              refine at_isub C dX9_pairs_99 ?_
              refine at_icmp_ne (tgt := 108) C dX9_pairs_100 (by decide) (fun hc => ?_) (fun hc => ?_)
              · replace h := h.1 hc
                refine at_iconst (v := (-1)) C dX9_pairs_108 (by decide) ?_
                refine at_sub [0, 1, 2, 4] rfl ?_
                exact t109 R16 hR16 R39 hR39 _ _ _ _ _ h
              · replace h := h.2 hc
                refine at_iload C dX9_pairs_103 4 rfl ?_
                refine at_goto (tgt := 109) C dX9_pairs_105 (by decide) ?_
                refine at_sub [0, 1, 2, 4] rfl ?_
                exact t109 R16 hR16 R39 hR39 _ _ _ _ _ h
  have t39 : ∀ (R16 : Int32 → Int32 → SM → Prop) (hR16 : ∀ (v4 : Int32) (v5 : Int32) (u : SM), R16 v4 v5 u → At X 8 (wM T ad u) 16 [(0, .ref (ad 0)), (4, .int v4), (5, .int v5)] []) (n : Nat) (v4 : Int32) (v5 : Int32) (v6 : Int32) (v7 : Int32) (u : SM), qX9_pairs_l39 R16 Q n v4 v5 v6 v7 u → At X 8 (wM T ad u) 39 [(0, .ref (ad 0)), (4, .int v4), (5, .int v5), (6, .int v6), (7, .int v7)] [] := by
    intro R16 hR16 n
    induction n with
    | zero => intro v4 v5 v6 v7 u h; exact False.elim h
    | succ n ih => intro v4 v5 v6 v7 u h; exact tb39 R16 hR16 (qX9_pairs_l39 R16 Q n) ih v4 v5 v6 v7 u h
  have tb16 : ∀ (R16 : Int32 → Int32 → SM → Prop) (hR16 : ∀ (v4 : Int32) (v5 : Int32) (u : SM), R16 v4 v5 u → At X 8 (wM T ad u) 16 [(0, .ref (ad 0)), (4, .int v4), (5, .int v5)] []) (v4 : Int32) (v5 : Int32) (u : SM), qX9_pairs_16 R16 Q v4 v5 u → At X 8 (wM T ad u) 16 [(0, .ref (ad 0)), (4, .int v4), (5, .int v5)] [] := by
    intro R16 hR16 v4 v5 u h
    unfold qX9_pairs_16 at h
    refine at_iload C dX9_pairs_16 2 rfl ?_
    refine at_aload_n C dX9_pairs_18 0 rfl ?_
    refine gM_X9_134 C dX9_pairs_19 ?_
    refine at_icmp_ge (tgt := 186) C dX9_pairs_22 (by decide) (fun hc => ?_) (fun hc => ?_)
    · replace h := h.1 hc
      exact ret _ _ _ dX9_pairs_186 h
    · replace h := h.2 hc
      refine at_aload_n C dX9_pairs_25 0 rfl ?_
      refine gM_X9_75 C dX9_pairs_26 ?_
      refine at_iload C dX9_pairs_29 2 rfl ?_
      refine at_iconst (v := 1) C dX9_pairs_31 (by decide) ?_
      obtain ⟨hi, h⟩ := h
      refine sM_19 C hD hi dX9_pairs_32 (fun s5 es5 => ?_)
      replace h := h s5 es5
      refine at_iconst (v := (-1)) C dX9_pairs_33 (by decide) ?_
      refine at_istore (lv' := [(0, .ref (ad 0)), (4, .int v4), (5, .int v5), (6, .int (-1))]) C dX9_pairs_34 (by decide) [1, 2, 3, 0] rfl ?_
      refine at_iconst (v := 0) C dX9_pairs_36 (by decide) ?_
      refine at_istore (lv' := [(0, .ref (ad 0)), (4, .int v4), (5, .int v5), (6, .int (-1)), (7, .int 0)]) C dX9_pairs_37 (by decide) [1, 2, 3, 4, 0] rfl ?_
      obtain ⟨n, h⟩ := h
      exact t39 R16 hR16 n _ _ _ _ _ h
  have t16 : ∀ (n : Nat) (v4 : Int32) (v5 : Int32) (u : SM), qX9_pairs_l16  Q n v4 v5 u → At X 8 (wM T ad u) 16 [(0, .ref (ad 0)), (4, .int v4), (5, .int v5)] [] := by
    intro  n
    induction n with
    | zero => intro v4 v5 u h; exact False.elim h
    | succ n ih => intro v4 v5 u h; exact tb16 (qX9_pairs_l16  Q n) ih v4 v5 u h
  unfold pX9_pairs at h
  refine at_aload_n C dX9_pairs_0 0 rfl ?_
  refine at_iload_n C dX9_pairs_1 1 rfl ?_
  refine at_iload_n C dX9_pairs_2 2 rfl ?_
  refine at_iload_n C dX9_pairs_3 3 rfl ?_
  refine at_callVv C (kX9_collect l D ad T hI _ _ _ _ _ h) ok_X9_collect m_X9_143 mi_X9_collect ml_X9_collect (wM_g0 T ad _) rfl ⟨rfl, rfl, Nat.le_of_ble_eq_true rfl, Nat.le_of_ble_eq_true rfl⟩ rfl rfl (Nat.le_of_ble_eq_true rfl) dX9_pairs_4 (fun s1 h => ?_)
  refine at_aload_n C dX9_pairs_7 0 rfl ?_
  refine at_callVi C (kX9_most l D ad T hI  _ _ h) ok_X9_most m_X9_147 mi_X9_most ml_X9_most (wM_g0 T ad _) rfl ⟨rfl, rfl, Nat.le_of_ble_eq_true rfl, Nat.le_of_ble_eq_true rfl⟩ rfl rfl (Nat.le_of_ble_eq_true rfl) dX9_pairs_8 (fun r4 s3 h => ?_)
  refine at_istore (lv' := [(0, .ref (ad 0)), (1, .int v1), (2, .int v2), (3, .int v3), (4, .int r4)]) C dX9_pairs_11 (by decide) [1, 2, 3, 4, 0] rfl ?_
  refine at_iconst (v := 0) C dX9_pairs_13 (by decide) ?_
  refine at_istore (lv' := [(0, .ref (ad 0)), (1, .int v1), (2, .int v2), (3, .int v3), (4, .int r4), (5, .int 0)]) C dX9_pairs_14 (by decide) [1, 2, 3, 4, 5, 0] rfl ?_
  refine at_sub [0, 4, 5] rfl ?_
  obtain ⟨n, h⟩ := h
  exact t16  n _ _ _ h
theorem m_X9_151 : Cond.methodLink RX9 151 yX9_pairs ∈ gW := gW_in 901 (by decide +kernel) (by decide +kernel)
theorem mc_X9_pairs : Cond.code yX9_pairs cX9_pairs 8 none ∈ gW := gW_in 904 (by decide +kernel) (by decide +kernel)
theorem ok_X9_pairs : okM yX9_pairs cX9_pairs 8 none 3 := ⟨mc_X9_pairs, mz_RX9, by decide +kernel⟩
theorem mi_X9_pairs : Cond.instanceMethod yX9_pairs ∈ gW := gW_in 903 (by decide +kernel) (by decide +kernel)
theorem ml_X9_pairs : Cond.selects RX9 yX9_pairs yX9_pairs ∈ gW := gW_in 61 (by decide +kernel) (by decide +kernel)
def qX9_pairsOf_39 (R31 : Int32 → Int32 → SM → Prop) (R39 : Int32 → Int32 → Int32 → SM → Prop) (Q : SM → Prop) (v1 : Int32) (v2 : Int32) (v3 : Int32) (u : SM) : Prop := (((u.1 0 1) ≤ (v3 + 1) → ∀ x4 : Int32, x4 = v2 + 1 → R31 v1 x4 u) ∧ (¬ (u.1 0 1) ≤ (v3 + 1) → (pX9_pairs v1 v2 v3 u (fun s5 => ∀ x7 : Int32, x7 = v3 + 1 → R39 v1 v2 x7 s5))))
def qX9_pairsOf_l39 (R31 : Int32 → Int32 → SM → Prop) (Q : SM → Prop) : Nat → Int32 → Int32 → Int32 → SM → Prop
  | 0 => fun _ _ _ _ => False
  | n + 1 => qX9_pairsOf_39 R31 (qX9_pairsOf_l39 R31 Q n) Q
def qX9_pairsOf_31 (R31 : Int32 → Int32 → SM → Prop) (Q : SM → Prop) (v1 : Int32) (v2 : Int32) (u : SM) : Prop := ((30 ≤ v2 → (Q u)) ∧ (¬ 30 ≤ v2 → (∃ n, qX9_pairsOf_l39 R31 Q n v1 v2 0 u)))
def qX9_pairsOf_l31  (Q : SM → Prop) : Nat → Int32 → Int32 → SM → Prop
  | 0 => fun _ _ _ => False
  | n + 1 => qX9_pairsOf_31 (qX9_pairsOf_l31  Q n) Q
def qX9_pairsOf_2 (R2 : Int32 → Int32 → SM → Prop) (Q : SM → Prop) (v1 : Int32) (v2 : Int32) (u : SM) : Prop := ((300 ≤ v2 → (∃ n, qX9_pairsOf_l31  Q n v1 0 u)) ∧ (¬ 300 ≤ v2 → (vp_in v2 300 ∧ ∀ s1 : SM, s1 = (st_up u.1 13 (Int32.toNatClampNeg v2) (-1), u.2) → (vp_in v2 300 ∧ ∀ s2 : SM, s2 = (st_up s1.1 14 (Int32.toNatClampNeg v2) (-1), s1.2) → ∀ x3 : Int32, x3 = v2 + 1 → R2 v1 x3 s2))))
def qX9_pairsOf_l2  (Q : SM → Prop) : Nat → Int32 → Int32 → SM → Prop
  | 0 => fun _ _ _ => False
  | n + 1 => qX9_pairsOf_2 (qX9_pairsOf_l2  Q n) Q
def pX9_pairsOf (v1 : Int32) (u : SM) (Q : SM → Prop) : Prop := (∃ n, qX9_pairsOf_l2  Q n v1 0 u)
set_option maxRecDepth 100000 in
set_option maxHeartbeats 4000000 in
theorem kX9_pairsOf (l : Launch) (D : va_G) (ad : Nat → Nat) (T : TT) (hI : injA 27 ad) (v1 : Int32) (u : SM) (Q : SM → Prop) (h : pX9_pairsOf v1 u Q) : Kv (KM l D ad T) (wM T ad) yX9_pairsOf cX9_pairsOf 4 none { frames := 17, cells := 0, slots := 0, locals := 380 } [.ref (ad 0), .int v1] (wM T ad u) Q := by
  refine st_MV (fr := 17) (lo := 380) (by decide) ⟨rfl, rfl⟩ rfl (Nat.le_of_ble_eq_true rfl) rfl (fun X C hD ret => ?_)
  replace hD : ∀ u, DX X (wM T ad u) := fun u => hD _ (wM_D hI T u)
  have tb39 : ∀ (R31 : Int32 → Int32 → SM → Prop) (hR31 : ∀ (v1 : Int32) (v2 : Int32) (u : SM), R31 v1 v2 u → At X 4 (wM T ad u) 31 [(0, .ref (ad 0)), (1, .int v1), (2, .int v2)] []) (R39 : Int32 → Int32 → Int32 → SM → Prop) (hR39 : ∀ (v1 : Int32) (v2 : Int32) (v3 : Int32) (u : SM), R39 v1 v2 v3 u → At X 4 (wM T ad u) 39 [(0, .ref (ad 0)), (1, .int v1), (2, .int v2), (3, .int v3)] []) (v1 : Int32) (v2 : Int32) (v3 : Int32) (u : SM), qX9_pairsOf_39 R31 R39 Q v1 v2 v3 u → At X 4 (wM T ad u) 39 [(0, .ref (ad 0)), (1, .int v1), (2, .int v2), (3, .int v3)] [] := by
    intro R31 hR31 R39 hR39 v1 v2 v3 u h
    unfold qX9_pairsOf_39 at h
    refine at_iload_n C dX9_pairsOf_39 3 rfl ?_
    refine at_iconst (v := 1) C dX9_pairsOf_40 (by decide) ?_
    refine at_iadd C dX9_pairsOf_41 ?_
    refine at_aload_n C dX9_pairsOf_42 0 rfl ?_
    refine gM_X9_100 C dX9_pairsOf_43 ?_
    refine at_icmp_ge (tgt := 62) C dX9_pairsOf_46 (by decide) (fun hc => ?_) (fun hc => ?_)
    · replace h := h.1 hc
      obtain ⟨x4, ex4⟩ : ∃ y : Int32, y = v2 + 1 := ⟨_, rfl⟩
      replace h := h x4 ex4
      refine at_iinc (v := x4) (lv' := [(0, .ref (ad 0)), (1, .int v1), (2, .int x4), (3, .int v3)]) C dX9_pairsOf_62 2 rfl (by rw [ex4]; rfl) (by decide) [1, 2, 0, 3] rfl ?_
      refine at_goto (tgt := 31) C dX9_pairsOf_65 (by decide) ?_
      refine at_sub [0, 1, 2] rfl ?_
      exact hR31 _ _ _ h
    · replace h := h.2 hc
      refine at_aload_n C dX9_pairsOf_49 0 rfl ?_
      refine at_iload_n C dX9_pairsOf_50 1 rfl ?_
      refine at_iload_n C dX9_pairsOf_51 2 rfl ?_
      refine at_iload_n C dX9_pairsOf_52 3 rfl ?_
      refine at_callVv C (kX9_pairs l D ad T hI _ _ _ _ _ h) ok_X9_pairs m_X9_151 mi_X9_pairs ml_X9_pairs (wM_g0 T ad _) rfl ⟨rfl, rfl, Nat.le_of_ble_eq_true rfl, Nat.le_of_ble_eq_true rfl⟩ rfl rfl (Nat.le_of_ble_eq_true rfl) dX9_pairsOf_53 (fun s5 h => ?_)
      obtain ⟨x7, ex7⟩ : ∃ y : Int32, y = v3 + 1 := ⟨_, rfl⟩
      replace h := h x7 ex7
      refine at_iinc (v := x7) (lv' := [(0, .ref (ad 0)), (1, .int v1), (2, .int v2), (3, .int x7)]) C dX9_pairsOf_56 3 rfl (by rw [ex7]; rfl) (by decide) [1, 2, 3, 0] rfl ?_
      refine at_goto (tgt := 39) C dX9_pairsOf_59 (by decide) ?_
      exact hR39 _ _ _ _ h
  have t39 : ∀ (R31 : Int32 → Int32 → SM → Prop) (hR31 : ∀ (v1 : Int32) (v2 : Int32) (u : SM), R31 v1 v2 u → At X 4 (wM T ad u) 31 [(0, .ref (ad 0)), (1, .int v1), (2, .int v2)] []) (n : Nat) (v1 : Int32) (v2 : Int32) (v3 : Int32) (u : SM), qX9_pairsOf_l39 R31 Q n v1 v2 v3 u → At X 4 (wM T ad u) 39 [(0, .ref (ad 0)), (1, .int v1), (2, .int v2), (3, .int v3)] [] := by
    intro R31 hR31 n
    induction n with
    | zero => intro v1 v2 v3 u h; exact False.elim h
    | succ n ih => intro v1 v2 v3 u h; exact tb39 R31 hR31 (qX9_pairsOf_l39 R31 Q n) ih v1 v2 v3 u h
  have tb31 : ∀ (R31 : Int32 → Int32 → SM → Prop) (hR31 : ∀ (v1 : Int32) (v2 : Int32) (u : SM), R31 v1 v2 u → At X 4 (wM T ad u) 31 [(0, .ref (ad 0)), (1, .int v1), (2, .int v2)] []) (v1 : Int32) (v2 : Int32) (u : SM), qX9_pairsOf_31 R31 Q v1 v2 u → At X 4 (wM T ad u) 31 [(0, .ref (ad 0)), (1, .int v1), (2, .int v2)] [] := by
    intro R31 hR31 v1 v2 u h
    unfold qX9_pairsOf_31 at h
    refine at_iload_n C dX9_pairsOf_31 2 rfl ?_
    refine at_bipush (v := 30) C dX9_pairsOf_32 (by decide) ?_
    refine at_icmp_ge (tgt := 68) C dX9_pairsOf_34 (by decide) (fun hc => ?_) (fun hc => ?_)
    · replace h := h.1 hc
      exact ret _ _ _ dX9_pairsOf_68 h
    · replace h := h.2 hc
      refine at_iconst (v := 0) C dX9_pairsOf_37 (by decide) ?_
      refine at_istore_n (lv' := [(0, .ref (ad 0)), (1, .int v1), (2, .int v2), (3, .int 0)]) C dX9_pairsOf_38 (by decide) [1, 2, 3, 0] rfl ?_
      obtain ⟨n, h⟩ := h
      exact t39 R31 hR31 n _ _ _ _ h
  have t31 : ∀ (n : Nat) (v1 : Int32) (v2 : Int32) (u : SM), qX9_pairsOf_l31  Q n v1 v2 u → At X 4 (wM T ad u) 31 [(0, .ref (ad 0)), (1, .int v1), (2, .int v2)] [] := by
    intro  n
    induction n with
    | zero => intro v1 v2 u h; exact False.elim h
    | succ n ih => intro v1 v2 u h; exact tb31 (qX9_pairsOf_l31  Q n) ih v1 v2 u h
  have tb2 : ∀ (R2 : Int32 → Int32 → SM → Prop) (hR2 : ∀ (v1 : Int32) (v2 : Int32) (u : SM), R2 v1 v2 u → At X 4 (wM T ad u) 2 [(0, .ref (ad 0)), (1, .int v1), (2, .int v2)] []) (v1 : Int32) (v2 : Int32) (u : SM), qX9_pairsOf_2 R2 Q v1 v2 u → At X 4 (wM T ad u) 2 [(0, .ref (ad 0)), (1, .int v1), (2, .int v2)] [] := by
    intro R2 hR2 v1 v2 u h
    unfold qX9_pairsOf_2 at h
    refine at_iload_n C dX9_pairsOf_2 2 rfl ?_
    refine at_sipush (v := 300) C dX9_pairsOf_3 (by decide) ?_
    refine at_icmp_ge (tgt := 29) C dX9_pairsOf_6 (by decide) (fun hc => ?_) (fun hc => ?_)
    · replace h := h.1 hc
      refine at_iconst (v := 0) C dX9_pairsOf_29 (by decide) ?_
      refine at_istore_n (lv' := [(0, .ref (ad 0)), (1, .int v1), (2, .int 0)]) C dX9_pairsOf_30 (by decide) [1, 2, 0] rfl ?_
      obtain ⟨n, h⟩ := h
      exact t31  n _ _ _ h
    · replace h := h.2 hc
      refine at_aload_n C dX9_pairsOf_9 0 rfl ?_
      refine gM_X9_57 C dX9_pairsOf_10 ?_
      refine at_iload_n C dX9_pairsOf_13 2 rfl ?_
      refine at_iconst (v := (-1)) C dX9_pairsOf_14 (by decide) ?_
      obtain ⟨hi, h⟩ := h
      refine sM_13 C hD hi dX9_pairsOf_15 (fun s1 es1 => ?_)
      replace h := h s1 es1
      refine at_aload_n C dX9_pairsOf_16 0 rfl ?_
      refine gM_X9_60 C dX9_pairsOf_17 ?_
      refine at_iload_n C dX9_pairsOf_20 2 rfl ?_
      refine at_iconst (v := (-1)) C dX9_pairsOf_21 (by decide) ?_
      obtain ⟨hi, h⟩ := h
      refine sM_14 C hD hi dX9_pairsOf_22 (fun s2 es2 => ?_)
      replace h := h s2 es2
      obtain ⟨x3, ex3⟩ : ∃ y : Int32, y = v2 + 1 := ⟨_, rfl⟩
      replace h := h x3 ex3
      refine at_iinc (v := x3) (lv' := [(0, .ref (ad 0)), (1, .int v1), (2, .int x3)]) C dX9_pairsOf_23 2 rfl (by rw [ex3]; rfl) (by decide) [1, 2, 0] rfl ?_
      refine at_goto (tgt := 2) C dX9_pairsOf_26 (by decide) ?_
      exact hR2 _ _ _ h
  have t2 : ∀ (n : Nat) (v1 : Int32) (v2 : Int32) (u : SM), qX9_pairsOf_l2  Q n v1 v2 u → At X 4 (wM T ad u) 2 [(0, .ref (ad 0)), (1, .int v1), (2, .int v2)] [] := by
    intro  n
    induction n with
    | zero => intro v1 v2 u h; exact False.elim h
    | succ n ih => intro v1 v2 u h; exact tb2 (qX9_pairsOf_l2  Q n) ih v1 v2 u h
  unfold pX9_pairsOf at h
  refine at_iconst (v := 0) C dX9_pairsOf_0 (by decide) ?_
  refine at_istore_n (lv' := [(0, .ref (ad 0)), (1, .int v1), (2, .int 0)]) C dX9_pairsOf_1 (by decide) [1, 2, 0] rfl ?_
  obtain ⟨n, h⟩ := h
  exact t2  n _ _ _ h
theorem m_X9_154 : Cond.methodLink RX9 154 yX9_pairsOf ∈ gW := gW_in 897 (by decide +kernel) (by decide +kernel)
theorem mc_X9_pairsOf : Cond.code yX9_pairsOf cX9_pairsOf 4 none ∈ gW := gW_in 900 (by decide +kernel) (by decide +kernel)
theorem ok_X9_pairsOf : okM yX9_pairsOf cX9_pairsOf 4 none 1 := ⟨mc_X9_pairsOf, mz_RX9, by decide +kernel⟩
theorem mi_X9_pairsOf : Cond.instanceMethod yX9_pairsOf ∈ gW := gW_in 899 (by decide +kernel) (by decide +kernel)
theorem ml_X9_pairsOf : Cond.selects RX9 yX9_pairsOf yX9_pairsOf ∈ gW := gW_in 60 (by decide +kernel) (by decide +kernel)
def pX9_partner (v1 : Int32) (u : SM) (Q : Int32 → SM → Prop) : Prop := ∀ s1 : SM, s1 = (st_up u.1 0 0 0, u.2) → (pX9_isKnown v1 s1 (fun r3 s2 => ((¬ r3 = 0 → (vp_in v1 300 ∧ (pX9_pairsOf (s2.1 5 (Int32.toNatClampNeg v1)) s2 (fun s4 => (vp_in v1 300 ∧ (Q (s4.1 13 (Int32.toNatClampNeg v1)) s4)))))) ∧ (r3 = 0 → (Q (-2) s2)))))
set_option maxRecDepth 100000 in
set_option maxHeartbeats 4000000 in
theorem kX9_partner (l : Launch) (D : va_G) (ad : Nat → Nat) (T : TT) (hI : injA 27 ad) (v1 : Int32) (u : SM) (Q : Int32 → SM → Prop) (h : pX9_partner v1 u Q) : Ki (KM l D ad T) (wM T ad) yX9_partner cX9_partner 2 (some .int) { frames := 18, cells := 0, slots := 0, locals := 403 } [.ref (ad 0), .int v1] (wM T ad u) Q := by
  refine st_MI (fr := 18) (lo := 403) (by decide) ⟨rfl, rfl⟩ rfl (Nat.le_of_ble_eq_true rfl) rfl (fun X C hD ret => ?_)
  replace hD : ∀ u, DX X (wM T ad u) := fun u => hD _ (wM_D hI T u)
  unfold pX9_partner at h
  refine at_aload_n C dX9_partner_0 0 rfl ?_
  refine at_iconst (v := 0) C dX9_partner_1 (by decide) ?_
  refine pM_X9_1 C hD dX9_partner_2 (fun s1 es1 => ?_)
  replace h := h s1 es1
  refine at_aload_n C dX9_partner_5 0 rfl ?_
  refine at_iload_n C dX9_partner_6 1 rfl ?_
  refine at_callVi C (kX9_isKnown l D ad T hI _ _ _ h) ok_X9_isKnown m_X9_137 mi_X9_isKnown ml_X9_isKnown (wM_g0 T ad _) rfl ⟨rfl, rfl, Nat.le_of_ble_eq_true rfl, Nat.le_of_ble_eq_true rfl⟩ rfl rfl (Nat.le_of_ble_eq_true rfl) dX9_partner_7 (fun r3 s2 h => ?_)
  refine at_if_ne (tgt := 16) C dX9_partner_10 (by decide) (fun hc => ?_) (fun hc => ?_)
  · replace h := h.1 hc
    refine at_aload_n C dX9_partner_16 0 rfl ?_
    refine at_aload_n C dX9_partner_17 0 rfl ?_
    refine gM_X9_32 C dX9_partner_18 ?_
    refine at_iload_n C dX9_partner_21 1 rfl ?_
    obtain ⟨hi, h⟩ := h
    refine rM_5 C hi dX9_partner_22 ?_
    refine at_callVv C (kX9_pairsOf l D ad T hI _ _ _ h) ok_X9_pairsOf m_X9_154 mi_X9_pairsOf ml_X9_pairsOf (wM_g0 T ad _) rfl ⟨rfl, rfl, Nat.le_of_ble_eq_true rfl, Nat.le_of_ble_eq_true rfl⟩ rfl rfl (Nat.le_of_ble_eq_true rfl) dX9_partner_23 (fun s4 h => ?_)
    refine at_aload_n C dX9_partner_26 0 rfl ?_
    refine gM_X9_57 C dX9_partner_27 ?_
    refine at_iload_n C dX9_partner_30 1 rfl ?_
    obtain ⟨hi, h⟩ := h
    refine rM_13 C hi dX9_partner_31 ?_
    exact ret _ _ _ _ dX9_partner_32 h
  · replace h := h.2 hc
    refine at_bipush (v := (-2)) C dX9_partner_13 (by decide) ?_
    exact ret _ _ _ _ dX9_partner_15 h
def qX9_firstOf_2 (R2 : Int32 → SM → Prop) (Q : Int32 → SM → Prop) (v2 : Int32) (u : SM) : Prop := (vp_in v2 300 ∧ (((u.1 14 (Int32.toNatClampNeg v2)) < 0 → (Q v2 u)) ∧ (¬ (u.1 14 (Int32.toNatClampNeg v2)) < 0 → (vp_in v2 300 ∧ ∀ x1 : Int32, x1 = (u.1 14 (Int32.toNatClampNeg v2)) → R2 x1 u))))
def qX9_firstOf_l2  (Q : Int32 → SM → Prop) : Nat → Int32 → SM → Prop
  | 0 => fun _ _ => False
  | n + 1 => qX9_firstOf_2 (qX9_firstOf_l2  Q n) Q
def pX9_firstOf (v1 : Int32) (u : SM) (Q : Int32 → SM → Prop) : Prop := (∃ n, qX9_firstOf_l2  Q n v1 u)
set_option maxRecDepth 100000 in
set_option maxHeartbeats 4000000 in
theorem kX9_firstOf (l : Launch) (D : va_G) (ad : Nat → Nat) (T : TT) (hI : injA 27 ad) (v1 : Int32) (u : SM) (Q : Int32 → SM → Prop) (h : pX9_firstOf v1 u Q) : Ki (KM l D ad T) (wM T ad) yX9_firstOf cX9_firstOf 3 (some .int) { frames := 0, cells := 0, slots := 0, locals := 0 } [.ref (ad 0), .int v1] (wM T ad u) Q := by
  refine st_MI (fr := 0) (lo := 0) (by decide) ⟨rfl, rfl⟩ rfl (Nat.le_of_ble_eq_true rfl) rfl (fun X C hD ret => ?_)
  replace hD : ∀ u, DX X (wM T ad u) := fun u => hD _ (wM_D hI T u)
  have tb2 : ∀ (R2 : Int32 → SM → Prop) (hR2 : ∀ (v2 : Int32) (u : SM), R2 v2 u → At X 3 (wM T ad u) 2 [(0, .ref (ad 0)), (2, .int v2)] []) (v2 : Int32) (u : SM), qX9_firstOf_2 R2 Q v2 u → At X 3 (wM T ad u) 2 [(0, .ref (ad 0)), (2, .int v2)] [] := by
    intro R2 hR2 v2 u h
    unfold qX9_firstOf_2 at h
    refine at_aload_n C dX9_firstOf_2 0 rfl ?_
    refine gM_X9_60 C dX9_firstOf_3 ?_
    refine at_iload_n C dX9_firstOf_6 1 rfl ?_
    obtain ⟨hi, h⟩ := h
    refine rM_14 C hi dX9_firstOf_7 ?_
    refine at_if_lt (tgt := 21) C dX9_firstOf_8 (by decide) (fun hc => ?_) (fun hc => ?_)
    · replace h := h.1 hc
      refine at_iload_n C dX9_firstOf_21 1 rfl ?_
      exact ret _ _ _ _ dX9_firstOf_22 h
    · replace h := h.2 hc
      refine at_aload_n C dX9_firstOf_11 0 rfl ?_
      refine gM_X9_60 C dX9_firstOf_12 ?_
      refine at_iload_n C dX9_firstOf_15 1 rfl ?_
      obtain ⟨hi, h⟩ := h
      refine rM_14 C hi dX9_firstOf_16 ?_
      refine at_topi (fun x1 ex1 => ?_)
      replace h := h x1 ex1
      refine at_istore_n (lv' := [(0, .ref (ad 0)), (2, .int x1)]) C dX9_firstOf_17 (by decide) [1, 0] rfl ?_
      refine at_goto (tgt := 2) C dX9_firstOf_18 (by decide) ?_
      exact hR2 _ _ h
  have t2 : ∀ (n : Nat) (v2 : Int32) (u : SM), qX9_firstOf_l2  Q n v2 u → At X 3 (wM T ad u) 2 [(0, .ref (ad 0)), (2, .int v2)] [] := by
    intro  n
    induction n with
    | zero => intro v2 u h; exact False.elim h
    | succ n ih => intro v2 u h; exact tb2 (qX9_firstOf_l2  Q n) ih v2 u h
  unfold pX9_firstOf at h
  refine at_iload_n C dX9_firstOf_0 1 rfl ?_
  refine at_istore_n (lv' := [(0, .ref (ad 0)), (1, .int v1), (2, .int v1)]) C dX9_firstOf_1 (by decide) [1, 2, 0] rfl ?_
  refine at_sub [0, 2] rfl ?_
  obtain ⟨n, h⟩ := h
  exact t2  n _ _ h
theorem m_X9_158 : Cond.methodLink RX9 158 yX9_firstOf ∈ gW := gW_in 933 (by decide +kernel) (by decide +kernel)
theorem mc_X9_firstOf : Cond.code yX9_firstOf cX9_firstOf 3 (some .int) ∈ gW := gW_in 936 (by decide +kernel) (by decide +kernel)
theorem ok_X9_firstOf : okM yX9_firstOf cX9_firstOf 3 (some .int) 1 := ⟨mc_X9_firstOf, mz_RX9, by decide +kernel⟩
theorem mi_X9_firstOf : Cond.instanceMethod yX9_firstOf ∈ gW := gW_in 935 (by decide +kernel) (by decide +kernel)
theorem ml_X9_firstOf : Cond.selects RX9 yX9_firstOf yX9_firstOf ∈ gW := gW_in 68 (by decide +kernel) (by decide +kernel)
def pX9_bird (v1 : Int32) (u : SM) (Q : Int32 → SM → Prop) : Prop := ∀ s1 : SM, s1 = (st_up u.1 0 0 0, u.2) → (pX9_isKnown v1 s1 (fun r3 s2 => ((¬ r3 = 0 → (vp_in v1 300 ∧ (pX9_pairsOf (s2.1 5 (Int32.toNatClampNeg v1)) s2 (fun s4 => (pX9_firstOf v1 s4 (fun r7 s6 => (Q r7 s6))))))) ∧ (r3 = 0 → (Q (-2) s2)))))
set_option maxRecDepth 100000 in
set_option maxHeartbeats 4000000 in
theorem kX9_bird (l : Launch) (D : va_G) (ad : Nat → Nat) (T : TT) (hI : injA 27 ad) (v1 : Int32) (u : SM) (Q : Int32 → SM → Prop) (h : pX9_bird v1 u Q) : Ki (KM l D ad T) (wM T ad) yX9_bird cX9_bird 2 (some .int) { frames := 18, cells := 0, slots := 0, locals := 403 } [.ref (ad 0), .int v1] (wM T ad u) Q := by
  refine st_MI (fr := 18) (lo := 403) (by decide) ⟨rfl, rfl⟩ rfl (Nat.le_of_ble_eq_true rfl) rfl (fun X C hD ret => ?_)
  replace hD : ∀ u, DX X (wM T ad u) := fun u => hD _ (wM_D hI T u)
  unfold pX9_bird at h
  refine at_aload_n C dX9_bird_0 0 rfl ?_
  refine at_iconst (v := 0) C dX9_bird_1 (by decide) ?_
  refine pM_X9_1 C hD dX9_bird_2 (fun s1 es1 => ?_)
  replace h := h s1 es1
  refine at_aload_n C dX9_bird_5 0 rfl ?_
  refine at_iload_n C dX9_bird_6 1 rfl ?_
  refine at_callVi C (kX9_isKnown l D ad T hI _ _ _ h) ok_X9_isKnown m_X9_137 mi_X9_isKnown ml_X9_isKnown (wM_g0 T ad _) rfl ⟨rfl, rfl, Nat.le_of_ble_eq_true rfl, Nat.le_of_ble_eq_true rfl⟩ rfl rfl (Nat.le_of_ble_eq_true rfl) dX9_bird_7 (fun r3 s2 h => ?_)
  refine at_if_ne (tgt := 16) C dX9_bird_10 (by decide) (fun hc => ?_) (fun hc => ?_)
  · replace h := h.1 hc
    refine at_aload_n C dX9_bird_16 0 rfl ?_
    refine at_aload_n C dX9_bird_17 0 rfl ?_
    refine gM_X9_32 C dX9_bird_18 ?_
    refine at_iload_n C dX9_bird_21 1 rfl ?_
    obtain ⟨hi, h⟩ := h
    refine rM_5 C hi dX9_bird_22 ?_
    refine at_callVv C (kX9_pairsOf l D ad T hI _ _ _ h) ok_X9_pairsOf m_X9_154 mi_X9_pairsOf ml_X9_pairsOf (wM_g0 T ad _) rfl ⟨rfl, rfl, Nat.le_of_ble_eq_true rfl, Nat.le_of_ble_eq_true rfl⟩ rfl rfl (Nat.le_of_ble_eq_true rfl) dX9_bird_23 (fun s4 h => ?_)
    refine at_aload_n C dX9_bird_26 0 rfl ?_
    refine at_iload_n C dX9_bird_27 1 rfl ?_
    refine at_callVi C (kX9_firstOf l D ad T hI _ _ _ h) ok_X9_firstOf m_X9_158 mi_X9_firstOf ml_X9_firstOf (wM_g0 T ad _) rfl ⟨rfl, rfl, Nat.le_of_ble_eq_true rfl, Nat.le_of_ble_eq_true rfl⟩ rfl rfl (Nat.le_of_ble_eq_true rfl) dX9_bird_28 (fun r7 s6 h => ?_)
    exact ret _ _ _ _ dX9_bird_31 h
  · replace h := h.2 hc
    refine at_bipush (v := (-2)) C dX9_bird_13 (by decide) ?_
    exact ret _ _ _ _ dX9_bird_15 h
