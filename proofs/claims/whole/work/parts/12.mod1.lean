theorem m_X9_1 : Cond.fieldLink RX9 1 RX9 "thrown" "I" ∈ gW := gW_in 747 (by decide +kernel) (by decide +kernel)
theorem gM_X9_1 {X : XT} {l : Launch} {D : va_G} {ad : Nat → Nat} {T : TT} {cc : ByteArray} {nL fr lo : Nat} {u : SM} {pc : Nat} {lv : List (Nat × Value)} {st : List Value} (C : Cx X (KM l D ad T) cc RX9 nL fr lo) (d : decode cc pc = .ok (.getfield 1, 3)) (kk : At X nL (wM T ad u) (pc + 3) lv (.int (u.1 0 0) :: st)) : At X nL (wM T ad u) pc lv (.ref (ad 0) :: st) := at_get C ingX9 (ci := 9) rfl 0 (wM_g0 T ad u) 0 (by decide) m_X9_1 rfl rfl d kk
def pX9_thrown  (u : SM) (Q : Int32 → SM → Prop) : Prop := (Q (u.1 0 0) u)
set_option maxRecDepth 100000 in
set_option maxHeartbeats 4000000 in
theorem kX9_thrown (l : Launch) (D : va_G) (ad : Nat → Nat) (T : TT) (hI : injA 27 ad)  (u : SM) (Q : Int32 → SM → Prop) (h : pX9_thrown  u Q) : Ki (KM l D ad T) (wM T ad) yX9_thrown cX9_thrown 1 (some .int) { frames := 0, cells := 0, slots := 0, locals := 0 } [.ref (ad 0)] (wM T ad u) Q := by
  refine st_MI (fr := 0) (lo := 0) (by decide) ⟨rfl, rfl⟩ rfl (Nat.le_of_ble_eq_true rfl) rfl (fun X C hD ret => ?_)
  replace hD : ∀ u, DX X (wM T ad u) := fun u => hD _ (wM_D hI T u)
  unfold pX9_thrown at h
  refine at_aload_n C dX9_thrown_0 0 rfl ?_
  refine gM_X9_1 C dX9_thrown_1 ?_
  exact ret _ _ _ _ dX9_thrown_4 h
theorem pM_X9_1 {X : XT} {l : Launch} {D : va_G} {ad : Nat → Nat} {T : TT} {cc : ByteArray} {nL fr lo : Nat} {u : SM} {pc : Nat} {lv : List (Nat × Value)} {st : List Value} {x : Int32} (C : Cx X (KM l D ad T) cc RX9 nL fr lo) (hD : ∀ u, DX X (wM T ad u)) (d : decode cc pc = .ok (.putfield 1, 3)) (kk : ∀ u2 : SM, u2 = (st_up u.1 0 0 x, u.2) → At X nL (wM T ad u2) (pc + 3) lv st) : At X nL (wM T ad u) pc lv (.int x :: .ref (ad 0) :: st) := at_puti C ingX9 tyX9 tyX9_ok nmX9 (ci := 9) rfl (hD u) 0 (wM_g0 T ad u) 0 (by decide) m_X9_1 rfl rfl (by decide +kernel) (Nat.le_of_ble_eq_true rfl) rfl d (kk _ rfl)
theorem m_X9_100 : Cond.fieldLink RX9 100 RX9 "posts" "I" ∈ gW := gW_in 748 (by decide +kernel) (by decide +kernel)
theorem gM_X9_100 {X : XT} {l : Launch} {D : va_G} {ad : Nat → Nat} {T : TT} {cc : ByteArray} {nL fr lo : Nat} {u : SM} {pc : Nat} {lv : List (Nat × Value)} {st : List Value} (C : Cx X (KM l D ad T) cc RX9 nL fr lo) (d : decode cc pc = .ok (.getfield 100, 3)) (kk : At X nL (wM T ad u) (pc + 3) lv (.int (u.1 0 1) :: st)) : At X nL (wM T ad u) pc lv (.ref (ad 0) :: st) := at_get C ingX9 (ci := 9) rfl 0 (wM_g0 T ad u) 1 (by decide) m_X9_100 rfl rfl d kk
theorem m_X9_103 : Cond.fieldLink RX9 103 RX9 "tellings" "I" ∈ gW := gW_in 756 (by decide +kernel) (by decide +kernel)
theorem gM_X9_103 {X : XT} {l : Launch} {D : va_G} {ad : Nat → Nat} {T : TT} {cc : ByteArray} {nL fr lo : Nat} {u : SM} {pc : Nat} {lv : List (Nat × Value)} {st : List Value} (C : Cx X (KM l D ad T) cc RX9 nL fr lo) (d : decode cc pc = .ok (.getfield 103, 3)) (kk : At X nL (wM T ad u) (pc + 3) lv (.int (u.1 0 9) :: st)) : At X nL (wM T ad u) pc lv (.ref (ad 0) :: st) := at_get C ingX9 (ci := 9) rfl 0 (wM_g0 T ad u) 9 (by decide) m_X9_103 rfl rfl d kk
theorem m_X9_13 : Cond.fieldLink RX9 13 RX9 "place" "[I" ∈ gW := gW_in 749 (by decide +kernel) (by decide +kernel)
theorem gM_X9_13 {X : XT} {l : Launch} {D : va_G} {ad : Nat → Nat} {T : TT} {cc : ByteArray} {nL fr lo : Nat} {u : SM} {pc : Nat} {lv : List (Nat × Value)} {st : List Value} (C : Cx X (KM l D ad T) cc RX9 nL fr lo) (d : decode cc pc = .ok (.getfield 13, 3)) (kk : At X nL (wM T ad u) (pc + 3) lv (.ref (ad 1) :: st)) : At X nL (wM T ad u) pc lv (.ref (ad 0) :: st) := at_get C ingX9 (ci := 9) rfl 0 (wM_g0 T ad u) 2 (by decide) m_X9_13 rfl rfl d kk
theorem pM_X9_100 {X : XT} {l : Launch} {D : va_G} {ad : Nat → Nat} {T : TT} {cc : ByteArray} {nL fr lo : Nat} {u : SM} {pc : Nat} {lv : List (Nat × Value)} {st : List Value} {x : Int32} (C : Cx X (KM l D ad T) cc RX9 nL fr lo) (hD : ∀ u, DX X (wM T ad u)) (d : decode cc pc = .ok (.putfield 100, 3)) (kk : ∀ u2 : SM, u2 = (st_up u.1 0 1 x, u.2) → At X nL (wM T ad u2) (pc + 3) lv st) : At X nL (wM T ad u) pc lv (.int x :: .ref (ad 0) :: st) := at_puti C ingX9 tyX9 tyX9_ok nmX9 (ci := 9) rfl (hD u) 0 (wM_g0 T ad u) 1 (by decide) m_X9_100 rfl rfl (by decide +kernel) (Nat.le_of_ble_eq_true rfl) rfl d (kk _ rfl)
def qX9_post_55  (Q : Int32 → SM → Prop) (v1 : Int32) (u : SM) : Prop := (vp_in (u.1 0 1) 4 ∧ ∀ s2 : SM, s2 = (st_up u.1 1 (Int32.toNatClampNeg (u.1 0 1)) v1, u.2) → ∀ s3 : SM, s3 = (st_up s2.1 0 1 ((s2.1 0 1) + 1), s2.2) → (Q ((s3.1 0 1) - 1) s3))
def pX9_post (v1 : Int32) (u : SM) (Q : Int32 → SM → Prop) : Prop := ∀ s1 : SM, s1 = (st_up u.1 0 0 0, u.2) → ((v1 < 0 → (Q (-1) s1)) ∧ (¬ v1 < 0 → ((400 < v1 → (Q (-1) s1)) ∧ (¬ 400 < v1 → (((s1.1 0 1) = 4 → (Q (-1) s1)) ∧ (¬ (s1.1 0 1) = 4 → ((0 < (s1.1 0 9) → (Q (-1) s1)) ∧ (¬ 0 < (s1.1 0 9) → (((s1.1 0 1) ≤ 0 → (qX9_post_55  Q v1 s1)) ∧ (¬ (s1.1 0 1) ≤ 0 → (vp_in ((s1.1 0 1) - 1) 4 ∧ (((s1.1 1 (Int32.toNatClampNeg ((s1.1 0 1) - 1))) < v1 → (qX9_post_55  Q v1 s1)) ∧ (¬ (s1.1 1 (Int32.toNatClampNeg ((s1.1 0 1) - 1))) < v1 → (Q (-1) s1))))))))))))))
set_option maxRecDepth 100000 in
set_option maxHeartbeats 4000000 in
theorem kX9_post (l : Launch) (D : va_G) (ad : Nat → Nat) (T : TT) (hI : injA 27 ad) (v1 : Int32) (u : SM) (Q : Int32 → SM → Prop) (h : pX9_post v1 u Q) : Ki (KM l D ad T) (wM T ad) yX9_post cX9_post 2 (some .int) { frames := 0, cells := 0, slots := 0, locals := 0 } [.ref (ad 0), .int v1] (wM T ad u) Q := by
  refine st_MI (fr := 0) (lo := 0) (by decide) ⟨rfl, rfl⟩ rfl (Nat.le_of_ble_eq_true rfl) rfl (fun X C hD ret => ?_)
  replace hD : ∀ u, DX X (wM T ad u) := fun u => hD _ (wM_D hI T u)
  have t55 : ∀ (v1 : Int32) (u : SM), qX9_post_55  Q v1 u → At X 2 (wM T ad u) 55 [(0, .ref (ad 0)), (1, .int v1)] [] := by
    intro v1 u h
    unfold qX9_post_55 at h
    refine at_aload_n C dX9_post_55 0 rfl ?_
    refine gM_X9_13 C dX9_post_56 ?_
    refine at_aload_n C dX9_post_59 0 rfl ?_
    refine gM_X9_100 C dX9_post_60 ?_
    refine at_iload_n C dX9_post_63 1 rfl ?_
    obtain ⟨hi, h⟩ := h
    refine sM_1 C hD hi dX9_post_64 (fun s2 es2 => ?_)
    replace h := h s2 es2
    refine at_aload_n C dX9_post_65 0 rfl ?_
    refine at_dup C dX9_post_66 rfl ?_
    refine gM_X9_100 C dX9_post_67 ?_
    refine at_iconst (v := 1) C dX9_post_70 (by decide) ?_
    refine at_iadd C dX9_post_71 ?_
    refine pM_X9_100 C hD dX9_post_72 (fun s3 es3 => ?_)
    replace h := h s3 es3
    refine at_aload_n C dX9_post_75 0 rfl ?_
    refine gM_X9_100 C dX9_post_76 ?_
    refine at_iconst (v := 1) C dX9_post_79 (by decide) ?_
    refine at_isub C dX9_post_80 ?_
    exact ret _ _ _ _ dX9_post_81 h
  unfold pX9_post at h
  refine at_aload_n C dX9_post_0 0 rfl ?_
  refine at_iconst (v := 0) C dX9_post_1 (by decide) ?_
  refine pM_X9_1 C hD dX9_post_2 (fun s1 es1 => ?_)
  replace h := h s1 es1
  refine at_iload_n C dX9_post_5 1 rfl ?_
  refine at_if_lt (tgt := 53) C dX9_post_6 (by decide) (fun hc => ?_) (fun hc => ?_)
  · replace h := h.1 hc
    refine at_iconst (v := (-1)) C dX9_post_53 (by decide) ?_
    exact ret _ _ _ _ dX9_post_54 h
  · replace h := h.2 hc
    refine at_iload_n C dX9_post_9 1 rfl ?_
    refine at_sipush (v := 400) C dX9_post_10 (by decide) ?_
    refine at_icmp_gt (tgt := 53) C dX9_post_13 (by decide) (fun hc => ?_) (fun hc => ?_)
    · replace h := h.1 hc
      refine at_iconst (v := (-1)) C dX9_post_53 (by decide) ?_
      exact ret _ _ _ _ dX9_post_54 h
    · replace h := h.2 hc
      refine at_aload_n C dX9_post_16 0 rfl ?_
      refine gM_X9_100 C dX9_post_17 ?_
      refine at_iconst (v := 4) C dX9_post_20 (by decide) ?_
      refine at_icmp_eq (tgt := 53) C dX9_post_21 (by decide) (fun hc => ?_) (fun hc => ?_)
      · replace h := h.1 hc
        refine at_iconst (v := (-1)) C dX9_post_53 (by decide) ?_
        exact ret _ _ _ _ dX9_post_54 h
      · replace h := h.2 hc
        refine at_aload_n C dX9_post_24 0 rfl ?_
        refine gM_X9_103 C dX9_post_25 ?_
        refine at_if_gt (tgt := 53) C dX9_post_28 (by decide) (fun hc => ?_) (fun hc => ?_)
        · replace h := h.1 hc
          refine at_iconst (v := (-1)) C dX9_post_53 (by decide) ?_
          exact ret _ _ _ _ dX9_post_54 h
        · replace h := h.2 hc
          refine at_aload_n C dX9_post_31 0 rfl ?_
          refine gM_X9_100 C dX9_post_32 ?_
          refine at_if_le (tgt := 55) C dX9_post_35 (by decide) (fun hc => ?_) (fun hc => ?_)
          · replace h := h.1 hc
            exact t55  _ _ h
          · replace h := h.2 hc
            refine at_iload_n C dX9_post_38 1 rfl ?_
            refine at_aload_n C dX9_post_39 0 rfl ?_
            refine gM_X9_13 C dX9_post_40 ?_
            refine at_aload_n C dX9_post_43 0 rfl ?_
            refine gM_X9_100 C dX9_post_44 ?_
            refine at_iconst (v := 1) C dX9_post_47 (by decide) ?_
            refine at_isub C dX9_post_48 ?_
            obtain ⟨hi, h⟩ := h
            refine rM_1 C hi dX9_post_49 ?_
            refine at_icmp_gt (tgt := 55) C dX9_post_50 (by decide) (fun hc => ?_) (fun hc => ?_)
            · replace h := h.1 hc
              exact t55  _ _ h
            · replace h := h.2 hc
              refine at_iconst (v := (-1)) C dX9_post_53 (by decide) ?_
              exact ret _ _ _ _ dX9_post_54 h
theorem m_X9_17 : Cond.fieldLink RX9 17 RX9 "kinds" "I" ∈ gW := gW_in 750 (by decide +kernel) (by decide +kernel)
theorem gM_X9_17 {X : XT} {l : Launch} {D : va_G} {ad : Nat → Nat} {T : TT} {cc : ByteArray} {nL fr lo : Nat} {u : SM} {pc : Nat} {lv : List (Nat × Value)} {st : List Value} (C : Cx X (KM l D ad T) cc RX9 nL fr lo) (d : decode cc pc = .ok (.getfield 17, 3)) (kk : At X nL (wM T ad u) (pc + 3) lv (.int (u.1 0 3) :: st)) : At X nL (wM T ad u) pc lv (.ref (ad 0) :: st) := at_get C ingX9 (ci := 9) rfl 0 (wM_g0 T ad u) 3 (by decide) m_X9_17 rfl rfl d kk
def pX9_isKind (v1 : Int32) (u : SM) (Q : Int32 → SM → Prop) : Prop := ((v1 < 0 → (Q 0 u)) ∧ (¬ v1 < 0 → (((u.1 0 3) ≤ v1 → (Q 0 u)) ∧ (¬ (u.1 0 3) ≤ v1 → (Q 1 u)))))
set_option maxRecDepth 100000 in
set_option maxHeartbeats 4000000 in
theorem kX9_isKind (l : Launch) (D : va_G) (ad : Nat → Nat) (T : TT) (hI : injA 27 ad) (v1 : Int32) (u : SM) (Q : Int32 → SM → Prop) (h : pX9_isKind v1 u Q) : Ki (KM l D ad T) (wM T ad) yX9_isKind cX9_isKind 2 (some .boolean) { frames := 0, cells := 0, slots := 0, locals := 0 } [.ref (ad 0), .int v1] (wM T ad u) Q := by
  refine st_MZ (fr := 0) (lo := 0) (by decide) ⟨rfl, rfl⟩ rfl (Nat.le_of_ble_eq_true rfl) rfl (fun X C hD ret => ?_)
  replace hD : ∀ u, DX X (wM T ad u) := fun u => hD _ (wM_D hI T u)
  unfold pX9_isKind at h
  refine at_iload_n C dX9_isKind_0 1 rfl ?_
  refine at_if_lt (tgt := 16) C dX9_isKind_1 (by decide) (fun hc => ?_) (fun hc => ?_)
  · replace h := h.1 hc
    refine at_iconst (v := 0) C dX9_isKind_16 (by decide) ?_
    exact ret _ _ _ _ dX9_isKind_17 rfl h
  · replace h := h.2 hc
    refine at_iload_n C dX9_isKind_4 1 rfl ?_
    refine at_aload_n C dX9_isKind_5 0 rfl ?_
    refine gM_X9_17 C dX9_isKind_6 ?_
    refine at_icmp_ge (tgt := 16) C dX9_isKind_9 (by decide) (fun hc => ?_) (fun hc => ?_)
    · replace h := h.1 hc
      refine at_iconst (v := 0) C dX9_isKind_16 (by decide) ?_
      exact ret _ _ _ _ dX9_isKind_17 rfl h
    · replace h := h.2 hc
      refine at_iconst (v := 1) C dX9_isKind_12 (by decide) ?_
      refine at_goto (tgt := 17) C dX9_isKind_13 (by decide) ?_
      exact ret _ _ _ _ dX9_isKind_17 rfl h
theorem m_X9_106 : Cond.methodLink RX9 106 yX9_isKind ∈ gW := gW_in 859 (by decide +kernel) (by decide +kernel)
theorem mc_X9_isKind : Cond.code yX9_isKind cX9_isKind 2 (some .boolean) ∈ gW := gW_in 862 (by decide +kernel) (by decide +kernel)
theorem mz_RX9 : Cond.initialized RX9 ∈ gW := gW_in 91 (by decide +kernel) (by decide +kernel)
theorem ok_X9_isKind : okM yX9_isKind cX9_isKind 2 (some .boolean) 1 := ⟨mc_X9_isKind, mz_RX9, by decide +kernel⟩
theorem mi_X9_isKind : Cond.instanceMethod yX9_isKind ∈ gW := gW_in 861 (by decide +kernel) (by decide +kernel)
theorem ml_X9_isKind : Cond.selects RX9 yX9_isKind yX9_isKind ∈ gW := gW_in 58 (by decide +kernel) (by decide +kernel)
theorem m_X9_20 : Cond.fieldLink RX9 20 RX9 "kindOf" "[I" ∈ gW := gW_in 751 (by decide +kernel) (by decide +kernel)
theorem gM_X9_20 {X : XT} {l : Launch} {D : va_G} {ad : Nat → Nat} {T : TT} {cc : ByteArray} {nL fr lo : Nat} {u : SM} {pc : Nat} {lv : List (Nat × Value)} {st : List Value} (C : Cx X (KM l D ad T) cc RX9 nL fr lo) (d : decode cc pc = .ok (.getfield 20, 3)) (kk : At X nL (wM T ad u) (pc + 3) lv (.ref (ad 2) :: st)) : At X nL (wM T ad u) pc lv (.ref (ad 0) :: st) := at_get C ingX9 (ci := 9) rfl 0 (wM_g0 T ad u) 4 (by decide) m_X9_20 rfl rfl d kk
theorem m_X9_23 : Cond.fieldLink RX9 23 RX9 "slowest" "[I" ∈ gW := gW_in 752 (by decide +kernel) (by decide +kernel)
theorem gM_X9_23 {X : XT} {l : Launch} {D : va_G} {ad : Nat → Nat} {T : TT} {cc : ByteArray} {nL fr lo : Nat} {u : SM} {pc : Nat} {lv : List (Nat × Value)} {st : List Value} (C : Cx X (KM l D ad T) cc RX9 nL fr lo) (d : decode cc pc = .ok (.getfield 23, 3)) (kk : At X nL (wM T ad u) (pc + 3) lv (.ref (ad 3) :: st)) : At X nL (wM T ad u) pc lv (.ref (ad 0) :: st) := at_get C ingX9 (ci := 9) rfl 0 (wM_g0 T ad u) 5 (by decide) m_X9_23 rfl rfl d kk
theorem m_X9_26 : Cond.fieldLink RX9 26 RX9 "fastest" "[I" ∈ gW := gW_in 753 (by decide +kernel) (by decide +kernel)
theorem gM_X9_26 {X : XT} {l : Launch} {D : va_G} {ad : Nat → Nat} {T : TT} {cc : ByteArray} {nL fr lo : Nat} {u : SM} {pc : Nat} {lv : List (Nat × Value)} {st : List Value} (C : Cx X (KM l D ad T) cc RX9 nL fr lo) (d : decode cc pc = .ok (.getfield 26, 3)) (kk : At X nL (wM T ad u) (pc + 3) lv (.ref (ad 4) :: st)) : At X nL (wM T ad u) pc lv (.ref (ad 0) :: st) := at_get C ingX9 (ci := 9) rfl 0 (wM_g0 T ad u) 6 (by decide) m_X9_26 rfl rfl d kk
theorem pM_X9_17 {X : XT} {l : Launch} {D : va_G} {ad : Nat → Nat} {T : TT} {cc : ByteArray} {nL fr lo : Nat} {u : SM} {pc : Nat} {lv : List (Nat × Value)} {st : List Value} {x : Int32} (C : Cx X (KM l D ad T) cc RX9 nL fr lo) (hD : ∀ u, DX X (wM T ad u)) (d : decode cc pc = .ok (.putfield 17, 3)) (kk : ∀ u2 : SM, u2 = (st_up u.1 0 3 x, u.2) → At X nL (wM T ad u2) (pc + 3) lv st) : At X nL (wM T ad u) pc lv (.int x :: .ref (ad 0) :: st) := at_puti C ingX9 tyX9 tyX9_ok nmX9 (ci := 9) rfl (hD u) 0 (wM_g0 T ad u) 3 (by decide) m_X9_17 rfl rfl (by decide +kernel) (Nat.le_of_ble_eq_true rfl) rfl d (kk _ rfl)
def pX9_kind (v1 : Int32) (v2 : Int32) (v3 : Int32) (u : SM) (Q : Int32 → SM → Prop) : Prop := ∀ s1 : SM, s1 = (st_up u.1 0 0 0, u.2) → (pX9_isKind v1 s1 (fun r3 s2 => ((r3 = 0 → (Q (-1) s2)) ∧ (¬ r3 = 0 → ((v2 < 1 → (Q (-1) s2)) ∧ (¬ v2 < 1 → ((400 < v3 → (Q (-1) s2)) ∧ (¬ 400 < v3 → ((v3 < v2 → (Q (-1) s2)) ∧ (¬ v3 < v2 → (((s2.1 0 3) = 20 → (Q (-1) s2)) ∧ (¬ (s2.1 0 3) = 20 → (((s2.1 0 9) ≤ 0 → (vp_in (s2.1 0 3) 20 ∧ ∀ s4 : SM, s4 = (st_up s2.1 2 (Int32.toNatClampNeg (s2.1 0 3)) v1, s2.2) → (vp_in (s4.1 0 3) 20 ∧ ∀ s5 : SM, s5 = (st_up s4.1 3 (Int32.toNatClampNeg (s4.1 0 3)) v2, s4.2) → (vp_in (s5.1 0 3) 20 ∧ ∀ s6 : SM, s6 = (st_up s5.1 4 (Int32.toNatClampNeg (s5.1 0 3)) v3, s5.2) → ∀ s7 : SM, s7 = (st_up s6.1 0 3 ((s6.1 0 3) + 1), s6.2) → (Q ((s7.1 0 3) - 1) s7))))) ∧ (¬ (s2.1 0 9) ≤ 0 → (Q (-1) s2)))))))))))))))
set_option maxRecDepth 100000 in
set_option maxHeartbeats 4000000 in
theorem kX9_kind (l : Launch) (D : va_G) (ad : Nat → Nat) (T : TT) (hI : injA 27 ad) (v1 : Int32) (v2 : Int32) (v3 : Int32) (u : SM) (Q : Int32 → SM → Prop) (h : pX9_kind v1 v2 v3 u Q) : Ki (KM l D ad T) (wM T ad) yX9_kind cX9_kind 4 (some .int) { frames := 1, cells := 0, slots := 0, locals := 21 } [.ref (ad 0), .int v1, .int v2, .int v3] (wM T ad u) Q := by
  refine st_MI (fr := 1) (lo := 21) (by decide) ⟨rfl, rfl⟩ rfl (Nat.le_of_ble_eq_true rfl) rfl (fun X C hD ret => ?_)
  replace hD : ∀ u, DX X (wM T ad u) := fun u => hD _ (wM_D hI T u)
  unfold pX9_kind at h
  refine at_aload_n C dX9_kind_0 0 rfl ?_
  refine at_iconst (v := 0) C dX9_kind_1 (by decide) ?_
  refine pM_X9_1 C hD dX9_kind_2 (fun s1 es1 => ?_)
  replace h := h s1 es1
  refine at_aload_n C dX9_kind_5 0 rfl ?_
  refine at_iload_n C dX9_kind_6 1 rfl ?_
  refine at_callVi C (kX9_isKind l D ad T hI _ _ _ h) ok_X9_isKind m_X9_106 mi_X9_isKind ml_X9_isKind (wM_g0 T ad _) rfl ⟨rfl, rfl, Nat.le_of_ble_eq_true rfl, Nat.le_of_ble_eq_true rfl⟩ rfl rfl (Nat.le_of_ble_eq_true rfl) dX9_kind_7 (fun r3 s2 h => ?_)
  refine at_if_eq (tgt := 46) C dX9_kind_10 (by decide) (fun hc => ?_) (fun hc => ?_)
  · replace h := h.1 hc
    refine at_iconst (v := (-1)) C dX9_kind_46 (by decide) ?_
    exact ret _ _ _ _ dX9_kind_47 h
  · replace h := h.2 hc
    refine at_iload_n C dX9_kind_13 2 rfl ?_
    refine at_iconst (v := 1) C dX9_kind_14 (by decide) ?_
    refine at_icmp_lt (tgt := 46) C dX9_kind_15 (by decide) (fun hc => ?_) (fun hc => ?_)
    · replace h := h.1 hc
      refine at_iconst (v := (-1)) C dX9_kind_46 (by decide) ?_
      exact ret _ _ _ _ dX9_kind_47 h
    · replace h := h.2 hc
      refine at_iload_n C dX9_kind_18 3 rfl ?_
      refine at_sipush (v := 400) C dX9_kind_19 (by decide) ?_
      refine at_icmp_gt (tgt := 46) C dX9_kind_22 (by decide) (fun hc => ?_) (fun hc => ?_)
      · replace h := h.1 hc
        refine at_iconst (v := (-1)) C dX9_kind_46 (by decide) ?_
        exact ret _ _ _ _ dX9_kind_47 h
      · replace h := h.2 hc
        refine at_iload_n C dX9_kind_25 2 rfl ?_
        refine at_iload_n C dX9_kind_26 3 rfl ?_
        refine at_icmp_gt (tgt := 46) C dX9_kind_27 (by decide) (fun hc => ?_) (fun hc => ?_)
        · replace h := h.1 hc
          refine at_iconst (v := (-1)) C dX9_kind_46 (by decide) ?_
          exact ret _ _ _ _ dX9_kind_47 h
        · replace h := h.2 hc
          refine at_aload_n C dX9_kind_30 0 rfl ?_
          refine gM_X9_17 C dX9_kind_31 ?_
          refine at_bipush (v := 20) C dX9_kind_34 (by decide) ?_
          refine at_icmp_eq (tgt := 46) C dX9_kind_36 (by decide) (fun hc => ?_) (fun hc => ?_)
          · replace h := h.1 hc
            refine at_iconst (v := (-1)) C dX9_kind_46 (by decide) ?_
            exact ret _ _ _ _ dX9_kind_47 h
          · replace h := h.2 hc
            refine at_aload_n C dX9_kind_39 0 rfl ?_
            refine gM_X9_103 C dX9_kind_40 ?_
            refine at_if_le (tgt := 48) C dX9_kind_43 (by decide) (fun hc => ?_) (fun hc => ?_)
            · replace h := h.1 hc
              refine at_aload_n C dX9_kind_48 0 rfl ?_
              refine gM_X9_20 C dX9_kind_49 ?_
              refine at_aload_n C dX9_kind_52 0 rfl ?_
              refine gM_X9_17 C dX9_kind_53 ?_
              refine at_iload_n C dX9_kind_56 1 rfl ?_
              obtain ⟨hi, h⟩ := h
              refine sM_2 C hD hi dX9_kind_57 (fun s4 es4 => ?_)
              replace h := h s4 es4
              refine at_aload_n C dX9_kind_58 0 rfl ?_
              refine gM_X9_23 C dX9_kind_59 ?_
              refine at_aload_n C dX9_kind_62 0 rfl ?_
              refine gM_X9_17 C dX9_kind_63 ?_
              refine at_iload_n C dX9_kind_66 2 rfl ?_
              obtain ⟨hi, h⟩ := h
              refine sM_3 C hD hi dX9_kind_67 (fun s5 es5 => ?_)
              replace h := h s5 es5
              refine at_aload_n C dX9_kind_68 0 rfl ?_
              refine gM_X9_26 C dX9_kind_69 ?_
              refine at_aload_n C dX9_kind_72 0 rfl ?_
              refine gM_X9_17 C dX9_kind_73 ?_
              refine at_iload_n C dX9_kind_76 3 rfl ?_
              obtain ⟨hi, h⟩ := h
              refine sM_4 C hD hi dX9_kind_77 (fun s6 es6 => ?_)
              replace h := h s6 es6
              refine at_aload_n C dX9_kind_78 0 rfl ?_
              refine at_dup C dX9_kind_79 rfl ?_
              refine gM_X9_17 C dX9_kind_80 ?_
              refine at_iconst (v := 1) C dX9_kind_83 (by decide) ?_
              refine at_iadd C dX9_kind_84 ?_
              refine pM_X9_17 C hD dX9_kind_85 (fun s7 es7 => ?_)
              replace h := h s7 es7
              refine at_aload_n C dX9_kind_88 0 rfl ?_
              refine gM_X9_17 C dX9_kind_89 ?_
              refine at_iconst (v := 1) C dX9_kind_92 (by decide) ?_
              refine at_isub C dX9_kind_93 ?_
              exact ret _ _ _ _ dX9_kind_94 h
            · replace h := h.2 hc
              refine at_iconst (v := (-1)) C dX9_kind_46 (by decide) ?_
              exact ret _ _ _ _ dX9_kind_47 h
theorem m_X9_110 : Cond.fieldLink RX9 110 RX9 "now" "I" ∈ gW := gW_in 754 (by decide +kernel) (by decide +kernel)
theorem gM_X9_110 {X : XT} {l : Launch} {D : va_G} {ad : Nat → Nat} {T : TT} {cc : ByteArray} {nL fr lo : Nat} {u : SM} {pc : Nat} {lv : List (Nat × Value)} {st : List Value} (C : Cx X (KM l D ad T) cc RX9 nL fr lo) (d : decode cc pc = .ok (.getfield 110, 3)) (kk : At X nL (wM T ad u) (pc + 3) lv (.int (u.1 0 7) :: st)) : At X nL (wM T ad u) pc lv (.ref (ad 0) :: st) := at_get C ingX9 (ci := 9) rfl 0 (wM_g0 T ad u) 7 (by decide) m_X9_110 rfl rfl d kk
theorem pM_X9_110 {X : XT} {l : Launch} {D : va_G} {ad : Nat → Nat} {T : TT} {cc : ByteArray} {nL fr lo : Nat} {u : SM} {pc : Nat} {lv : List (Nat × Value)} {st : List Value} {x : Int32} (C : Cx X (KM l D ad T) cc RX9 nL fr lo) (hD : ∀ u, DX X (wM T ad u)) (d : decode cc pc = .ok (.putfield 110, 3)) (kk : ∀ u2 : SM, u2 = (st_up u.1 0 7 x, u.2) → At X nL (wM T ad u2) (pc + 3) lv st) : At X nL (wM T ad u) pc lv (.int x :: .ref (ad 0) :: st) := at_puti C ingX9 tyX9 tyX9_ok nmX9 (ci := 9) rfl (hD u) 0 (wM_g0 T ad u) 7 (by decide) m_X9_110 rfl rfl (by decide +kernel) (Nat.le_of_ble_eq_true rfl) rfl d (kk _ rfl)
def pX9_later  (u : SM) (Q : Int32 → SM → Prop) : Prop := ∀ s1 : SM, s1 = (st_up u.1 0 0 0, u.2) → ((¬ (s1.1 0 7) = 1000 → ∀ s2 : SM, s2 = (st_up s1.1 0 7 ((s1.1 0 7) + 1), s1.2) → (Q (s2.1 0 7) s2)) ∧ ((s1.1 0 7) = 1000 → (Q (-1) s1)))
set_option maxRecDepth 100000 in
set_option maxHeartbeats 4000000 in
theorem kX9_later (l : Launch) (D : va_G) (ad : Nat → Nat) (T : TT) (hI : injA 27 ad)  (u : SM) (Q : Int32 → SM → Prop) (h : pX9_later  u Q) : Ki (KM l D ad T) (wM T ad) yX9_later cX9_later 1 (some .int) { frames := 0, cells := 0, slots := 0, locals := 0 } [.ref (ad 0)] (wM T ad u) Q := by
  refine st_MI (fr := 0) (lo := 0) (by decide) ⟨rfl, rfl⟩ rfl (Nat.le_of_ble_eq_true rfl) rfl (fun X C hD ret => ?_)
  replace hD : ∀ u, DX X (wM T ad u) := fun u => hD _ (wM_D hI T u)
  unfold pX9_later at h
  refine at_aload_n C dX9_later_0 0 rfl ?_
  refine at_iconst (v := 0) C dX9_later_1 (by decide) ?_
  refine pM_X9_1 C hD dX9_later_2 (fun s1 es1 => ?_)
  replace h := h s1 es1
  refine at_aload_n C dX9_later_5 0 rfl ?_
  refine gM_X9_110 C dX9_later_6 ?_
  refine at_sipush (v := 1000) C dX9_later_9 (by decide) ?_
  refine at_icmp_ne (tgt := 17) C dX9_later_12 (by decide) (fun hc => ?_) (fun hc => ?_)
  · replace h := h.1 hc
    refine at_aload_n C dX9_later_17 0 rfl ?_
    refine at_dup C dX9_later_18 rfl ?_
    refine gM_X9_110 C dX9_later_19 ?_
    refine at_iconst (v := 1) C dX9_later_22 (by decide) ?_
    refine at_iadd C dX9_later_23 ?_
    refine pM_X9_110 C hD dX9_later_24 (fun s2 es2 => ?_)
    replace h := h s2 es2
    refine at_aload_n C dX9_later_27 0 rfl ?_
    refine gM_X9_110 C dX9_later_28 ?_
    exact ret _ _ _ _ dX9_later_31 h
  · replace h := h.2 hc
    refine at_iconst (v := (-1)) C dX9_later_15 (by decide) ?_
    exact ret _ _ _ _ dX9_later_16 h
def pX9_isDay (v0 : Int32) (v1 : Int32) (u : SM) (Q : Int32 → SM → Prop) : Prop := ((v0 < 0 → (Q 0 u)) ∧ (¬ v0 < 0 → ((6 ≤ v0 → (Q 0 u)) ∧ (¬ 6 ≤ v0 → ((v1 < 0 → (Q 0 u)) ∧ (¬ v1 < 0 → ((30 ≤ v1 → (Q 0 u)) ∧ (¬ 30 ≤ v1 → (Q 1 u)))))))))
set_option maxRecDepth 100000 in
set_option maxHeartbeats 4000000 in
theorem kX9_isDay (l : Launch) (D : va_G) (ad : Nat → Nat) (T : TT) (hI : injA 27 ad) (v0 : Int32) (v1 : Int32) (u : SM) (Q : Int32 → SM → Prop) (h : pX9_isDay v0 v1 u Q) : Ki (KM l D ad T) (wM T ad) yX9_isDay cX9_isDay 2 (some .boolean) { frames := 0, cells := 0, slots := 0, locals := 0 } [.int v0, .int v1] (wM T ad u) Q := by
  refine st_MZ (fr := 0) (lo := 0) (by decide) ⟨rfl, rfl⟩ rfl (Nat.le_of_ble_eq_true rfl) rfl (fun X C hD ret => ?_)
  replace hD : ∀ u, DX X (wM T ad u) := fun u => hD _ (wM_D hI T u)
  unfold pX9_isDay at h
  refine at_iload_n C dX9_isDay_0 0 rfl ?_
  refine at_if_lt (tgt := 24) C dX9_isDay_1 (by decide) (fun hc => ?_) (fun hc => ?_)
  · replace h := h.1 hc
    refine at_iconst (v := 0) C dX9_isDay_24 (by decide) ?_
    exact ret _ _ _ _ dX9_isDay_25 rfl h
  · replace h := h.2 hc
    refine at_iload_n C dX9_isDay_4 0 rfl ?_
    refine at_bipush (v := 6) C dX9_isDay_5 (by decide) ?_
    refine at_icmp_ge (tgt := 24) C dX9_isDay_7 (by decide) (fun hc => ?_) (fun hc => ?_)
    · replace h := h.1 hc
      refine at_iconst (v := 0) C dX9_isDay_24 (by decide) ?_
      exact ret _ _ _ _ dX9_isDay_25 rfl h
    · replace h := h.2 hc
      refine at_iload_n C dX9_isDay_10 1 rfl ?_
      refine at_if_lt (tgt := 24) C dX9_isDay_11 (by decide) (fun hc => ?_) (fun hc => ?_)
      · replace h := h.1 hc
        refine at_iconst (v := 0) C dX9_isDay_24 (by decide) ?_
        exact ret _ _ _ _ dX9_isDay_25 rfl h
      · replace h := h.2 hc
        refine at_iload_n C dX9_isDay_14 1 rfl ?_
        refine at_bipush (v := 30) C dX9_isDay_15 (by decide) ?_
        refine at_icmp_ge (tgt := 24) C dX9_isDay_17 (by decide) (fun hc => ?_) (fun hc => ?_)
        · replace h := h.1 hc
          refine at_iconst (v := 0) C dX9_isDay_24 (by decide) ?_
          exact ret _ _ _ _ dX9_isDay_25 rfl h
        · replace h := h.2 hc
          refine at_iconst (v := 1) C dX9_isDay_20 (by decide) ?_
          refine at_goto (tgt := 25) C dX9_isDay_21 (by decide) ?_
          exact ret _ _ _ _ dX9_isDay_25 rfl h
theorem m_X9_113 : Cond.methodLink RX9 113 yX9_isDay ∈ gW := gW_in 871 (by decide +kernel) (by decide +kernel)
theorem mc_X9_isDay : Cond.code yX9_isDay cX9_isDay 2 (some .boolean) ∈ gW := gW_in 873 (by decide +kernel) (by decide +kernel)
theorem ok_X9_isDay : okM yX9_isDay cX9_isDay 2 (some .boolean) 2 := ⟨mc_X9_isDay, mz_RX9, by decide +kernel⟩
theorem ms_X9_isDay : Cond.static yX9_isDay ∈ gW := gW_in 872 (by decide +kernel) (by decide +kernel)
theorem m_X9_50 : Cond.fieldLink RX9 50 RX9 "isOff" "[Z" ∈ gW := gW_in 763 (by decide +kernel) (by decide +kernel)
theorem gM_X9_50 {X : XT} {l : Launch} {D : va_G} {ad : Nat → Nat} {T : TT} {cc : ByteArray} {nL fr lo : Nat} {u : SM} {pc : Nat} {lv : List (Nat × Value)} {st : List Value} (C : Cx X (KM l D ad T) cc RX9 nL fr lo) (d : decode cc pc = .ok (.getfield 50, 3)) (kk : At X nL (wM T ad u) (pc + 3) lv (.ref (ad 11) :: st)) : At X nL (wM T ad u) pc lv (.ref (ad 0) :: st) := at_get C ingX9 (ci := 9) rfl 0 (wM_g0 T ad u) 16 (by decide) m_X9_50 rfl rfl d kk
def pX9_hourOf (v0 : Int32) (v1 : Int32) (v2 : Int32) (u : SM) (Q : Int32 → SM → Prop) : Prop := (Q ((10 * ((30 * v0) + v1)) + v2) u)
set_option maxRecDepth 100000 in
set_option maxHeartbeats 4000000 in
theorem kX9_hourOf (l : Launch) (D : va_G) (ad : Nat → Nat) (T : TT) (hI : injA 27 ad) (v0 : Int32) (v1 : Int32) (v2 : Int32) (u : SM) (Q : Int32 → SM → Prop) (h : pX9_hourOf v0 v1 v2 u Q) : Ki (KM l D ad T) (wM T ad) yX9_hourOf cX9_hourOf 3 (some .int) { frames := 0, cells := 0, slots := 0, locals := 0 } [.int v0, .int v1, .int v2] (wM T ad u) Q := by
  refine st_MI (fr := 0) (lo := 0) (by decide) ⟨rfl, rfl⟩ rfl (Nat.le_of_ble_eq_true rfl) rfl (fun X C hD ret => ?_)
  replace hD : ∀ u, DX X (wM T ad u) := fun u => hD _ (wM_D hI T u)
  unfold pX9_hourOf at h
  refine at_bipush (v := 10) C dX9_hourOf_0 (by decide) ?_
  refine at_bipush (v := 30) C dX9_hourOf_2 (by decide) ?_
  refine at_iload_n C dX9_hourOf_4 0 rfl ?_
  refine at_imul C dX9_hourOf_5 ?_
  refine at_iload_n C dX9_hourOf_6 1 rfl ?_
  refine at_iadd C dX9_hourOf_7 ?_
  refine at_imul C dX9_hourOf_8 ?_
  refine at_iload_n C dX9_hourOf_9 2 rfl ?_
  refine at_iadd C dX9_hourOf_10 ?_
  exact ret _ _ _ _ dX9_hourOf_11 h
theorem m_X9_117 : Cond.methodLink RX9 117 yX9_hourOf ∈ gW := gW_in 874 (by decide +kernel) (by decide +kernel)
theorem mc_X9_hourOf : Cond.code yX9_hourOf cX9_hourOf 3 (some .int) ∈ gW := gW_in 876 (by decide +kernel) (by decide +kernel)
theorem ok_X9_hourOf : okM yX9_hourOf cX9_hourOf 3 (some .int) 3 := ⟨mc_X9_hourOf, mz_RX9, by decide +kernel⟩
theorem ms_X9_hourOf : Cond.static yX9_hourOf ∈ gW := gW_in 875 (by decide +kernel) (by decide +kernel)
theorem m_X9_32 : Cond.fieldLink RX9 32 RX9 "years" "[I" ∈ gW := gW_in 757 (by decide +kernel) (by decide +kernel)
theorem gM_X9_32 {X : XT} {l : Launch} {D : va_G} {ad : Nat → Nat} {T : TT} {cc : ByteArray} {nL fr lo : Nat} {u : SM} {pc : Nat} {lv : List (Nat × Value)} {st : List Value} (C : Cx X (KM l D ad T) cc RX9 nL fr lo) (d : decode cc pc = .ok (.getfield 32, 3)) (kk : At X nL (wM T ad u) (pc + 3) lv (.ref (ad 5) :: st)) : At X nL (wM T ad u) pc lv (.ref (ad 0) :: st) := at_get C ingX9 (ci := 9) rfl 0 (wM_g0 T ad u) 10 (by decide) m_X9_32 rfl rfl d kk
theorem m_X9_35 : Cond.fieldLink RX9 35 RX9 "days" "[I" ∈ gW := gW_in 758 (by decide +kernel) (by decide +kernel)
theorem gM_X9_35 {X : XT} {l : Launch} {D : va_G} {ad : Nat → Nat} {T : TT} {cc : ByteArray} {nL fr lo : Nat} {u : SM} {pc : Nat} {lv : List (Nat × Value)} {st : List Value} (C : Cx X (KM l D ad T) cc RX9 nL fr lo) (d : decode cc pc = .ok (.getfield 35, 3)) (kk : At X nL (wM T ad u) (pc + 3) lv (.ref (ad 6) :: st)) : At X nL (wM T ad u) pc lv (.ref (ad 0) :: st) := at_get C ingX9 (ci := 9) rfl 0 (wM_g0 T ad u) 11 (by decide) m_X9_35 rfl rfl d kk
theorem m_X9_38 : Cond.fieldLink RX9 38 RX9 "minutes" "[I" ∈ gW := gW_in 759 (by decide +kernel) (by decide +kernel)
theorem gM_X9_38 {X : XT} {l : Launch} {D : va_G} {ad : Nat → Nat} {T : TT} {cc : ByteArray} {nL fr lo : Nat} {u : SM} {pc : Nat} {lv : List (Nat × Value)} {st : List Value} (C : Cx X (KM l D ad T) cc RX9 nL fr lo) (d : decode cc pc = .ok (.getfield 38, 3)) (kk : At X nL (wM T ad u) (pc + 3) lv (.ref (ad 7) :: st)) : At X nL (wM T ad u) pc lv (.ref (ad 0) :: st) := at_get C ingX9 (ci := 9) rfl 0 (wM_g0 T ad u) 12 (by decide) m_X9_38 rfl rfl d kk
theorem m_X9_41 : Cond.fieldLink RX9 41 RX9 "atPost" "[I" ∈ gW := gW_in 760 (by decide +kernel) (by decide +kernel)
theorem gM_X9_41 {X : XT} {l : Launch} {D : va_G} {ad : Nat → Nat} {T : TT} {cc : ByteArray} {nL fr lo : Nat} {u : SM} {pc : Nat} {lv : List (Nat × Value)} {st : List Value} (C : Cx X (KM l D ad T) cc RX9 nL fr lo) (d : decode cc pc = .ok (.getfield 41, 3)) (kk : At X nL (wM T ad u) (pc + 3) lv (.ref (ad 8) :: st)) : At X nL (wM T ad u) pc lv (.ref (ad 0) :: st) := at_get C ingX9 (ci := 9) rfl 0 (wM_g0 T ad u) 13 (by decide) m_X9_41 rfl rfl d kk
theorem m_X9_44 : Cond.fieldLink RX9 44 RX9 "told" "[I" ∈ gW := gW_in 761 (by decide +kernel) (by decide +kernel)
theorem gM_X9_44 {X : XT} {l : Launch} {D : va_G} {ad : Nat → Nat} {T : TT} {cc : ByteArray} {nL fr lo : Nat} {u : SM} {pc : Nat} {lv : List (Nat × Value)} {st : List Value} (C : Cx X (KM l D ad T) cc RX9 nL fr lo) (d : decode cc pc = .ok (.getfield 44, 3)) (kk : At X nL (wM T ad u) (pc + 3) lv (.ref (ad 9) :: st)) : At X nL (wM T ad u) pc lv (.ref (ad 0) :: st) := at_get C ingX9 (ci := 9) rfl 0 (wM_g0 T ad u) 14 (by decide) m_X9_44 rfl rfl d kk
theorem m_X9_47 : Cond.fieldLink RX9 47 RX9 "since" "[I" ∈ gW := gW_in 762 (by decide +kernel) (by decide +kernel)
theorem gM_X9_47 {X : XT} {l : Launch} {D : va_G} {ad : Nat → Nat} {T : TT} {cc : ByteArray} {nL fr lo : Nat} {u : SM} {pc : Nat} {lv : List (Nat × Value)} {st : List Value} (C : Cx X (KM l D ad T) cc RX9 nL fr lo) (d : decode cc pc = .ok (.getfield 47, 3)) (kk : At X nL (wM T ad u) (pc + 3) lv (.ref (ad 10) :: st)) : At X nL (wM T ad u) pc lv (.ref (ad 0) :: st) := at_get C ingX9 (ci := 9) rfl 0 (wM_g0 T ad u) 15 (by decide) m_X9_47 rfl rfl d kk
theorem pM_X9_103 {X : XT} {l : Launch} {D : va_G} {ad : Nat → Nat} {T : TT} {cc : ByteArray} {nL fr lo : Nat} {u : SM} {pc : Nat} {lv : List (Nat × Value)} {st : List Value} {x : Int32} (C : Cx X (KM l D ad T) cc RX9 nL fr lo) (hD : ∀ u, DX X (wM T ad u)) (d : decode cc pc = .ok (.putfield 103, 3)) (kk : ∀ u2 : SM, u2 = (st_up u.1 0 9 x, u.2) → At X nL (wM T ad u2) (pc + 3) lv st) : At X nL (wM T ad u) pc lv (.int x :: .ref (ad 0) :: st) := at_puti C ingX9 tyX9 tyX9_ok nmX9 (ci := 9) rfl (hD u) 0 (wM_g0 T ad u) 9 (by decide) m_X9_103 rfl rfl (by decide +kernel) (Nat.le_of_ble_eq_true rfl) rfl d (kk _ rfl)
def qX9_tell_132 (R82 : Int32 → Int32 → Int32 → Int32 → Int32 → Int32 → Int32 → SM → Prop) (Q : Int32 → SM → Prop) (v1 : Int32) (v2 : Int32) (v3 : Int32) (v4 : Int32) (v5 : Int32) (v7 : Int32) (k0 : Int32) (k1 : Int32) (u : SM) : Prop := ∀ x15 : Int32, x15 = (k1 + k0) → ∀ x16 : Int32, x16 = v7 + 1 → R82 v1 v2 v3 v4 v5 x15 x16 u
def qX9_tell_131 (R82 : Int32 → Int32 → Int32 → Int32 → Int32 → Int32 → Int32 → SM → Prop) (Q : Int32 → SM → Prop) (v1 : Int32) (v2 : Int32) (v3 : Int32) (v4 : Int32) (v5 : Int32) (v7 : Int32) (k0 : Int32) (u : SM) : Prop := (qX9_tell_132 R82 Q v1 v2 v3 v4 v5 v7 0 k0 u)
def qX9_tell_82 (R82 : Int32 → Int32 → Int32 → Int32 → Int32 → Int32 → Int32 → SM → Prop) (Q : Int32 → SM → Prop) (v1 : Int32) (v2 : Int32) (v3 : Int32) (v4 : Int32) (v5 : Int32) (v6 : Int32) (v7 : Int32) (u : SM) : Prop := (((u.1 0 9) ≤ v7 → ((¬ v6 = 12 → (vp_in (u.1 0 9) 300 ∧ ∀ s8 : SM, s8 = (st_up u.1 5 (Int32.toNatClampNeg (u.1 0 9)) v1, u.2) → (vp_in (s8.1 0 9) 300 ∧ ∀ s9 : SM, s9 = (st_up s8.1 6 (Int32.toNatClampNeg (s8.1 0 9)) v2, s8.2) → (vp_in (s9.1 0 9) 300 ∧ ∀ s10 : SM, s10 = (st_up s9.1 7 (Int32.toNatClampNeg (s9.1 0 9)) v3, s9.2) → (vp_in (s10.1 0 9) 300 ∧ ∀ s11 : SM, s11 = (st_up s10.1 8 (Int32.toNatClampNeg (s10.1 0 9)) v4, s10.2) → (vp_in (s11.1 0 9) 300 ∧ ∀ s12 : SM, s12 = (st_up s11.1 9 (Int32.toNatClampNeg (s11.1 0 9)) v5, s11.2) → (vp_in (s12.1 0 9) 300 ∧ ∀ s13 : SM, s13 = (st_up s12.1 10 (Int32.toNatClampNeg (s12.1 0 9)) (s12.1 0 7), s12.2) → ∀ s14 : SM, s14 = (st_up s13.1 0 9 ((s13.1 0 9) + 1), s13.2) → (Q ((s14.1 0 9) - 1) s14)))))))) ∧ (v6 = 12 → (Q (-1) u)))) ∧ (¬ (u.1 0 9) ≤ v7 → (vp_in v7 300 ∧ ((¬ (u.1 5 (Int32.toNatClampNeg v7)) = v1 → (qX9_tell_131 R82 Q v1 v2 v3 v4 v5 v7 v6 u)) ∧ ((u.1 5 (Int32.toNatClampNeg v7)) = v1 → (vp_in v7 300 ∧ ((¬ (u.1 6 (Int32.toNatClampNeg v7)) = v2 → (qX9_tell_131 R82 Q v1 v2 v3 v4 v5 v7 v6 u)) ∧ ((u.1 6 (Int32.toNatClampNeg v7)) = v2 → (vp_in v7 300 ∧ ((¬ (u.1 8 (Int32.toNatClampNeg v7)) = v4 → (qX9_tell_131 R82 Q v1 v2 v3 v4 v5 v7 v6 u)) ∧ ((u.1 8 (Int32.toNatClampNeg v7)) = v4 → (qX9_tell_132 R82 Q v1 v2 v3 v4 v5 v7 1 v6 u))))))))))))
def qX9_tell_l82  (Q : Int32 → SM → Prop) : Nat → Int32 → Int32 → Int32 → Int32 → Int32 → Int32 → Int32 → SM → Prop
  | 0 => fun _ _ _ _ _ _ _ _ => False
  | n + 1 => qX9_tell_82 (qX9_tell_l82  Q n) Q
def pX9_tell (v1 : Int32) (v2 : Int32) (v3 : Int32) (v4 : Int32) (v5 : Int32) (u : SM) (Q : Int32 → SM → Prop) : Prop := ∀ s1 : SM, s1 = (st_up u.1 0 0 0, u.2) → (pX9_isDay v1 v2 s1 (fun r3 s2 => ((r3 = 0 → (Q (-1) s2)) ∧ (¬ r3 = 0 → ((v3 < 0 → (Q (-1) s2)) ∧ (¬ v3 < 0 → ((599 < v3 → (Q (-1) s2)) ∧ (¬ 599 < v3 → ((v4 < 0 → (Q (-1) s2)) ∧ (¬ v4 < 0 → (((s2.1 0 1) ≤ v4 → (Q (-1) s2)) ∧ (¬ (s2.1 0 1) ≤ v4 → (pX9_isKind v5 s2 (fun r5 s4 => ((r5 = 0 → (Q (-1) s4)) ∧ (¬ r5 = 0 → (((s4.1 0 9) = 300 → (Q (-1) s4)) ∧ (¬ (s4.1 0 9) = 300 → (pX9_hourOf v1 v2 (v3 / 60) s4 (fun r7 s6 => (vp_in r7 1800 ∧ (((s6.1 11 (Int32.toNatClampNeg r7)) = 0 → (∃ n, qX9_tell_l82  Q n v1 v2 v3 v4 v5 0 0 s6)) ∧ (¬ (s6.1 11 (Int32.toNatClampNeg r7)) = 0 → (Q (-1) s6))))))))))))))))))))))))
set_option maxRecDepth 100000 in
set_option maxHeartbeats 4000000 in
theorem kX9_tell (l : Launch) (D : va_G) (ad : Nat → Nat) (T : TT) (hI : injA 27 ad) (v1 : Int32) (v2 : Int32) (v3 : Int32) (v4 : Int32) (v5 : Int32) (u : SM) (Q : Int32 → SM → Prop) (h : pX9_tell v1 v2 v3 v4 v5 u Q) : Ki (KM l D ad T) (wM T ad) yX9_tell cX9_tell 8 (some .int) { frames := 1, cells := 0, slots := 0, locals := 22 } [.ref (ad 0), .int v1, .int v2, .int v3, .int v4, .int v5] (wM T ad u) Q := by
  refine st_MI (fr := 1) (lo := 22) (by decide) ⟨rfl, rfl⟩ rfl (Nat.le_of_ble_eq_true rfl) rfl (fun X C hD ret => ?_)
  replace hD : ∀ u, DX X (wM T ad u) := fun u => hD _ (wM_D hI T u)
  have t132 : ∀ (R82 : Int32 → Int32 → Int32 → Int32 → Int32 → Int32 → Int32 → SM → Prop) (hR82 : ∀ (v1 : Int32) (v2 : Int32) (v3 : Int32) (v4 : Int32) (v5 : Int32) (v6 : Int32) (v7 : Int32) (u : SM), R82 v1 v2 v3 v4 v5 v6 v7 u → At X 8 (wM T ad u) 82 [(0, .ref (ad 0)), (1, .int v1), (2, .int v2), (3, .int v3), (4, .int v4), (5, .int v5), (6, .int v6), (7, .int v7)] []) (v1 : Int32) (v2 : Int32) (v3 : Int32) (v4 : Int32) (v5 : Int32) (v7 : Int32) (k0 : Int32) (k1 : Int32) (u : SM), qX9_tell_132 R82 Q v1 v2 v3 v4 v5 v7 k0 k1 u → At X 8 (wM T ad u) 132 [(0, .ref (ad 0)), (1, .int v1), (2, .int v2), (3, .int v3), (4, .int v4), (5, .int v5), (7, .int v7)] [.int k0, .int k1] := by
    intro R82 hR82 v1 v2 v3 v4 v5 v7 k0 k1 u h
    unfold qX9_tell_132 at h
    refine at_iadd C dX9_tell_132 ?_
    refine at_topi (fun x15 ex15 => ?_)
    replace h := h x15 ex15
    refine at_istore (lv' := [(0, .ref (ad 0)), (1, .int v1), (2, .int v2), (3, .int v3), (4, .int v4), (5, .int v5), (6, .int x15), (7, .int v7)]) C dX9_tell_133 (by decide) [1, 2, 3, 4, 5, 6, 0, 7] rfl ?_
    obtain ⟨x16, ex16⟩ : ∃ y : Int32, y = v7 + 1 := ⟨_, rfl⟩
    replace h := h x16 ex16
    refine at_iinc (v := x16) (lv' := [(0, .ref (ad 0)), (1, .int v1), (2, .int v2), (3, .int v3), (4, .int v4), (5, .int v5), (6, .int x15), (7, .int x16)]) C dX9_tell_135 7 rfl (by rw [ex16]; rfl) (by decide) [1, 2, 3, 4, 5, 6, 7, 0] rfl ?_
    refine at_goto (tgt := 82) C dX9_tell_138 (by decide) ?_
    exact hR82 _ _ _ _ _ _ _ _ h
  have t131 : ∀ (R82 : Int32 → Int32 → Int32 → Int32 → Int32 → Int32 → Int32 → SM → Prop) (hR82 : ∀ (v1 : Int32) (v2 : Int32) (v3 : Int32) (v4 : Int32) (v5 : Int32) (v6 : Int32) (v7 : Int32) (u : SM), R82 v1 v2 v3 v4 v5 v6 v7 u → At X 8 (wM T ad u) 82 [(0, .ref (ad 0)), (1, .int v1), (2, .int v2), (3, .int v3), (4, .int v4), (5, .int v5), (6, .int v6), (7, .int v7)] []) (v1 : Int32) (v2 : Int32) (v3 : Int32) (v4 : Int32) (v5 : Int32) (v7 : Int32) (k0 : Int32) (u : SM), qX9_tell_131 R82 Q v1 v2 v3 v4 v5 v7 k0 u → At X 8 (wM T ad u) 131 [(0, .ref (ad 0)), (1, .int v1), (2, .int v2), (3, .int v3), (4, .int v4), (5, .int v5), (7, .int v7)] [.int k0] := by
    intro R82 hR82 v1 v2 v3 v4 v5 v7 k0 u h
    unfold qX9_tell_131 at h
    refine at_iconst (v := 0) C dX9_tell_131 (by decide) ?_
    exact t132 R82 hR82 _ _ _ _ _ _ _ _ _ h
  have tb82 : ∀ (R82 : Int32 → Int32 → Int32 → Int32 → Int32 → Int32 → Int32 → SM → Prop) (hR82 : ∀ (v1 : Int32) (v2 : Int32) (v3 : Int32) (v4 : Int32) (v5 : Int32) (v6 : Int32) (v7 : Int32) (u : SM), R82 v1 v2 v3 v4 v5 v6 v7 u → At X 8 (wM T ad u) 82 [(0, .ref (ad 0)), (1, .int v1), (2, .int v2), (3, .int v3), (4, .int v4), (5, .int v5), (6, .int v6), (7, .int v7)] []) (v1 : Int32) (v2 : Int32) (v3 : Int32) (v4 : Int32) (v5 : Int32) (v6 : Int32) (v7 : Int32) (u : SM), qX9_tell_82 R82 Q v1 v2 v3 v4 v5 v6 v7 u → At X 8 (wM T ad u) 82 [(0, .ref (ad 0)), (1, .int v1), (2, .int v2), (3, .int v3), (4, .int v4), (5, .int v5), (6, .int v6), (7, .int v7)] [] := by
    intro R82 hR82 v1 v2 v3 v4 v5 v6 v7 u h
    unfold qX9_tell_82 at h
    refine at_iload C dX9_tell_82 7 rfl ?_
    refine at_aload_n C dX9_tell_84 0 rfl ?_
    refine gM_X9_103 C dX9_tell_85 ?_
    refine at_icmp_ge (tgt := 141) C dX9_tell_88 (by decide) (fun hc => ?_) (fun hc => ?_)
    · replace h := h.1 hc
      refine at_iload C dX9_tell_141 6 rfl ?_
      refine at_bipush (v := 12) C dX9_tell_143 (by decide) ?_
      refine at_icmp_ne (tgt := 150) C dX9_tell_145 (by decide) (fun hc => ?_) (fun hc => ?_)
      · replace h := h.1 hc
        refine at_aload_n C dX9_tell_150 0 rfl ?_
        refine gM_X9_32 C dX9_tell_151 ?_
        refine at_aload_n C dX9_tell_154 0 rfl ?_
        refine gM_X9_103 C dX9_tell_155 ?_
        refine at_iload_n C dX9_tell_158 1 rfl ?_
        obtain ⟨hi, h⟩ := h
        refine sM_5 C hD hi dX9_tell_159 (fun s8 es8 => ?_)
        replace h := h s8 es8
        refine at_aload_n C dX9_tell_160 0 rfl ?_
        refine gM_X9_35 C dX9_tell_161 ?_
        refine at_aload_n C dX9_tell_164 0 rfl ?_
        refine gM_X9_103 C dX9_tell_165 ?_
        refine at_iload_n C dX9_tell_168 2 rfl ?_
        obtain ⟨hi, h⟩ := h
        refine sM_6 C hD hi dX9_tell_169 (fun s9 es9 => ?_)
        replace h := h s9 es9
        refine at_aload_n C dX9_tell_170 0 rfl ?_
        refine gM_X9_38 C dX9_tell_171 ?_
        refine at_aload_n C dX9_tell_174 0 rfl ?_
        refine gM_X9_103 C dX9_tell_175 ?_
        refine at_iload_n C dX9_tell_178 3 rfl ?_
        obtain ⟨hi, h⟩ := h
        refine sM_7 C hD hi dX9_tell_179 (fun s10 es10 => ?_)
        replace h := h s10 es10
        refine at_aload_n C dX9_tell_180 0 rfl ?_
        refine gM_X9_41 C dX9_tell_181 ?_
        refine at_aload_n C dX9_tell_184 0 rfl ?_
        refine gM_X9_103 C dX9_tell_185 ?_
        refine at_iload C dX9_tell_188 4 rfl ?_
        obtain ⟨hi, h⟩ := h
        refine sM_8 C hD hi dX9_tell_190 (fun s11 es11 => ?_)
        replace h := h s11 es11
        refine at_aload_n C dX9_tell_191 0 rfl ?_
        refine gM_X9_44 C dX9_tell_192 ?_
        refine at_aload_n C dX9_tell_195 0 rfl ?_
        refine gM_X9_103 C dX9_tell_196 ?_
        refine at_iload C dX9_tell_199 5 rfl ?_
        obtain ⟨hi, h⟩ := h
        refine sM_9 C hD hi dX9_tell_201 (fun s12 es12 => ?_)
        replace h := h s12 es12
        refine at_aload_n C dX9_tell_202 0 rfl ?_
        refine gM_X9_47 C dX9_tell_203 ?_
        refine at_aload_n C dX9_tell_206 0 rfl ?_
        refine gM_X9_103 C dX9_tell_207 ?_
        refine at_aload_n C dX9_tell_210 0 rfl ?_
        refine gM_X9_110 C dX9_tell_211 ?_
        obtain ⟨hi, h⟩ := h
        refine sM_10 C hD hi dX9_tell_214 (fun s13 es13 => ?_)
        replace h := h s13 es13
        refine at_aload_n C dX9_tell_215 0 rfl ?_
        refine at_dup C dX9_tell_216 rfl ?_
        refine gM_X9_103 C dX9_tell_217 ?_
        refine at_iconst (v := 1) C dX9_tell_220 (by decide) ?_
        refine at_iadd C dX9_tell_221 ?_
        refine pM_X9_103 C hD dX9_tell_222 (fun s14 es14 => ?_)
        replace h := h s14 es14
        refine at_aload_n C dX9_tell_225 0 rfl ?_
        refine gM_X9_103 C dX9_tell_226 ?_
        refine at_iconst (v := 1) C dX9_tell_229 (by decide) ?_
        refine at_isub C dX9_tell_230 ?_
        exact ret _ _ _ _ dX9_tell_231 h
      · replace h := h.2 hc
        refine at_iconst (v := (-1)) C dX9_tell_148 (by decide) ?_
        exact ret _ _ _ _ dX9_tell_149 h
    · replace h := h.2 hc
      refine at_iload C dX9_tell_91 6 rfl ?_
      refine at_aload_n C dX9_tell_93 0 rfl ?_
      refine gM_X9_32 C dX9_tell_94 ?_
      refine at_iload C dX9_tell_97 7 rfl ?_
      obtain ⟨hi, h⟩ := h
      refine rM_5 C hi dX9_tell_99 ?_
      refine at_iload_n C dX9_tell_100 1 rfl ?_
      refine at_icmp_ne (tgt := 131) C dX9_tell_101 (by decide) (fun hc => ?_) (fun hc => ?_)
      · replace h := h.1 hc
        refine at_sub [0, 1, 2, 3, 4, 5, 7] rfl ?_
        exact t131 R82 hR82 _ _ _ _ _ _ _ _ h
      · replace h := h.2 hc
        refine at_aload_n C dX9_tell_104 0 rfl ?_
        refine gM_X9_35 C dX9_tell_105 ?_
        refine at_iload C dX9_tell_108 7 rfl ?_
        obtain ⟨hi, h⟩ := h
        refine rM_6 C hi dX9_tell_110 ?_
        refine at_iload_n C dX9_tell_111 2 rfl ?_
        refine at_icmp_ne (tgt := 131) C dX9_tell_112 (by decide) (fun hc => ?_) (fun hc => ?_)
        · replace h := h.1 hc
          refine at_sub [0, 1, 2, 3, 4, 5, 7] rfl ?_
          exact t131 R82 hR82 _ _ _ _ _ _ _ _ h
        · replace h := h.2 hc
          refine at_aload_n C dX9_tell_115 0 rfl ?_
          refine gM_X9_41 C dX9_tell_116 ?_
          refine at_iload C dX9_tell_119 7 rfl ?_
          obtain ⟨hi, h⟩ := h
          refine rM_8 C hi dX9_tell_121 ?_
          refine at_iload C dX9_tell_122 4 rfl ?_
          refine at_icmp_ne (tgt := 131) C dX9_tell_124 (by decide) (fun hc => ?_) (fun hc => ?_)
          · replace h := h.1 hc
            refine at_sub [0, 1, 2, 3, 4, 5, 7] rfl ?_
            exact t131 R82 hR82 _ _ _ _ _ _ _ _ h
          · replace h := h.2 hc
            refine at_iconst (v := 1) C dX9_tell_127 (by decide) ?_
            refine at_goto (tgt := 132) C dX9_tell_128 (by decide) ?_
            refine at_sub [0, 1, 2, 3, 4, 5, 7] rfl ?_
            exact t132 R82 hR82 _ _ _ _ _ _ _ _ _ h
  have t82 : ∀ (n : Nat) (v1 : Int32) (v2 : Int32) (v3 : Int32) (v4 : Int32) (v5 : Int32) (v6 : Int32) (v7 : Int32) (u : SM), qX9_tell_l82  Q n v1 v2 v3 v4 v5 v6 v7 u → At X 8 (wM T ad u) 82 [(0, .ref (ad 0)), (1, .int v1), (2, .int v2), (3, .int v3), (4, .int v4), (5, .int v5), (6, .int v6), (7, .int v7)] [] := by
    intro  n
    induction n with
    | zero => intro v1 v2 v3 v4 v5 v6 v7 u h; exact False.elim h
    | succ n ih => intro v1 v2 v3 v4 v5 v6 v7 u h; exact tb82 (qX9_tell_l82  Q n) ih v1 v2 v3 v4 v5 v6 v7 u h
  unfold pX9_tell at h
  refine at_aload_n C dX9_tell_0 0 rfl ?_
  refine at_iconst (v := 0) C dX9_tell_1 (by decide) ?_
  refine pM_X9_1 C hD dX9_tell_2 (fun s1 es1 => ?_)
  replace h := h s1 es1
  refine at_iload_n C dX9_tell_5 1 rfl ?_
  refine at_iload_n C dX9_tell_6 2 rfl ?_
  refine at_callSi C (kX9_isDay l D ad T hI _ _ _ _ h) ok_X9_isDay m_X9_113 ms_X9_isDay ⟨rfl, rfl, Nat.le_of_ble_eq_true rfl, Nat.le_of_ble_eq_true rfl⟩ rfl rfl (Nat.le_of_ble_eq_true rfl) dX9_tell_7 (fun r3 s2 h => ?_)
  refine at_if_eq (tgt := 74) C dX9_tell_10 (by decide) (fun hc => ?_) (fun hc => ?_)
  · replace h := h.1 hc
    refine at_iconst (v := (-1)) C dX9_tell_74 (by decide) ?_
    exact ret _ _ _ _ dX9_tell_75 h
  · replace h := h.2 hc
    refine at_iload_n C dX9_tell_13 3 rfl ?_
    refine at_if_lt (tgt := 74) C dX9_tell_14 (by decide) (fun hc => ?_) (fun hc => ?_)
    · replace h := h.1 hc
      refine at_iconst (v := (-1)) C dX9_tell_74 (by decide) ?_
      exact ret _ _ _ _ dX9_tell_75 h
    · replace h := h.2 hc
      refine at_iload_n C dX9_tell_17 3 rfl ?_
      refine at_sipush (v := 599) C dX9_tell_18 (by decide) ?_
      refine at_icmp_gt (tgt := 74) C dX9_tell_21 (by decide) (fun hc => ?_) (fun hc => ?_)
      · replace h := h.1 hc
        refine at_iconst (v := (-1)) C dX9_tell_74 (by decide) ?_
        exact ret _ _ _ _ dX9_tell_75 h
      · replace h := h.2 hc
        refine at_iload C dX9_tell_24 4 rfl ?_
        refine at_if_lt (tgt := 74) C dX9_tell_26 (by decide) (fun hc => ?_) (fun hc => ?_)
        · replace h := h.1 hc
          refine at_iconst (v := (-1)) C dX9_tell_74 (by decide) ?_
          exact ret _ _ _ _ dX9_tell_75 h
        · replace h := h.2 hc
          refine at_iload C dX9_tell_29 4 rfl ?_
          refine at_aload_n C dX9_tell_31 0 rfl ?_
          refine gM_X9_100 C dX9_tell_32 ?_
          refine at_icmp_ge (tgt := 74) C dX9_tell_35 (by decide) (fun hc => ?_) (fun hc => ?_)
          · replace h := h.1 hc
            refine at_iconst (v := (-1)) C dX9_tell_74 (by decide) ?_
            exact ret _ _ _ _ dX9_tell_75 h
          · replace h := h.2 hc
            refine at_aload_n C dX9_tell_38 0 rfl ?_
            refine at_iload C dX9_tell_39 5 rfl ?_
            refine at_callVi C (kX9_isKind l D ad T hI _ _ _ h) ok_X9_isKind m_X9_106 mi_X9_isKind ml_X9_isKind (wM_g0 T ad _) rfl ⟨rfl, rfl, Nat.le_of_ble_eq_true rfl, Nat.le_of_ble_eq_true rfl⟩ rfl rfl (Nat.le_of_ble_eq_true rfl) dX9_tell_41 (fun r5 s4 h => ?_)
            refine at_if_eq (tgt := 74) C dX9_tell_44 (by decide) (fun hc => ?_) (fun hc => ?_)
            · replace h := h.1 hc
              refine at_iconst (v := (-1)) C dX9_tell_74 (by decide) ?_
              exact ret _ _ _ _ dX9_tell_75 h
            · replace h := h.2 hc
              refine at_aload_n C dX9_tell_47 0 rfl ?_
              refine gM_X9_103 C dX9_tell_48 ?_
              refine at_sipush (v := 300) C dX9_tell_51 (by decide) ?_
              refine at_icmp_eq (tgt := 74) C dX9_tell_54 (by decide) (fun hc => ?_) (fun hc => ?_)
              · replace h := h.1 hc
                refine at_iconst (v := (-1)) C dX9_tell_74 (by decide) ?_
                exact ret _ _ _ _ dX9_tell_75 h
              · replace h := h.2 hc
                refine at_aload_n C dX9_tell_57 0 rfl ?_
                refine gM_X9_50 C dX9_tell_58 ?_
                refine at_iload_n C dX9_tell_61 1 rfl ?_
                refine at_iload_n C dX9_tell_62 2 rfl ?_
                refine at_iload_n C dX9_tell_63 3 rfl ?_
                refine at_bipush (v := 60) C dX9_tell_64 (by decide) ?_
                refine at_idiv C dX9_tell_66 (by decide) ?_
                refine at_callSi C (kX9_hourOf l D ad T hI _ _ _ _ _ h) ok_X9_hourOf m_X9_117 ms_X9_hourOf ⟨rfl, rfl, Nat.le_of_ble_eq_true rfl, Nat.le_of_ble_eq_true rfl⟩ rfl rfl (Nat.le_of_ble_eq_true rfl) dX9_tell_67 (fun r7 s6 h => ?_)
                obtain ⟨hi, h⟩ := h
                refine rM_11 C hi dX9_tell_70 ?_
                refine at_if_eq (tgt := 76) C dX9_tell_71 (by decide) (fun hc => ?_) (fun hc => ?_)
                · replace h := h.1 hc
                  refine at_iconst (v := 0) C dX9_tell_76 (by decide) ?_
                  refine at_istore (lv' := [(0, .ref (ad 0)), (1, .int v1), (2, .int v2), (3, .int v3), (4, .int v4), (5, .int v5), (6, .int 0)]) C dX9_tell_77 (by decide) [1, 2, 3, 4, 5, 6, 0] rfl ?_
                  refine at_iconst (v := 0) C dX9_tell_79 (by decide) ?_
                  refine at_istore (lv' := [(0, .ref (ad 0)), (1, .int v1), (2, .int v2), (3, .int v3), (4, .int v4), (5, .int v5), (6, .int 0), (7, .int 0)]) C dX9_tell_80 (by decide) [1, 2, 3, 4, 5, 6, 7, 0] rfl ?_
                  obtain ⟨n, h⟩ := h
                  exact t82  n _ _ _ _ _ _ _ _ h
                · replace h := h.2 hc
                  refine at_iconst (v := (-1)) C dX9_tell_74 (by decide) ?_
                  exact ret _ _ _ _ dX9_tell_75 h
def qX9_off_96 (R44 : Int32 → Int32 → Int32 → Int32 → Int32 → SM → Prop) (Q : Int32 → SM → Prop) (v1 : Int32) (v2 : Int32) (v3 : Int32) (v4 : Int32) (v5 : Int32) (u : SM) : Prop := ∀ x9 : Int32, x9 = v5 + 1 → R44 v1 v2 v3 v4 x9 u
def qX9_off_102  (Q : Int32 → SM → Prop) (v1 : Int32) (v2 : Int32) (v3 : Int32) (v4 : Int32) (u : SM) : Prop := (pX9_hourOf v1 v2 v3 u (fun r7 s6 => (vp_in r7 1800 ∧ ∀ s8 : SM, s8 = (st_up s6.1 11 (Int32.toNatClampNeg r7) (vp_nar .boolean v4), s6.2) → (Q 1 s8))))
def qX9_off_44 (R44 : Int32 → Int32 → Int32 → Int32 → Int32 → SM → Prop) (Q : Int32 → SM → Prop) (v1 : Int32) (v2 : Int32) (v3 : Int32) (v4 : Int32) (v5 : Int32) (u : SM) : Prop := (((u.1 0 9) ≤ v5 → (qX9_off_102  Q v1 v2 v3 v4 u)) ∧ (¬ (u.1 0 9) ≤ v5 → ((v4 = 0 → (qX9_off_102  Q v1 v2 v3 v4 u)) ∧ (¬ v4 = 0 → (vp_in v5 300 ∧ ((¬ (u.1 5 (Int32.toNatClampNeg v5)) = v1 → (qX9_off_96 R44 Q v1 v2 v3 v4 v5 u)) ∧ ((u.1 5 (Int32.toNatClampNeg v5)) = v1 → (vp_in v5 300 ∧ ((¬ (u.1 6 (Int32.toNatClampNeg v5)) = v2 → (qX9_off_96 R44 Q v1 v2 v3 v4 v5 u)) ∧ ((u.1 6 (Int32.toNatClampNeg v5)) = v2 → (vp_in v5 300 ∧ ((¬ ((u.1 7 (Int32.toNatClampNeg v5)) / 60) = v3 → (qX9_off_96 R44 Q v1 v2 v3 v4 v5 u)) ∧ (((u.1 7 (Int32.toNatClampNeg v5)) / 60) = v3 → (Q 0 u))))))))))))))
def qX9_off_l44  (Q : Int32 → SM → Prop) : Nat → Int32 → Int32 → Int32 → Int32 → Int32 → SM → Prop
  | 0 => fun _ _ _ _ _ _ => False
  | n + 1 => qX9_off_44 (qX9_off_l44  Q n) Q
def pX9_off (v1 : Int32) (v2 : Int32) (v3 : Int32) (v4 : Int32) (u : SM) (Q : Int32 → SM → Prop) : Prop := ∀ s1 : SM, s1 = (st_up u.1 0 0 0, u.2) → (pX9_isDay v1 v2 s1 (fun r3 s2 => ((r3 = 0 → (Q 0 s2)) ∧ (¬ r3 = 0 → ((v3 < 0 → (Q 0 s2)) ∧ (¬ v3 < 0 → ((9 < v3 → (Q 0 s2)) ∧ (¬ 9 < v3 → (pX9_hourOf v1 v2 v3 s2 (fun r5 s4 => (vp_in r5 1800 ∧ ((¬ (s4.1 11 (Int32.toNatClampNeg r5)) = v4 → (∃ n, qX9_off_l44  Q n v1 v2 v3 v4 0 s4)) ∧ ((s4.1 11 (Int32.toNatClampNeg r5)) = v4 → (Q 0 s4))))))))))))))
set_option maxRecDepth 100000 in
set_option maxHeartbeats 4000000 in
theorem kX9_off (l : Launch) (D : va_G) (ad : Nat → Nat) (T : TT) (hI : injA 27 ad) (v1 : Int32) (v2 : Int32) (v3 : Int32) (v4 : Int32) (u : SM) (Q : Int32 → SM → Prop) (h : pX9_off v1 v2 v3 v4 u Q) : Ki (KM l D ad T) (wM T ad) yX9_off cX9_off 6 (some .boolean) { frames := 1, cells := 0, slots := 0, locals := 22 } [.ref (ad 0), .int v1, .int v2, .int v3, .int v4] (wM T ad u) Q := by
  refine st_MZ (fr := 1) (lo := 22) (by decide) ⟨rfl, rfl⟩ rfl (Nat.le_of_ble_eq_true rfl) rfl (fun X C hD ret => ?_)
  replace hD : ∀ u, DX X (wM T ad u) := fun u => hD _ (wM_D hI T u)
  have t96 : ∀ (R44 : Int32 → Int32 → Int32 → Int32 → Int32 → SM → Prop) (hR44 : ∀ (v1 : Int32) (v2 : Int32) (v3 : Int32) (v4 : Int32) (v5 : Int32) (u : SM), R44 v1 v2 v3 v4 v5 u → At X 6 (wM T ad u) 44 [(0, .ref (ad 0)), (1, .int v1), (2, .int v2), (3, .int v3), (4, .int v4), (5, .int v5)] []) (v1 : Int32) (v2 : Int32) (v3 : Int32) (v4 : Int32) (v5 : Int32) (u : SM), qX9_off_96 R44 Q v1 v2 v3 v4 v5 u → At X 6 (wM T ad u) 96 [(0, .ref (ad 0)), (1, .int v1), (2, .int v2), (3, .int v3), (4, .int v4), (5, .int v5)] [] := by
    intro R44 hR44 v1 v2 v3 v4 v5 u h
    unfold qX9_off_96 at h
    obtain ⟨x9, ex9⟩ : ∃ y : Int32, y = v5 + 1 := ⟨_, rfl⟩
    replace h := h x9 ex9
    refine at_iinc (v := x9) (lv' := [(0, .ref (ad 0)), (1, .int v1), (2, .int v2), (3, .int v3), (4, .int v4), (5, .int x9)]) C dX9_off_96 5 rfl (by rw [ex9]; rfl) (by decide) [1, 2, 3, 4, 5, 0] rfl ?_
    refine at_goto (tgt := 44) C dX9_off_99 (by decide) ?_
    exact hR44 _ _ _ _ _ _ h
  have t102 : ∀ (v1 : Int32) (v2 : Int32) (v3 : Int32) (v4 : Int32) (u : SM), qX9_off_102  Q v1 v2 v3 v4 u → At X 6 (wM T ad u) 102 [(0, .ref (ad 0)), (1, .int v1), (2, .int v2), (3, .int v3), (4, .int v4)] [] := by
    intro v1 v2 v3 v4 u h
    unfold qX9_off_102 at h
    refine at_aload_n C dX9_off_102 0 rfl ?_
    refine gM_X9_50 C dX9_off_103 ?_
    refine at_iload_n C dX9_off_106 1 rfl ?_
    refine at_iload_n C dX9_off_107 2 rfl ?_
    refine at_iload_n C dX9_off_108 3 rfl ?_
    refine at_callSi C (kX9_hourOf l D ad T hI _ _ _ _ _ h) ok_X9_hourOf m_X9_117 ms_X9_hourOf ⟨rfl, rfl, Nat.le_of_ble_eq_true rfl, Nat.le_of_ble_eq_true rfl⟩ rfl rfl (Nat.le_of_ble_eq_true rfl) dX9_off_109 (fun r7 s6 h => ?_)
    refine at_iload C dX9_off_112 4 rfl ?_
    obtain ⟨hi, h⟩ := h
    refine sM_11 C hD hi dX9_off_114 (fun s8 es8 => ?_)
    replace h := h s8 es8
    refine at_iconst (v := 1) C dX9_off_115 (by decide) ?_
    exact ret _ _ _ _ dX9_off_116 rfl h
  have tb44 : ∀ (R44 : Int32 → Int32 → Int32 → Int32 → Int32 → SM → Prop) (hR44 : ∀ (v1 : Int32) (v2 : Int32) (v3 : Int32) (v4 : Int32) (v5 : Int32) (u : SM), R44 v1 v2 v3 v4 v5 u → At X 6 (wM T ad u) 44 [(0, .ref (ad 0)), (1, .int v1), (2, .int v2), (3, .int v3), (4, .int v4), (5, .int v5)] []) (v1 : Int32) (v2 : Int32) (v3 : Int32) (v4 : Int32) (v5 : Int32) (u : SM), qX9_off_44 R44 Q v1 v2 v3 v4 v5 u → At X 6 (wM T ad u) 44 [(0, .ref (ad 0)), (1, .int v1), (2, .int v2), (3, .int v3), (4, .int v4), (5, .int v5)] [] := by
    intro R44 hR44 v1 v2 v3 v4 v5 u h
    unfold qX9_off_44 at h
    refine at_iload C dX9_off_44 5 rfl ?_
    refine at_aload_n C dX9_off_46 0 rfl ?_
    refine gM_X9_103 C dX9_off_47 ?_
    refine at_icmp_ge (tgt := 102) C dX9_off_50 (by decide) (fun hc => ?_) (fun hc => ?_)
    · replace h := h.1 hc
      refine at_sub [0, 1, 2, 3, 4] rfl ?_
      exact t102  _ _ _ _ _ h
    · replace h := h.2 hc
      refine at_iload C dX9_off_53 4 rfl ?_
      refine at_if_eq (tgt := 102) C dX9_off_55 (by decide) (fun hc => ?_) (fun hc => ?_)
      · replace h := h.1 hc
        refine at_sub [0, 1, 2, 3, 4] rfl ?_
        exact t102  _ _ _ _ _ h
      · replace h := h.2 hc
        refine at_aload_n C dX9_off_58 0 rfl ?_
        refine gM_X9_32 C dX9_off_59 ?_
        refine at_iload C dX9_off_62 5 rfl ?_
        obtain ⟨hi, h⟩ := h
        refine rM_5 C hi dX9_off_64 ?_
        refine at_iload_n C dX9_off_65 1 rfl ?_
        refine at_icmp_ne (tgt := 96) C dX9_off_66 (by decide) (fun hc => ?_) (fun hc => ?_)
        · replace h := h.1 hc
          exact t96 R44 hR44 _ _ _ _ _ _ h
        · replace h := h.2 hc
          refine at_aload_n C dX9_off_69 0 rfl ?_
          refine gM_X9_35 C dX9_off_70 ?_
          refine at_iload C dX9_off_73 5 rfl ?_
          obtain ⟨hi, h⟩ := h
          refine rM_6 C hi dX9_off_75 ?_
          refine at_iload_n C dX9_off_76 2 rfl ?_
          refine at_icmp_ne (tgt := 96) C dX9_off_77 (by decide) (fun hc => ?_) (fun hc => ?_)
          · replace h := h.1 hc
            exact t96 R44 hR44 _ _ _ _ _ _ h
          · replace h := h.2 hc
            refine at_aload_n C dX9_off_80 0 rfl ?_
            refine gM_X9_38 C dX9_off_81 ?_
            refine at_iload C dX9_off_84 5 rfl ?_
            obtain ⟨hi, h⟩ := h
            refine rM_7 C hi dX9_off_86 ?_
            refine at_bipush (v := 60) C dX9_off_87 (by decide) ?_
            refine at_idiv C dX9_off_89 (by decide) ?_
            refine at_iload_n C dX9_off_90 3 rfl ?_
            refine at_icmp_ne (tgt := 96) C dX9_off_91 (by decide) (fun hc => ?_) (fun hc => ?_)
            · replace h := h.1 hc
              exact t96 R44 hR44 _ _ _ _ _ _ h
            · replace h := h.2 hc
              refine at_iconst (v := 0) C dX9_off_94 (by decide) ?_
              exact ret _ _ _ _ dX9_off_95 rfl h
  have t44 : ∀ (n : Nat) (v1 : Int32) (v2 : Int32) (v3 : Int32) (v4 : Int32) (v5 : Int32) (u : SM), qX9_off_l44  Q n v1 v2 v3 v4 v5 u → At X 6 (wM T ad u) 44 [(0, .ref (ad 0)), (1, .int v1), (2, .int v2), (3, .int v3), (4, .int v4), (5, .int v5)] [] := by
    intro  n
    induction n with
    | zero => intro v1 v2 v3 v4 v5 u h; exact False.elim h
    | succ n ih => intro v1 v2 v3 v4 v5 u h; exact tb44 (qX9_off_l44  Q n) ih v1 v2 v3 v4 v5 u h
  unfold pX9_off at h
  refine at_aload_n C dX9_off_0 0 rfl ?_
  refine at_iconst (v := 0) C dX9_off_1 (by decide) ?_
  refine pM_X9_1 C hD dX9_off_2 (fun s1 es1 => ?_)
  replace h := h s1 es1
  refine at_iload_n C dX9_off_5 1 rfl ?_
  refine at_iload_n C dX9_off_6 2 rfl ?_
  refine at_callSi C (kX9_isDay l D ad T hI _ _ _ _ h) ok_X9_isDay m_X9_113 ms_X9_isDay ⟨rfl, rfl, Nat.le_of_ble_eq_true rfl, Nat.le_of_ble_eq_true rfl⟩ rfl rfl (Nat.le_of_ble_eq_true rfl) dX9_off_7 (fun r3 s2 h => ?_)
  refine at_if_eq (tgt := 39) C dX9_off_10 (by decide) (fun hc => ?_) (fun hc => ?_)
  · replace h := h.1 hc
    refine at_iconst (v := 0) C dX9_off_39 (by decide) ?_
    exact ret _ _ _ _ dX9_off_40 rfl h
  · replace h := h.2 hc
    refine at_iload_n C dX9_off_13 3 rfl ?_
    refine at_if_lt (tgt := 39) C dX9_off_14 (by decide) (fun hc => ?_) (fun hc => ?_)
    · replace h := h.1 hc
      refine at_iconst (v := 0) C dX9_off_39 (by decide) ?_
      exact ret _ _ _ _ dX9_off_40 rfl h
    · replace h := h.2 hc
      refine at_iload_n C dX9_off_17 3 rfl ?_
      refine at_bipush (v := 9) C dX9_off_18 (by decide) ?_
      refine at_icmp_gt (tgt := 39) C dX9_off_20 (by decide) (fun hc => ?_) (fun hc => ?_)
      · replace h := h.1 hc
        refine at_iconst (v := 0) C dX9_off_39 (by decide) ?_
        exact ret _ _ _ _ dX9_off_40 rfl h
      · replace h := h.2 hc
        refine at_aload_n C dX9_off_23 0 rfl ?_
        refine gM_X9_50 C dX9_off_24 ?_
        refine at_iload_n C dX9_off_27 1 rfl ?_
        refine at_iload_n C dX9_off_28 2 rfl ?_
        refine at_iload_n C dX9_off_29 3 rfl ?_
        refine at_callSi C (kX9_hourOf l D ad T hI _ _ _ _ _ h) ok_X9_hourOf m_X9_117 ms_X9_hourOf ⟨rfl, rfl, Nat.le_of_ble_eq_true rfl, Nat.le_of_ble_eq_true rfl⟩ rfl rfl (Nat.le_of_ble_eq_true rfl) dX9_off_30 (fun r5 s4 h => ?_)
        obtain ⟨hi, h⟩ := h
        refine rM_11 C hi dX9_off_33 ?_
        refine at_iload C dX9_off_34 4 rfl ?_
        refine at_icmp_ne (tgt := 41) C dX9_off_36 (by decide) (fun hc => ?_) (fun hc => ?_)
        · replace h := h.1 hc
          refine at_iconst (v := 0) C dX9_off_41 (by decide) ?_
          refine at_istore (lv' := [(0, .ref (ad 0)), (1, .int v1), (2, .int v2), (3, .int v3), (4, .int v4), (5, .int 0)]) C dX9_off_42 (by decide) [1, 2, 3, 4, 5, 0] rfl ?_
          obtain ⟨n, h⟩ := h
          exact t44  n _ _ _ _ _ _ h
        · replace h := h.2 hc
          refine at_iconst (v := 0) C dX9_off_39 (by decide) ?_
          exact ret _ _ _ _ dX9_off_40 rfl h
theorem m_X9_54 : Cond.fieldLink RX9 54 RX9 "winds" "[I" ∈ gW := gW_in 764 (by decide +kernel) (by decide +kernel)
theorem gM_X9_54 {X : XT} {l : Launch} {D : va_G} {ad : Nat → Nat} {T : TT} {cc : ByteArray} {nL fr lo : Nat} {u : SM} {pc : Nat} {lv : List (Nat × Value)} {st : List Value} (C : Cx X (KM l D ad T) cc RX9 nL fr lo) (d : decode cc pc = .ok (.getfield 54, 3)) (kk : At X nL (wM T ad u) (pc + 3) lv (.ref (ad 12) :: st)) : At X nL (wM T ad u) pc lv (.ref (ad 0) :: st) := at_get C ingX9 (ci := 9) rfl 0 (wM_g0 T ad u) 17 (by decide) m_X9_54 rfl rfl d kk
def pX9_wind (v1 : Int32) (v2 : Int32) (v3 : Int32) (u : SM) (Q : Int32 → SM → Prop) : Prop := ∀ s1 : SM, s1 = (st_up u.1 0 0 0, u.2) → (pX9_isDay v1 v2 s1 (fun r3 s2 => ((r3 = 0 → (Q 0 s2)) ∧ (¬ r3 = 0 → ((v3 < 0 → (Q 0 s2)) ∧ (¬ v3 < 0 → ((v3 ≤ 3 → (vp_in ((30 * v1) + v2) 180 ∧ ∀ s4 : SM, s4 = (st_up s2.1 12 (Int32.toNatClampNeg ((30 * v1) + v2)) v3, s2.2) → (Q 1 s4))) ∧ (¬ v3 ≤ 3 → (Q 0 s2)))))))))
set_option maxRecDepth 100000 in
set_option maxHeartbeats 4000000 in
theorem kX9_wind (l : Launch) (D : va_G) (ad : Nat → Nat) (T : TT) (hI : injA 27 ad) (v1 : Int32) (v2 : Int32) (v3 : Int32) (u : SM) (Q : Int32 → SM → Prop) (h : pX9_wind v1 v2 v3 u Q) : Ki (KM l D ad T) (wM T ad) yX9_wind cX9_wind 4 (some .boolean) { frames := 1, cells := 0, slots := 0, locals := 21 } [.ref (ad 0), .int v1, .int v2, .int v3] (wM T ad u) Q := by
  refine st_MZ (fr := 1) (lo := 21) (by decide) ⟨rfl, rfl⟩ rfl (Nat.le_of_ble_eq_true rfl) rfl (fun X C hD ret => ?_)
  replace hD : ∀ u, DX X (wM T ad u) := fun u => hD _ (wM_D hI T u)
  unfold pX9_wind at h
  refine at_aload_n C dX9_wind_0 0 rfl ?_
  refine at_iconst (v := 0) C dX9_wind_1 (by decide) ?_
  refine pM_X9_1 C hD dX9_wind_2 (fun s1 es1 => ?_)
  replace h := h s1 es1
  refine at_iload_n C dX9_wind_5 1 rfl ?_
  refine at_iload_n C dX9_wind_6 2 rfl ?_
  refine at_callSi C (kX9_isDay l D ad T hI _ _ _ _ h) ok_X9_isDay m_X9_113 ms_X9_isDay ⟨rfl, rfl, Nat.le_of_ble_eq_true rfl, Nat.le_of_ble_eq_true rfl⟩ rfl rfl (Nat.le_of_ble_eq_true rfl) dX9_wind_7 (fun r3 s2 h => ?_)
  refine at_if_eq (tgt := 22) C dX9_wind_10 (by decide) (fun hc => ?_) (fun hc => ?_)
  · replace h := h.1 hc
    refine at_iconst (v := 0) C dX9_wind_22 (by decide) ?_
    exact ret _ _ _ _ dX9_wind_23 rfl h
  · replace h := h.2 hc
    refine at_iload_n C dX9_wind_13 3 rfl ?_
    refine at_if_lt (tgt := 22) C dX9_wind_14 (by decide) (fun hc => ?_) (fun hc => ?_)
    · replace h := h.1 hc
      refine at_iconst (v := 0) C dX9_wind_22 (by decide) ?_
      exact ret _ _ _ _ dX9_wind_23 rfl h
    · replace h := h.2 hc
      refine at_iload_n C dX9_wind_17 3 rfl ?_
      refine at_iconst (v := 3) C dX9_wind_18 (by decide) ?_
      refine at_icmp_le (tgt := 24) C dX9_wind_19 (by decide) (fun hc => ?_) (fun hc => ?_)
      · replace h := h.1 hc
        refine at_aload_n C dX9_wind_24 0 rfl ?_
        refine gM_X9_54 C dX9_wind_25 ?_
        refine at_bipush (v := 30) C dX9_wind_28 (by decide) ?_
        refine at_iload_n C dX9_wind_30 1 rfl ?_
        refine at_imul C dX9_wind_31 ?_
        refine at_iload_n C dX9_wind_32 2 rfl ?_
        refine at_iadd C dX9_wind_33 ?_
        refine at_iload_n C dX9_wind_34 3 rfl ?_
        obtain ⟨hi, h⟩ := h
        refine sM_12 C hD hi dX9_wind_35 (fun s4 es4 => ?_)
        replace h := h s4 es4
        refine at_iconst (v := 1) C dX9_wind_36 (by decide) ?_
        exact ret _ _ _ _ dX9_wind_37 rfl h
      · replace h := h.2 hc
        refine at_iconst (v := 0) C dX9_wind_22 (by decide) ?_
        exact ret _ _ _ _ dX9_wind_23 rfl h
theorem m_X9_29 : Cond.fieldLink RX9 29 RX9 "asOf" "I" ∈ gW := gW_in 755 (by decide +kernel) (by decide +kernel)
theorem pM_X9_29 {X : XT} {l : Launch} {D : va_G} {ad : Nat → Nat} {T : TT} {cc : ByteArray} {nL fr lo : Nat} {u : SM} {pc : Nat} {lv : List (Nat × Value)} {st : List Value} {x : Int32} (C : Cx X (KM l D ad T) cc RX9 nL fr lo) (hD : ∀ u, DX X (wM T ad u)) (d : decode cc pc = .ok (.putfield 29, 3)) (kk : ∀ u2 : SM, u2 = (st_up u.1 0 8 x, u.2) → At X nL (wM T ad u2) (pc + 3) lv st) : At X nL (wM T ad u) pc lv (.int x :: .ref (ad 0) :: st) := at_puti C ingX9 tyX9 tyX9_ok nmX9 (ci := 9) rfl (hD u) 0 (wM_g0 T ad u) 8 (by decide) m_X9_29 rfl rfl (by decide +kernel) (Nat.le_of_ble_eq_true rfl) rfl d (kk _ rfl)
def pX9_known (v1 : Int32) (u : SM) (Q : Int32 → SM → Prop) : Prop := ∀ s1 : SM, s1 = (st_up u.1 0 0 0, u.2) → ((v1 < (-1) → (Q 0 s1)) ∧ (¬ v1 < (-1) → ((v1 ≤ (s1.1 0 7) → ∀ s2 : SM, s2 = (st_up s1.1 0 8 v1, s1.2) → (Q 1 s2)) ∧ (¬ v1 ≤ (s1.1 0 7) → (Q 0 s1)))))
set_option maxRecDepth 100000 in
set_option maxHeartbeats 4000000 in
theorem kX9_known (l : Launch) (D : va_G) (ad : Nat → Nat) (T : TT) (hI : injA 27 ad) (v1 : Int32) (u : SM) (Q : Int32 → SM → Prop) (h : pX9_known v1 u Q) : Ki (KM l D ad T) (wM T ad) yX9_known cX9_known 2 (some .boolean) { frames := 0, cells := 0, slots := 0, locals := 0 } [.ref (ad 0), .int v1] (wM T ad u) Q := by
  refine st_MZ (fr := 0) (lo := 0) (by decide) ⟨rfl, rfl⟩ rfl (Nat.le_of_ble_eq_true rfl) rfl (fun X C hD ret => ?_)
  replace hD : ∀ u, DX X (wM T ad u) := fun u => hD _ (wM_D hI T u)
  unfold pX9_known at h
  refine at_aload_n C dX9_known_0 0 rfl ?_
  refine at_iconst (v := 0) C dX9_known_1 (by decide) ?_
  refine pM_X9_1 C hD dX9_known_2 (fun s1 es1 => ?_)
  replace h := h s1 es1
  refine at_iload_n C dX9_known_5 1 rfl ?_
  refine at_iconst (v := (-1)) C dX9_known_6 (by decide) ?_
  refine at_icmp_lt (tgt := 18) C dX9_known_7 (by decide) (fun hc => ?_) (fun hc => ?_)
  · replace h := h.1 hc
    refine at_iconst (v := 0) C dX9_known_18 (by decide) ?_
    exact ret _ _ _ _ dX9_known_19 rfl h
  · replace h := h.2 hc
    refine at_iload_n C dX9_known_10 1 rfl ?_
    refine at_aload_n C dX9_known_11 0 rfl ?_
    refine gM_X9_110 C dX9_known_12 ?_
    refine at_icmp_le (tgt := 20) C dX9_known_15 (by decide) (fun hc => ?_) (fun hc => ?_)
    · replace h := h.1 hc
      refine at_aload_n C dX9_known_20 0 rfl ?_
      refine at_iload_n C dX9_known_21 1 rfl ?_
      refine pM_X9_29 C hD dX9_known_22 (fun s2 es2 => ?_)
      replace h := h s2 es2
      refine at_iconst (v := 1) C dX9_known_25 (by decide) ?_
      exact ret _ _ _ _ dX9_known_26 rfl h
    · replace h := h.2 hc
      refine at_iconst (v := 0) C dX9_known_18 (by decide) ?_
      exact ret _ _ _ _ dX9_known_19 rfl h
def qX9_look_27  (Q : Int32 → SM → Prop) (v1 : Int32) (v2 : Int32) (k0 : Int32) (u : SM) : Prop := ∀ s1 : SM, s1 = (st_up u.1 0 0 k0, u.2) → (((s1.1 0 0) ≤ 0 → ((¬ v2 = 0 → ((¬ v2 = 1 → ((¬ v2 = 2 → ((¬ v2 = 3 → ((¬ v2 = 4 → (vp_in v1 300 ∧ (Q (s1.1 10 (Int32.toNatClampNeg v1)) s1))) ∧ (v2 = 4 → (vp_in v1 300 ∧ (Q (s1.1 9 (Int32.toNatClampNeg v1)) s1))))) ∧ (v2 = 3 → (vp_in v1 300 ∧ (Q (s1.1 8 (Int32.toNatClampNeg v1)) s1))))) ∧ (v2 = 2 → (vp_in v1 300 ∧ (Q (s1.1 7 (Int32.toNatClampNeg v1)) s1))))) ∧ (v2 = 1 → (vp_in v1 300 ∧ (Q (s1.1 6 (Int32.toNatClampNeg v1)) s1))))) ∧ (v2 = 0 → (vp_in v1 300 ∧ (Q (s1.1 5 (Int32.toNatClampNeg v1)) s1))))) ∧ (¬ (s1.1 0 0) ≤ 0 → (Q 0 s1)))
def qX9_look_26  (Q : Int32 → SM → Prop) (v1 : Int32) (v2 : Int32) (u : SM) : Prop := (qX9_look_27  Q v1 v2 1 u)
def pX9_look (v1 : Int32) (v2 : Int32) (u : SM) (Q : Int32 → SM → Prop) : Prop := ((v1 < 0 → (qX9_look_26  Q v1 v2 u)) ∧ (¬ v1 < 0 → (((u.1 0 9) ≤ v1 → (qX9_look_26  Q v1 v2 u)) ∧ (¬ (u.1 0 9) ≤ v1 → ((v2 < 0 → (qX9_look_26  Q v1 v2 u)) ∧ (¬ v2 < 0 → ((5 < v2 → (qX9_look_26  Q v1 v2 u)) ∧ (¬ 5 < v2 → (qX9_look_27  Q v1 v2 0 u)))))))))
set_option maxRecDepth 100000 in
set_option maxHeartbeats 4000000 in
theorem kX9_look (l : Launch) (D : va_G) (ad : Nat → Nat) (T : TT) (hI : injA 27 ad) (v1 : Int32) (v2 : Int32) (u : SM) (Q : Int32 → SM → Prop) (h : pX9_look v1 v2 u Q) : Ki (KM l D ad T) (wM T ad) yX9_look cX9_look 3 (some .int) { frames := 0, cells := 0, slots := 0, locals := 0 } [.ref (ad 0), .int v1, .int v2] (wM T ad u) Q := by
  refine st_MI (fr := 0) (lo := 0) (by decide) ⟨rfl, rfl⟩ rfl (Nat.le_of_ble_eq_true rfl) rfl (fun X C hD ret => ?_)
  replace hD : ∀ u, DX X (wM T ad u) := fun u => hD _ (wM_D hI T u)
  have t27 : ∀ (v1 : Int32) (v2 : Int32) (k0 : Int32) (u : SM), qX9_look_27  Q v1 v2 k0 u → At X 3 (wM T ad u) 27 [(0, .ref (ad 0)), (1, .int v1), (2, .int v2)] [.int k0, .ref (ad 0)] := by
    intro v1 v2 k0 u h
    unfold qX9_look_27 at h
    refine pM_X9_1 C hD dX9_look_27 (fun s1 es1 => ?_)
    replace h := h s1 es1
    refine at_aload_n C dX9_look_30 0 rfl ?_
    refine gM_X9_1 C dX9_look_31 ?_
    refine at_if_le (tgt := 39) C dX9_look_34 (by decide) (fun hc => ?_) (fun hc => ?_)
    · replace h := h.1 hc
      refine at_iload_n C dX9_look_39 2 rfl ?_
      refine at_if_ne (tgt := 52) C dX9_look_40 (by decide) (fun hc => ?_) (fun hc => ?_)
      · replace h := h.1 hc
        refine at_iload_n C dX9_look_52 2 rfl ?_
        refine at_iconst (v := 1) C dX9_look_53 (by decide) ?_
        refine at_icmp_ne (tgt := 66) C dX9_look_54 (by decide) (fun hc => ?_) (fun hc => ?_)
        · replace h := h.1 hc
          refine at_iload_n C dX9_look_66 2 rfl ?_
          refine at_iconst (v := 2) C dX9_look_67 (by decide) ?_
          refine at_icmp_ne (tgt := 80) C dX9_look_68 (by decide) (fun hc => ?_) (fun hc => ?_)
          · replace h := h.1 hc
            refine at_iload_n C dX9_look_80 2 rfl ?_
            refine at_iconst (v := 3) C dX9_look_81 (by decide) ?_
            refine at_icmp_ne (tgt := 94) C dX9_look_82 (by decide) (fun hc => ?_) (fun hc => ?_)
            · replace h := h.1 hc
              refine at_iload_n C dX9_look_94 2 rfl ?_
              refine at_iconst (v := 4) C dX9_look_95 (by decide) ?_
              refine at_icmp_ne (tgt := 108) C dX9_look_96 (by decide) (fun hc => ?_) (fun hc => ?_)
              · replace h := h.1 hc
                refine at_aload_n C dX9_look_108 0 rfl ?_
                refine gM_X9_47 C dX9_look_109 ?_
                refine at_iload_n C dX9_look_112 1 rfl ?_
                obtain ⟨hi, h⟩ := h
                refine rM_10 C hi dX9_look_113 ?_
                exact ret _ _ _ _ dX9_look_114 h
              · replace h := h.2 hc
                refine at_aload_n C dX9_look_99 0 rfl ?_
                refine gM_X9_44 C dX9_look_100 ?_
                refine at_iload_n C dX9_look_103 1 rfl ?_
                obtain ⟨hi, h⟩ := h
                refine rM_9 C hi dX9_look_104 ?_
                refine at_goto (tgt := 114) C dX9_look_105 (by decide) ?_
                exact ret _ _ _ _ dX9_look_114 h
            · replace h := h.2 hc
              refine at_aload_n C dX9_look_85 0 rfl ?_
              refine gM_X9_41 C dX9_look_86 ?_
              refine at_iload_n C dX9_look_89 1 rfl ?_
              obtain ⟨hi, h⟩ := h
              refine rM_8 C hi dX9_look_90 ?_
              refine at_goto (tgt := 114) C dX9_look_91 (by decide) ?_
              exact ret _ _ _ _ dX9_look_114 h
          · replace h := h.2 hc
            refine at_aload_n C dX9_look_71 0 rfl ?_
            refine gM_X9_38 C dX9_look_72 ?_
            refine at_iload_n C dX9_look_75 1 rfl ?_
            obtain ⟨hi, h⟩ := h
            refine rM_7 C hi dX9_look_76 ?_
            refine at_goto (tgt := 114) C dX9_look_77 (by decide) ?_
            exact ret _ _ _ _ dX9_look_114 h
        · replace h := h.2 hc
          refine at_aload_n C dX9_look_57 0 rfl ?_
          refine gM_X9_35 C dX9_look_58 ?_
          refine at_iload_n C dX9_look_61 1 rfl ?_
          obtain ⟨hi, h⟩ := h
          refine rM_6 C hi dX9_look_62 ?_
          refine at_goto (tgt := 114) C dX9_look_63 (by decide) ?_
          exact ret _ _ _ _ dX9_look_114 h
      · replace h := h.2 hc
        refine at_aload_n C dX9_look_43 0 rfl ?_
        refine gM_X9_32 C dX9_look_44 ?_
        refine at_iload_n C dX9_look_47 1 rfl ?_
        obtain ⟨hi, h⟩ := h
        refine rM_5 C hi dX9_look_48 ?_
        refine at_goto (tgt := 114) C dX9_look_49 (by decide) ?_
        exact ret _ _ _ _ dX9_look_114 h
    · replace h := h.2 hc
      refine at_iconst (v := 0) C dX9_look_37 (by decide) ?_
      exact ret _ _ _ _ dX9_look_38 h
  have t26 : ∀ (v1 : Int32) (v2 : Int32) (u : SM), qX9_look_26  Q v1 v2 u → At X 3 (wM T ad u) 26 [(0, .ref (ad 0)), (1, .int v1), (2, .int v2)] [.ref (ad 0)] := by
    intro v1 v2 u h
    unfold qX9_look_26 at h
    refine at_iconst (v := 1) C dX9_look_26 (by decide) ?_
    exact t27  _ _ _ _ h
  unfold pX9_look at h
  refine at_aload_n C dX9_look_0 0 rfl ?_
  refine at_iload_n C dX9_look_1 1 rfl ?_
  refine at_if_lt (tgt := 26) C dX9_look_2 (by decide) (fun hc => ?_) (fun hc => ?_)
  · replace h := h.1 hc
    exact t26  _ _ _ h
  · replace h := h.2 hc
    refine at_iload_n C dX9_look_5 1 rfl ?_
    refine at_aload_n C dX9_look_6 0 rfl ?_
    refine gM_X9_103 C dX9_look_7 ?_
    refine at_icmp_ge (tgt := 26) C dX9_look_10 (by decide) (fun hc => ?_) (fun hc => ?_)
    · replace h := h.1 hc
      exact t26  _ _ _ h
    · replace h := h.2 hc
      refine at_iload_n C dX9_look_13 2 rfl ?_
      refine at_if_lt (tgt := 26) C dX9_look_14 (by decide) (fun hc => ?_) (fun hc => ?_)
      · replace h := h.1 hc
        exact t26  _ _ _ h
      · replace h := h.2 hc
        refine at_iload_n C dX9_look_17 2 rfl ?_
        refine at_iconst (v := 5) C dX9_look_18 (by decide) ?_
        refine at_icmp_gt (tgt := 26) C dX9_look_19 (by decide) (fun hc => ?_) (fun hc => ?_)
        · replace h := h.1 hc
          exact t26  _ _ _ h
        · replace h := h.2 hc
          refine at_iconst (v := 0) C dX9_look_22 (by decide) ?_
          refine at_goto (tgt := 27) C dX9_look_23 (by decide) ?_
          exact t27  _ _ _ _ h
theorem gM_X9_29 {X : XT} {l : Launch} {D : va_G} {ad : Nat → Nat} {T : TT} {cc : ByteArray} {nL fr lo : Nat} {u : SM} {pc : Nat} {lv : List (Nat × Value)} {st : List Value} (C : Cx X (KM l D ad T) cc RX9 nL fr lo) (d : decode cc pc = .ok (.getfield 29, 3)) (kk : At X nL (wM T ad u) (pc + 3) lv (.int (u.1 0 8) :: st)) : At X nL (wM T ad u) pc lv (.ref (ad 0) :: st) := at_get C ingX9 (ci := 9) rfl 0 (wM_g0 T ad u) 8 (by decide) m_X9_29 rfl rfl d kk
def qX9_isLeaf_31 (R4 : Int32 → Int32 → Int32 → SM → Prop) (Q : Int32 → SM → Prop) (v1 : Int32) (v3 : Int32) (k0 : Int32) (u : SM) : Prop := ∀ x1 : Int32, x1 = v3 + 1 → R4 v1 k0 x1 u
def qX9_isLeaf_30 (R4 : Int32 → Int32 → Int32 → SM → Prop) (Q : Int32 → SM → Prop) (v1 : Int32) (v3 : Int32) (u : SM) : Prop := (qX9_isLeaf_31 R4 Q v1 v3 0 u)
def qX9_isLeaf_4 (R4 : Int32 → Int32 → Int32 → SM → Prop) (Q : Int32 → SM → Prop) (v1 : Int32) (v2 : Int32) (v3 : Int32) (u : SM) : Prop := (((u.1 0 3) ≤ v3 → (narrow .boolean (.int v2) = .int v2 ∧ Q v2 u)) ∧ (¬ (u.1 0 3) ≤ v3 → ((v2 = 0 → (qX9_isLeaf_30 R4 Q v1 v3 u)) ∧ (¬ v2 = 0 → (vp_in v3 20 ∧ (((u.1 2 (Int32.toNatClampNeg v3)) = v1 → (qX9_isLeaf_30 R4 Q v1 v3 u)) ∧ (¬ (u.1 2 (Int32.toNatClampNeg v3)) = v1 → (qX9_isLeaf_31 R4 Q v1 v3 1 u))))))))
def qX9_isLeaf_l4  (Q : Int32 → SM → Prop) : Nat → Int32 → Int32 → Int32 → SM → Prop
  | 0 => fun _ _ _ _ => False
  | n + 1 => qX9_isLeaf_4 (qX9_isLeaf_l4  Q n) Q
def pX9_isLeaf (v1 : Int32) (u : SM) (Q : Int32 → SM → Prop) : Prop := (∃ n, qX9_isLeaf_l4  Q n v1 1 0 u)
set_option maxRecDepth 100000 in
set_option maxHeartbeats 4000000 in
theorem kX9_isLeaf (l : Launch) (D : va_G) (ad : Nat → Nat) (T : TT) (hI : injA 27 ad) (v1 : Int32) (u : SM) (Q : Int32 → SM → Prop) (h : pX9_isLeaf v1 u Q) : Ki (KM l D ad T) (wM T ad) yX9_isLeaf cX9_isLeaf 4 (some .boolean) { frames := 0, cells := 0, slots := 0, locals := 0 } [.ref (ad 0), .int v1] (wM T ad u) Q := by
  refine st_MZ (fr := 0) (lo := 0) (by decide) ⟨rfl, rfl⟩ rfl (Nat.le_of_ble_eq_true rfl) rfl (fun X C hD ret => ?_)
  replace hD : ∀ u, DX X (wM T ad u) := fun u => hD _ (wM_D hI T u)
  have t31 : ∀ (R4 : Int32 → Int32 → Int32 → SM → Prop) (hR4 : ∀ (v1 : Int32) (v2 : Int32) (v3 : Int32) (u : SM), R4 v1 v2 v3 u → At X 4 (wM T ad u) 4 [(0, .ref (ad 0)), (1, .int v1), (2, .int v2), (3, .int v3)] []) (v1 : Int32) (v3 : Int32) (k0 : Int32) (u : SM), qX9_isLeaf_31 R4 Q v1 v3 k0 u → At X 4 (wM T ad u) 31 [(0, .ref (ad 0)), (1, .int v1), (3, .int v3)] [.int k0] := by
    intro R4 hR4 v1 v3 k0 u h
    unfold qX9_isLeaf_31 at h
    refine at_istore_n (lv' := [(0, .ref (ad 0)), (1, .int v1), (2, .int k0), (3, .int v3)]) C dX9_isLeaf_31 (by decide) [1, 2, 0, 3] rfl ?_
    obtain ⟨x1, ex1⟩ : ∃ y : Int32, y = v3 + 1 := ⟨_, rfl⟩
    replace h := h x1 ex1
    refine at_iinc (v := x1) (lv' := [(0, .ref (ad 0)), (1, .int v1), (2, .int k0), (3, .int x1)]) C dX9_isLeaf_32 3 rfl (by rw [ex1]; rfl) (by decide) [1, 2, 3, 0] rfl ?_
    refine at_goto (tgt := 4) C dX9_isLeaf_35 (by decide) ?_
    exact hR4 _ _ _ _ h
  have t30 : ∀ (R4 : Int32 → Int32 → Int32 → SM → Prop) (hR4 : ∀ (v1 : Int32) (v2 : Int32) (v3 : Int32) (u : SM), R4 v1 v2 v3 u → At X 4 (wM T ad u) 4 [(0, .ref (ad 0)), (1, .int v1), (2, .int v2), (3, .int v3)] []) (v1 : Int32) (v3 : Int32) (u : SM), qX9_isLeaf_30 R4 Q v1 v3 u → At X 4 (wM T ad u) 30 [(0, .ref (ad 0)), (1, .int v1), (3, .int v3)] [] := by
    intro R4 hR4 v1 v3 u h
    unfold qX9_isLeaf_30 at h
    refine at_iconst (v := 0) C dX9_isLeaf_30 (by decide) ?_
    exact t31 R4 hR4 _ _ _ _ h
  have tb4 : ∀ (R4 : Int32 → Int32 → Int32 → SM → Prop) (hR4 : ∀ (v1 : Int32) (v2 : Int32) (v3 : Int32) (u : SM), R4 v1 v2 v3 u → At X 4 (wM T ad u) 4 [(0, .ref (ad 0)), (1, .int v1), (2, .int v2), (3, .int v3)] []) (v1 : Int32) (v2 : Int32) (v3 : Int32) (u : SM), qX9_isLeaf_4 R4 Q v1 v2 v3 u → At X 4 (wM T ad u) 4 [(0, .ref (ad 0)), (1, .int v1), (2, .int v2), (3, .int v3)] [] := by
    intro R4 hR4 v1 v2 v3 u h
    unfold qX9_isLeaf_4 at h
    refine at_iload_n C dX9_isLeaf_4 3 rfl ?_
    refine at_aload_n C dX9_isLeaf_5 0 rfl ?_
    refine gM_X9_17 C dX9_isLeaf_6 ?_
    refine at_icmp_ge (tgt := 38) C dX9_isLeaf_9 (by decide) (fun hc => ?_) (fun hc => ?_)
    · replace h := h.1 hc
      refine at_iload_n C dX9_isLeaf_38 2 rfl ?_
      exact ret _ _ _ _ dX9_isLeaf_39 h.1 h.2
    · replace h := h.2 hc
      refine at_iload_n C dX9_isLeaf_12 2 rfl ?_
      refine at_if_eq (tgt := 30) C dX9_isLeaf_13 (by decide) (fun hc => ?_) (fun hc => ?_)
      · replace h := h.1 hc
        refine at_sub [0, 1, 3] rfl ?_
        exact t30 R4 hR4 _ _ _ h
      · replace h := h.2 hc
        refine at_aload_n C dX9_isLeaf_16 0 rfl ?_
        refine gM_X9_20 C dX9_isLeaf_17 ?_
        refine at_iload_n C dX9_isLeaf_20 3 rfl ?_
        obtain ⟨hi, h⟩ := h
        refine rM_2 C hi dX9_isLeaf_21 ?_
        refine at_iload_n C dX9_isLeaf_22 1 rfl ?_
        refine at_icmp_eq (tgt := 30) C dX9_isLeaf_23 (by decide) (fun hc => ?_) (fun hc => ?_)
        · replace h := h.1 hc
          refine at_sub [0, 1, 3] rfl ?_
          exact t30 R4 hR4 _ _ _ h
        · replace h := h.2 hc
          refine at_iconst (v := 1) C dX9_isLeaf_26 (by decide) ?_
          refine at_goto (tgt := 31) C dX9_isLeaf_27 (by decide) ?_
          refine at_sub [0, 1, 3] rfl ?_
          exact t31 R4 hR4 _ _ _ _ h
  have t4 : ∀ (n : Nat) (v1 : Int32) (v2 : Int32) (v3 : Int32) (u : SM), qX9_isLeaf_l4  Q n v1 v2 v3 u → At X 4 (wM T ad u) 4 [(0, .ref (ad 0)), (1, .int v1), (2, .int v2), (3, .int v3)] [] := by
    intro  n
    induction n with
    | zero => intro v1 v2 v3 u h; exact False.elim h
    | succ n ih => intro v1 v2 v3 u h; exact tb4 (qX9_isLeaf_l4  Q n) ih v1 v2 v3 u h
  unfold pX9_isLeaf at h
  refine at_iconst (v := 1) C dX9_isLeaf_0 (by decide) ?_
  refine at_istore_n (lv' := [(0, .ref (ad 0)), (1, .int v1), (2, .int 1)]) C dX9_isLeaf_1 (by decide) [1, 2, 0] rfl ?_
  refine at_iconst (v := 0) C dX9_isLeaf_2 (by decide) ?_
  refine at_istore_n (lv' := [(0, .ref (ad 0)), (1, .int v1), (2, .int 1), (3, .int 0)]) C dX9_isLeaf_3 (by decide) [1, 2, 3, 0] rfl ?_
  obtain ⟨n, h⟩ := h
  exact t4  n _ _ _ _ h
theorem m_X9_171 : Cond.methodLink RX9 171 yX9_isLeaf ∈ gW := gW_in 957 (by decide +kernel) (by decide +kernel)
theorem mc_X9_isLeaf : Cond.code yX9_isLeaf cX9_isLeaf 4 (some .boolean) ∈ gW := gW_in 960 (by decide +kernel) (by decide +kernel)
theorem ok_X9_isLeaf : okM yX9_isLeaf cX9_isLeaf 4 (some .boolean) 1 := ⟨mc_X9_isLeaf, mz_RX9, by decide +kernel⟩
theorem mi_X9_isLeaf : Cond.instanceMethod yX9_isLeaf ∈ gW := gW_in 959 (by decide +kernel) (by decide +kernel)
theorem ml_X9_isLeaf : Cond.selects RX9 yX9_isLeaf yX9_isLeaf ∈ gW := gW_in 73 (by decide +kernel) (by decide +kernel)
def qX9_count_31 (R9 : Int32 → Int32 → Int32 → SM → Prop) (Q : Int32 → SM → Prop) (v1 : Int32) (v3 : Int32) (k0 : Int32) (k1 : Int32) (u : SM) : Prop := ∀ x4 : Int32, x4 = (k1 + k0) → ∀ x5 : Int32, x5 = v3 + 1 → R9 v1 x4 x5 u
def qX9_count_9 (R9 : Int32 → Int32 → Int32 → SM → Prop) (Q : Int32 → SM → Prop) (v1 : Int32) (v2 : Int32) (v3 : Int32) (u : SM) : Prop := (((u.1 0 3) ≤ v3 → ((¬ v1 = 0 → ((¬ v1 = 1 → ((¬ v1 = 2 → ((¬ v1 = 3 → ((¬ v1 = 4 → ((¬ v1 = 5 → (Q (-1) u)) ∧ (v1 = 5 → (Q (u.1 0 8) u)))) ∧ (v1 = 4 → (Q v2 u)))) ∧ (v1 = 3 → (Q (u.1 0 9) u)))) ∧ (v1 = 2 → (Q (u.1 0 7) u)))) ∧ (v1 = 1 → (Q (u.1 0 3) u)))) ∧ (v1 = 0 → (Q (u.1 0 1) u)))) ∧ (¬ (u.1 0 3) ≤ v3 → (pX9_isLeaf v3 u (fun r3 s2 => ((r3 = 0 → (qX9_count_31 R9 Q v1 v3 0 v2 s2)) ∧ (¬ r3 = 0 → (qX9_count_31 R9 Q v1 v3 1 v2 s2)))))))
def qX9_count_l9  (Q : Int32 → SM → Prop) : Nat → Int32 → Int32 → Int32 → SM → Prop
  | 0 => fun _ _ _ _ => False
  | n + 1 => qX9_count_9 (qX9_count_l9  Q n) Q
def pX9_count (v1 : Int32) (u : SM) (Q : Int32 → SM → Prop) : Prop := ∀ s1 : SM, s1 = (st_up u.1 0 0 0, u.2) → (∃ n, qX9_count_l9  Q n v1 0 0 s1)
set_option maxRecDepth 100000 in
set_option maxHeartbeats 4000000 in
theorem kX9_count (l : Launch) (D : va_G) (ad : Nat → Nat) (T : TT) (hI : injA 27 ad) (v1 : Int32) (u : SM) (Q : Int32 → SM → Prop) (h : pX9_count v1 u Q) : Ki (KM l D ad T) (wM T ad) yX9_count cX9_count 4 (some .int) { frames := 1, cells := 0, slots := 0, locals := 23 } [.ref (ad 0), .int v1] (wM T ad u) Q := by
  refine st_MI (fr := 1) (lo := 23) (by decide) ⟨rfl, rfl⟩ rfl (Nat.le_of_ble_eq_true rfl) rfl (fun X C hD ret => ?_)
  replace hD : ∀ u, DX X (wM T ad u) := fun u => hD _ (wM_D hI T u)
  have t31 : ∀ (R9 : Int32 → Int32 → Int32 → SM → Prop) (hR9 : ∀ (v1 : Int32) (v2 : Int32) (v3 : Int32) (u : SM), R9 v1 v2 v3 u → At X 4 (wM T ad u) 9 [(0, .ref (ad 0)), (1, .int v1), (2, .int v2), (3, .int v3)] []) (v1 : Int32) (v3 : Int32) (k0 : Int32) (k1 : Int32) (u : SM), qX9_count_31 R9 Q v1 v3 k0 k1 u → At X 4 (wM T ad u) 31 [(0, .ref (ad 0)), (1, .int v1), (3, .int v3)] [.int k0, .int k1] := by
    intro R9 hR9 v1 v3 k0 k1 u h
    unfold qX9_count_31 at h
    refine at_iadd C dX9_count_31 ?_
    refine at_topi (fun x4 ex4 => ?_)
    replace h := h x4 ex4
    refine at_istore_n (lv' := [(0, .ref (ad 0)), (1, .int v1), (2, .int x4), (3, .int v3)]) C dX9_count_32 (by decide) [1, 2, 0, 3] rfl ?_
    obtain ⟨x5, ex5⟩ : ∃ y : Int32, y = v3 + 1 := ⟨_, rfl⟩
    replace h := h x5 ex5
    refine at_iinc (v := x5) (lv' := [(0, .ref (ad 0)), (1, .int v1), (2, .int x4), (3, .int x5)]) C dX9_count_33 3 rfl (by rw [ex5]; rfl) (by decide) [1, 2, 3, 0] rfl ?_
    refine at_goto (tgt := 9) C dX9_count_36 (by decide) ?_
    exact hR9 _ _ _ _ h
  have tb9 : ∀ (R9 : Int32 → Int32 → Int32 → SM → Prop) (hR9 : ∀ (v1 : Int32) (v2 : Int32) (v3 : Int32) (u : SM), R9 v1 v2 v3 u → At X 4 (wM T ad u) 9 [(0, .ref (ad 0)), (1, .int v1), (2, .int v2), (3, .int v3)] []) (v1 : Int32) (v2 : Int32) (v3 : Int32) (u : SM), qX9_count_9 R9 Q v1 v2 v3 u → At X 4 (wM T ad u) 9 [(0, .ref (ad 0)), (1, .int v1), (2, .int v2), (3, .int v3)] [] := by
    intro R9 hR9 v1 v2 v3 u h
    unfold qX9_count_9 at h
    refine at_iload_n C dX9_count_9 3 rfl ?_
    refine at_aload_n C dX9_count_10 0 rfl ?_
    refine gM_X9_17 C dX9_count_11 ?_
    refine at_icmp_ge (tgt := 39) C dX9_count_14 (by decide) (fun hc => ?_) (fun hc => ?_)
    · replace h := h.1 hc
      refine at_iload_n C dX9_count_39 1 rfl ?_
      refine at_if_ne (tgt := 50) C dX9_count_40 (by decide) (fun hc => ?_) (fun hc => ?_)
      · replace h := h.1 hc
        refine at_iload_n C dX9_count_50 1 rfl ?_
        refine at_iconst (v := 1) C dX9_count_51 (by decide) ?_
        refine at_icmp_ne (tgt := 62) C dX9_count_52 (by decide) (fun hc => ?_) (fun hc => ?_)
        · replace h := h.1 hc
          refine at_iload_n C dX9_count_62 1 rfl ?_
          refine at_iconst (v := 2) C dX9_count_63 (by decide) ?_
          refine at_icmp_ne (tgt := 74) C dX9_count_64 (by decide) (fun hc => ?_) (fun hc => ?_)
          · replace h := h.1 hc
            refine at_iload_n C dX9_count_74 1 rfl ?_
            refine at_iconst (v := 3) C dX9_count_75 (by decide) ?_
            refine at_icmp_ne (tgt := 86) C dX9_count_76 (by decide) (fun hc => ?_) (fun hc => ?_)
            · replace h := h.1 hc
              refine at_iload_n C dX9_count_86 1 rfl ?_
              refine at_iconst (v := 4) C dX9_count_87 (by decide) ?_
              refine at_icmp_ne (tgt := 95) C dX9_count_88 (by decide) (fun hc => ?_) (fun hc => ?_)
              · replace h := h.1 hc
                refine at_iload_n C dX9_count_95 1 rfl ?_
                refine at_iconst (v := 5) C dX9_count_96 (by decide) ?_
                refine at_icmp_ne (tgt := 107) C dX9_count_97 (by decide) (fun hc => ?_) (fun hc => ?_)
                · replace h := h.1 hc
                  refine at_iconst (v := (-1)) C dX9_count_107 (by decide) ?_
                  exact ret _ _ _ _ dX9_count_108 h
                · replace h := h.2 hc
                  refine at_aload_n C dX9_count_100 0 rfl ?_
                  refine gM_X9_29 C dX9_count_101 ?_
                  refine at_goto (tgt := 108) C dX9_count_104 (by decide) ?_
                  exact ret _ _ _ _ dX9_count_108 h
              · replace h := h.2 hc
                refine at_iload_n C dX9_count_91 2 rfl ?_
                refine at_goto (tgt := 108) C dX9_count_92 (by decide) ?_
                exact ret _ _ _ _ dX9_count_108 h
            · replace h := h.2 hc
              refine at_aload_n C dX9_count_79 0 rfl ?_
              refine gM_X9_103 C dX9_count_80 ?_
              refine at_goto (tgt := 108) C dX9_count_83 (by decide) ?_
              exact ret _ _ _ _ dX9_count_108 h
          · replace h := h.2 hc
            refine at_aload_n C dX9_count_67 0 rfl ?_
            refine gM_X9_110 C dX9_count_68 ?_
            refine at_goto (tgt := 108) C dX9_count_71 (by decide) ?_
            exact ret _ _ _ _ dX9_count_108 h
        · replace h := h.2 hc
          refine at_aload_n C dX9_count_55 0 rfl ?_
          refine gM_X9_17 C dX9_count_56 ?_
          refine at_goto (tgt := 108) C dX9_count_59 (by decide) ?_
          exact ret _ _ _ _ dX9_count_108 h
      · replace h := h.2 hc
        refine at_aload_n C dX9_count_43 0 rfl ?_
        refine gM_X9_100 C dX9_count_44 ?_
        refine at_goto (tgt := 108) C dX9_count_47 (by decide) ?_
        exact ret _ _ _ _ dX9_count_108 h
    · replace h := h.2 hc
      refine at_iload_n C dX9_count_17 2 rfl ?_
      refine at_aload_n C dX9_count_18 0 rfl ?_
      refine at_iload_n C dX9_count_19 3 rfl ?_
      refine at_callVi C (kX9_isLeaf l D ad T hI _ _ _ h) ok_X9_isLeaf m_X9_171 mi_X9_isLeaf ml_X9_isLeaf (wM_g0 T ad _) rfl ⟨rfl, rfl, Nat.le_of_ble_eq_true rfl, Nat.le_of_ble_eq_true rfl⟩ rfl rfl (Nat.le_of_ble_eq_true rfl) dX9_count_20 (fun r3 s2 h => ?_)
      refine at_if_eq (tgt := 30) C dX9_count_23 (by decide) (fun hc => ?_) (fun hc => ?_)
      · replace h := h.1 hc
        refine at_iconst (v := 0) C dX9_count_30 (by decide) ?_
        refine at_sub [0, 1, 3] rfl ?_
        exact t31 R9 hR9 _ _ _ _ _ h
      · replace h := h.2 hc
        refine at_iconst (v := 1) C dX9_count_26 (by decide) ?_
        refine at_goto (tgt := 31) C dX9_count_27 (by decide) ?_
        refine at_sub [0, 1, 3] rfl ?_
        exact t31 R9 hR9 _ _ _ _ _ h
  have t9 : ∀ (n : Nat) (v1 : Int32) (v2 : Int32) (v3 : Int32) (u : SM), qX9_count_l9  Q n v1 v2 v3 u → At X 4 (wM T ad u) 9 [(0, .ref (ad 0)), (1, .int v1), (2, .int v2), (3, .int v3)] [] := by
    intro  n
    induction n with
    | zero => intro v1 v2 v3 u h; exact False.elim h
    | succ n ih => intro v1 v2 v3 u h; exact tb9 (qX9_count_l9  Q n) ih v1 v2 v3 u h
  unfold pX9_count at h
  refine at_aload_n C dX9_count_0 0 rfl ?_
  refine at_iconst (v := 0) C dX9_count_1 (by decide) ?_
  refine pM_X9_1 C hD dX9_count_2 (fun s1 es1 => ?_)
  replace h := h s1 es1
  refine at_iconst (v := 0) C dX9_count_5 (by decide) ?_
  refine at_istore_n (lv' := [(0, .ref (ad 0)), (1, .int v1), (2, .int 0)]) C dX9_count_6 (by decide) [1, 2, 0] rfl ?_
  refine at_iconst (v := 0) C dX9_count_7 (by decide) ?_
  refine at_istore_n (lv' := [(0, .ref (ad 0)), (1, .int v1), (2, .int 0), (3, .int 0)]) C dX9_count_8 (by decide) [1, 2, 3, 0] rfl ?_
  obtain ⟨n, h⟩ := h
  exact t9  n _ _ _ _ h
