theorem m_X3_27 : Cond.fieldLink RX3 27 RX3 "lefts" "I" ∈ gW := gW_in 219 (by decide +kernel) (by decide +kernel)
theorem gC_X3_27 {X : XT} {l : Launch} {D : va_G} {ad : Nat → Nat} {T : TT} {cc : ByteArray} {nL fr lo : Nat} {σ : St} {pc : Nat} {lv : List (Nat × Value)} {st : List Value} (C : Cx X (KC l D ad T) cc RX3 nL fr lo) (d : decode cc pc = .ok (.getfield 27, 3)) (kk : At X nL (wC T ad σ) (pc + 3) lv (.int (σ 26 5) :: st)) : At X nL (wC T ad σ) pc lv (.ref (ad 26) :: st) := at_get C ingX3 (ci := 3) rfl 26 (wC_g26 T ad σ) 5 (by decide) m_X3_27 rfl rfl d kk
theorem m_X3_37 : Cond.fieldLink RX3 37 RX3 "tried" "I" ∈ gW := gW_in 222 (by decide +kernel) (by decide +kernel)
theorem pC_X3_37 {X : XT} {l : Launch} {D : va_G} {ad : Nat → Nat} {T : TT} {cc : ByteArray} {nL fr lo : Nat} {σ : St} {pc : Nat} {lv : List (Nat × Value)} {st : List Value} {x : Int32} (C : Cx X (KC l D ad T) cc RX3 nL fr lo) (hD : ∀ σ, DX X (wC T ad σ)) (d : decode cc pc = .ok (.putfield 37, 3)) (kk : ∀ u2 : St, u2 = (st_up σ 26 8 x) → At X nL (wC T ad u2) (pc + 3) lv st) : At X nL (wC T ad σ) pc lv (.int x :: .ref (ad 26) :: st) := at_puti C ingX3 tyX3 tyX3_ok nmX3 (ci := 3) rfl (hD σ) 26 (wC_g26 T ad σ) 8 (by decide) m_X3_37 rfl rfl (by decide +kernel) (Nat.le_of_ble_eq_true rfl) rfl d (kk _ rfl)
theorem m_X3_31 : Cond.fieldLink RX3 31 RX3 "rights" "I" ∈ gW := gW_in 220 (by decide +kernel) (by decide +kernel)
theorem gC_X3_31 {X : XT} {l : Launch} {D : va_G} {ad : Nat → Nat} {T : TT} {cc : ByteArray} {nL fr lo : Nat} {σ : St} {pc : Nat} {lv : List (Nat × Value)} {st : List Value} (C : Cx X (KC l D ad T) cc RX3 nL fr lo) (d : decode cc pc = .ok (.getfield 31, 3)) (kk : At X nL (wC T ad σ) (pc + 3) lv (.int (σ 26 6) :: st)) : At X nL (wC T ad σ) pc lv (.ref (ad 26) :: st) := at_get C ingX3 (ci := 3) rfl 26 (wC_g26 T ad σ) 6 (by decide) m_X3_31 rfl rfl d kk
theorem m_X3_9 : Cond.fieldLink RX3 9 RX3 "meets" "[I" ∈ gW := gW_in 213 (by decide +kernel) (by decide +kernel)
theorem gC_X3_9 {X : XT} {l : Launch} {D : va_G} {ad : Nat → Nat} {T : TT} {cc : ByteArray} {nL fr lo : Nat} {σ : St} {pc : Nat} {lv : List (Nat × Value)} {st : List Value} (C : Cx X (KC l D ad T) cc RX3 nL fr lo) (d : decode cc pc = .ok (.getfield 9, 3)) (kk : At X nL (wC T ad σ) (pc + 3) lv (.ref (ad 27) :: st)) : At X nL (wC T ad σ) pc lv (.ref (ad 26) :: st) := at_get C ingX3 (ci := 3) rfl 26 (wC_g26 T ad σ) 0 (by decide) m_X3_9 rfl rfl d kk
theorem gC_X3_37 {X : XT} {l : Launch} {D : va_G} {ad : Nat → Nat} {T : TT} {cc : ByteArray} {nL fr lo : Nat} {σ : St} {pc : Nat} {lv : List (Nat × Value)} {st : List Value} (C : Cx X (KC l D ad T) cc RX3 nL fr lo) (d : decode cc pc = .ok (.getfield 37, 3)) (kk : At X nL (wC T ad σ) (pc + 3) lv (.int (σ 26 8) :: st)) : At X nL (wC T ad σ) pc lv (.ref (ad 26) :: st) := at_get C ingX3 (ci := 3) rfl 26 (wC_g26 T ad σ) 8 (by decide) m_X3_37 rfl rfl d kk
theorem m_X3_18 : Cond.fieldLink RX3 18 RX3 "owner" "[I" ∈ gW := gW_in 216 (by decide +kernel) (by decide +kernel)
theorem gC_X3_18 {X : XT} {l : Launch} {D : va_G} {ad : Nat → Nat} {T : TT} {cc : ByteArray} {nL fr lo : Nat} {σ : St} {pc : Nat} {lv : List (Nat × Value)} {st : List Value} (C : Cx X (KC l D ad T) cc RX3 nL fr lo) (d : decode cc pc = .ok (.getfield 18, 3)) (kk : At X nL (wC T ad σ) (pc + 3) lv (.ref (ad 29) :: st)) : At X nL (wC T ad σ) pc lv (.ref (ad 26) :: st) := at_get C ingX3 (ci := 3) rfl 26 (wC_g26 T ad σ) 2 (by decide) m_X3_18 rfl rfl d kk
theorem m_X3_49 : Cond.methodLink RX3 49 yX3_reach ∈ gW := gW_in 500 (by decide +kernel) (by decide +kernel)
theorem mc_X3_reach : Cond.code yX3_reach cX3_reach 5 (some .boolean) ∈ gW := gW_in 503 (by decide +kernel) (by decide +kernel)
theorem mz_RX3 : Cond.initialized RX3 ∈ gW := gW_in 88 (by decide +kernel) (by decide +kernel)
theorem ok_X3_reach : okM yX3_reach cX3_reach 5 (some .boolean) 2 := ⟨mc_X3_reach, mz_RX3, by decide +kernel⟩
theorem mi_X3_reach : Cond.instanceMethod yX3_reach ∈ gW := gW_in 502 (by decide +kernel) (by decide +kernel)
theorem ml_X3_reach : Cond.selects RX3 yX3_reach yX3_reach ∈ gW := gW_in 26 (by decide +kernel) (by decide +kernel)
theorem m_X3_15 : Cond.fieldLink RX3 15 RX3 "mate" "[I" ∈ gW := gW_in 214 (by decide +kernel) (by decide +kernel)
theorem gC_X3_15 {X : XT} {l : Launch} {D : va_G} {ad : Nat → Nat} {T : TT} {cc : ByteArray} {nL fr lo : Nat} {σ : St} {pc : Nat} {lv : List (Nat × Value)} {st : List Value} (C : Cx X (KC l D ad T) cc RX3 nL fr lo) (d : decode cc pc = .ok (.getfield 15, 3)) (kk : At X nL (wC T ad σ) (pc + 3) lv (.ref (ad 28) :: st)) : At X nL (wC T ad σ) pc lv (.ref (ad 26) :: st) := at_get C ingX3 (ci := 3) rfl 26 (wC_g26 T ad σ) 1 (by decide) m_X3_15 rfl rfl d kk
def qX3_reach_81 (rec : Int32 → Int32 → St → (Int32 → St → Prop) → Prop)  (Q : Int32 → St → Prop) (v1 : Int32) (v3 : Int32) (σ : St) : Prop := (vp_in v1 12 ∧ ∀ s6 : St, s6 = (st_up σ 28 (Int32.toNatClampNeg v1) v3) → (vp_in v3 12 ∧ ∀ s7 : St, s7 = (st_up s6 29 (Int32.toNatClampNeg v3) v1) → (Q 1 s7)))
def qX3_reach_97 (rec : Int32 → Int32 → St → (Int32 → St → Prop) → Prop) (R10 : Int32 → Int32 → Int32 → St → Prop) (Q : Int32 → St → Prop) (v1 : Int32) (v2 : Int32) (v3 : Int32) (σ : St) : Prop := ∀ x5 : Int32, x5 = v3 + 1 → R10 v1 v2 x5 σ
def qX3_reach_10 (rec : Int32 → Int32 → St → (Int32 → St → Prop) → Prop) (R10 : Int32 → Int32 → Int32 → St → Prop) (Q : Int32 → St → Prop) (v1 : Int32) (v2 : Int32) (v3 : Int32) (σ : St) : Prop := (((σ 26 6) ≤ v3 → (Q 0 σ)) ∧ (¬ (σ 26 6) ≤ v3 → ∀ x1 : Int32, x1 = (1 <<< (v3 &&& 31)) → (vp_in v1 12 ∧ ((((σ 27 (Int32.toNatClampNeg v1)) &&& x1) = 0 → (qX3_reach_97 rec R10 Q v1 v2 v3 σ)) ∧ (¬ ((σ 27 (Int32.toNatClampNeg v1)) &&& x1) = 0 → ((¬ ((σ 26 8) &&& x1) = 0 → (qX3_reach_97 rec R10 Q v1 v2 v3 σ)) ∧ (((σ 26 8) &&& x1) = 0 → ∀ s2 : St, s2 = (st_up σ 26 8 ((σ 26 8) ||| x1)) → (vp_in v3 12 ∧ (((s2 29 (Int32.toNatClampNeg v3)) < 0 → (qX3_reach_81 rec  Q v1 v3 s2)) ∧ (¬ (s2 29 (Int32.toNatClampNeg v3)) < 0 → (vp_in v3 12 ∧ (rec (s2 29 (Int32.toNatClampNeg v3)) (v2 + 1) s2 (fun r4 s3 => ((r4 = 0 → (qX3_reach_97 rec R10 Q v1 v2 v3 s3)) ∧ (¬ r4 = 0 → (qX3_reach_81 rec  Q v1 v3 s3))))))))))))))))
def qX3_reach_l10 (rec : Int32 → Int32 → St → (Int32 → St → Prop) → Prop)  (Q : Int32 → St → Prop) : Nat → Int32 → Int32 → Int32 → St → Prop
  | 0 => fun _ _ _ _ => False
  | n + 1 => qX3_reach_10 rec (qX3_reach_l10 rec  Q n) Q
def pX3_reach_b (rec : Int32 → Int32 → St → (Int32 → St → Prop) → Prop) (v1 : Int32) (v2 : Int32) (σ : St) (Q : Int32 → St → Prop) : Prop := ((v2 ≤ 12 → (∃ n, qX3_reach_l10 rec  Q n v1 v2 0 σ)) ∧ (¬ v2 ≤ 12 → (Q 0 σ)))
def pX3_reach : Nat → Int32 → Int32 → St → (Int32 → St → Prop) → Prop
  | 0 => fun _ _ _ _ => False
  | d + 1 => pX3_reach_b (pX3_reach d)
set_option maxRecDepth 100000 in
set_option maxHeartbeats 4000000 in
theorem kX3_reach_b (l : Launch) (D : va_G) (ad : Nat → Nat) (T : TT) (hI : injA 40 ad) (d : Nat) (rec : Int32 → Int32 → St → (Int32 → St → Prop) → Prop) (hrec : ∀ (v1 : Int32) (v2 : Int32) (σ : St) (Q : Int32 → St → Prop), rec v1 v2 σ Q → Ki (KC l D ad T) (wC T ad) yX3_reach cX3_reach 5 (some .boolean) { frames := d, cells := 0, slots := 0, locals := d * 24 } [.ref (ad 26), .int v1, .int v2] (wC T ad σ) Q) (v1 : Int32) (v2 : Int32) (σ : St) (Q : Int32 → St → Prop) (h : pX3_reach_b rec v1 v2 σ Q) : Ki (KC l D ad T) (wC T ad) yX3_reach cX3_reach 5 (some .boolean) { frames := d + 1, cells := 0, slots := 0, locals := (d + 1) * 24 } [.ref (ad 26), .int v1, .int v2] (wC T ad σ) Q := by
  refine st_MZ (fr := d + 1) (lo := (d + 1) * 24) (by decide) ⟨rfl, rfl⟩ rfl (Nat.le_of_ble_eq_true rfl) rfl (fun X C hD ret => ?_)
  have hrm : rmOk { frames := d, cells := 0, slots := 0, locals := d * 24 } 5 (d + 1) ((d + 1) * 24) := ⟨rfl, rfl, Nat.le_refl _, by show 8 + (5 + 11) + d * 24 ≤ (d + 1) * 24; omega⟩
  replace hD : ∀ σ, DX X (wC T ad σ) := fun σ => hD _ (wC_D hI T σ)
  have t81 : ∀ (v1 : Int32) (v3 : Int32) (σ : St), qX3_reach_81 rec  Q v1 v3 σ → At X 5 (wC T ad σ) 81 [(0, .ref (ad 26)), (1, .int v1), (3, .int v3)] [] := by
    intro v1 v3 σ h
    unfold qX3_reach_81 at h
    refine at_aload_n C dX3_reach_81 0 rfl ?_
    refine gC_X3_15 C dX3_reach_82 ?_
    refine at_iload_n C dX3_reach_85 1 rfl ?_
    refine at_iload_n C dX3_reach_86 2 rfl ?_
    obtain ⟨hi, h⟩ := h
    refine sC_28 C hD hi dX3_reach_87 (fun s6 es6 => ?_)
    replace h := h s6 es6
    refine at_aload_n C dX3_reach_88 0 rfl ?_
    refine gC_X3_18 C dX3_reach_89 ?_
    refine at_iload_n C dX3_reach_92 2 rfl ?_
    refine at_iload_n C dX3_reach_93 1 rfl ?_
    obtain ⟨hi, h⟩ := h
    refine sC_29 C hD hi dX3_reach_94 (fun s7 es7 => ?_)
    replace h := h s7 es7
    refine at_iconst (v := 1) C dX3_reach_95 (by decide) ?_
    exact ret _ _ _ _ dX3_reach_96 rfl h
  have t97 : ∀ (R10 : Int32 → Int32 → Int32 → St → Prop) (hR10 : ∀ (v1 : Int32) (v2 : Int32) (v3 : Int32) (σ : St), R10 v1 v2 v3 σ → At X 5 (wC T ad σ) 10 [(0, .ref (ad 26)), (1, .int v1), (2, .int v2), (3, .int v3)] []) (v1 : Int32) (v2 : Int32) (v3 : Int32) (σ : St), qX3_reach_97 rec R10 Q v1 v2 v3 σ → At X 5 (wC T ad σ) 97 [(0, .ref (ad 26)), (1, .int v1), (2, .int v2), (3, .int v3)] [] := by
    intro R10 hR10 v1 v2 v3 σ h
    unfold qX3_reach_97 at h
    obtain ⟨x5, ex5⟩ : ∃ y : Int32, y = v3 + 1 := ⟨_, rfl⟩
    replace h := h x5 ex5
    refine at_iinc (v := x5) (lv' := [(0, .ref (ad 26)), (1, .int v1), (2, .int v2), (3, .int x5)]) C dX3_reach_97 3 rfl (by rw [ex5]; rfl) (by decide) [1, 2, 3, 0] rfl ?_
    refine at_goto (tgt := 10) C dX3_reach_100 (by decide) ?_
    exact hR10 _ _ _ _ h
  have tb10 : ∀ (R10 : Int32 → Int32 → Int32 → St → Prop) (hR10 : ∀ (v1 : Int32) (v2 : Int32) (v3 : Int32) (σ : St), R10 v1 v2 v3 σ → At X 5 (wC T ad σ) 10 [(0, .ref (ad 26)), (1, .int v1), (2, .int v2), (3, .int v3)] []) (v1 : Int32) (v2 : Int32) (v3 : Int32) (σ : St), qX3_reach_10 rec R10 Q v1 v2 v3 σ → At X 5 (wC T ad σ) 10 [(0, .ref (ad 26)), (1, .int v1), (2, .int v2), (3, .int v3)] [] := by
    intro R10 hR10 v1 v2 v3 σ h
    unfold qX3_reach_10 at h
    refine at_iload_n C dX3_reach_10 3 rfl ?_
    refine at_aload_n C dX3_reach_11 0 rfl ?_
    refine gC_X3_31 C dX3_reach_12 ?_
    refine at_icmp_ge (tgt := 103) C dX3_reach_15 (by decide) (fun hc => ?_) (fun hc => ?_)
    · replace h := h.1 hc
      refine at_iconst (v := 0) C dX3_reach_103 (by decide) ?_
      exact ret _ _ _ _ dX3_reach_104 rfl h
    · replace h := h.2 hc
      refine at_iconst (v := 1) C dX3_reach_18 (by decide) ?_
      refine at_iload_n C dX3_reach_19 3 rfl ?_
      refine at_ishl C dX3_reach_20 ?_
      refine at_topi (fun x1 ex1 => ?_)
      replace h := h x1 ex1
      refine at_istore (lv' := [(0, .ref (ad 26)), (1, .int v1), (2, .int v2), (3, .int v3), (4, .int x1)]) C dX3_reach_21 (by decide) [1, 2, 3, 4, 0] rfl ?_
      refine at_aload_n C dX3_reach_23 0 rfl ?_
      refine gC_X3_9 C dX3_reach_24 ?_
      refine at_iload_n C dX3_reach_27 1 rfl ?_
      obtain ⟨hi, h⟩ := h
      refine rC_27 C hi dX3_reach_28 ?_
      refine at_iload C dX3_reach_29 4 rfl ?_
      refine at_iand C dX3_reach_31 ?_
      refine at_if_eq (tgt := 97) C dX3_reach_32 (by decide) (fun hc => ?_) (fun hc => ?_)
      · replace h := h.1 hc
        refine at_sub [0, 1, 2, 3] rfl ?_
        exact t97 R10 hR10 _ _ _ _ h
      · replace h := h.2 hc
        refine at_aload_n C dX3_reach_35 0 rfl ?_
        refine gC_X3_37 C dX3_reach_36 ?_
        refine at_iload C dX3_reach_39 4 rfl ?_
        refine at_iand C dX3_reach_41 ?_
        refine at_if_ne (tgt := 97) C dX3_reach_42 (by decide) (fun hc => ?_) (fun hc => ?_)
        · replace h := h.1 hc
          refine at_sub [0, 1, 2, 3] rfl ?_
          exact t97 R10 hR10 _ _ _ _ h
        · replace h := h.2 hc
          refine at_aload_n C dX3_reach_45 0 rfl ?_
          refine at_dup C dX3_reach_46 rfl ?_
          refine gC_X3_37 C dX3_reach_47 ?_
          refine at_iload C dX3_reach_50 4 rfl ?_
          refine at_ior C dX3_reach_52 ?_
          refine pC_X3_37 C hD dX3_reach_53 (fun s2 es2 => ?_)
          replace h := h s2 es2
          refine at_aload_n C dX3_reach_56 0 rfl ?_
          refine gC_X3_18 C dX3_reach_57 ?_
          refine at_iload_n C dX3_reach_60 3 rfl ?_
          obtain ⟨hi, h⟩ := h
          refine rC_29 C hi dX3_reach_61 ?_
          refine at_if_lt (tgt := 81) C dX3_reach_62 (by decide) (fun hc => ?_) (fun hc => ?_)
          · replace h := h.1 hc
            refine at_sub [0, 1, 3] rfl ?_
            exact t81  _ _ _ h
          · replace h := h.2 hc
            refine at_aload_n C dX3_reach_65 0 rfl ?_
            refine at_aload_n C dX3_reach_66 0 rfl ?_
            refine gC_X3_18 C dX3_reach_67 ?_
            refine at_iload_n C dX3_reach_70 3 rfl ?_
            obtain ⟨hi, h⟩ := h
            refine rC_29 C hi dX3_reach_71 ?_
            refine at_iload_n C dX3_reach_72 2 rfl ?_
            refine at_iconst (v := 1) C dX3_reach_73 (by decide) ?_
            refine at_iadd C dX3_reach_74 ?_
            refine at_callVi C (hrec _ _ _ _ h) ok_X3_reach m_X3_49 mi_X3_reach ml_X3_reach (wC_g26 T ad _) rfl hrm rfl rfl (Nat.le_of_ble_eq_true rfl) dX3_reach_75 (fun r4 s3 h => ?_)
            refine at_if_eq (tgt := 97) C dX3_reach_78 (by decide) (fun hc => ?_) (fun hc => ?_)
            · replace h := h.1 hc
              refine at_sub [0, 1, 2, 3] rfl ?_
              exact t97 R10 hR10 _ _ _ _ h
            · replace h := h.2 hc
              refine at_sub [0, 1, 3] rfl ?_
              exact t81  _ _ _ h
  have t10 : ∀ (n : Nat) (v1 : Int32) (v2 : Int32) (v3 : Int32) (σ : St), qX3_reach_l10 rec  Q n v1 v2 v3 σ → At X 5 (wC T ad σ) 10 [(0, .ref (ad 26)), (1, .int v1), (2, .int v2), (3, .int v3)] [] := by
    intro  n
    induction n with
    | zero => intro v1 v2 v3 σ h; exact False.elim h
    | succ n ih => intro v1 v2 v3 σ h; exact tb10 (qX3_reach_l10 rec  Q n) ih v1 v2 v3 σ h
  unfold pX3_reach_b at h
  refine at_iload_n C dX3_reach_0 2 rfl ?_
  refine at_bipush (v := 12) C dX3_reach_1 (by decide) ?_
  refine at_icmp_le (tgt := 8) C dX3_reach_3 (by decide) (fun hc => ?_) (fun hc => ?_)
  · replace h := h.1 hc
    refine at_iconst (v := 0) C dX3_reach_8 (by decide) ?_
    refine at_istore_n (lv' := [(0, .ref (ad 26)), (1, .int v1), (2, .int v2), (3, .int 0)]) C dX3_reach_9 (by decide) [1, 2, 3, 0] rfl ?_
    obtain ⟨n, h⟩ := h
    exact t10  n _ _ _ _ h
  · replace h := h.2 hc
    refine at_iconst (v := 0) C dX3_reach_6 (by decide) ?_
    exact ret _ _ _ _ dX3_reach_7 rfl h
set_option maxRecDepth 100000 in
set_option maxHeartbeats 4000000 in
theorem kX3_reach (l : Launch) (D : va_G) (ad : Nat → Nat) (T : TT) (hI : injA 40 ad) : ∀ (d : Nat) (v1 : Int32) (v2 : Int32) (σ : St) (Q : Int32 → St → Prop), pX3_reach d v1 v2 σ Q → Ki (KC l D ad T) (wC T ad) yX3_reach cX3_reach 5 (some .boolean) { frames := d, cells := 0, slots := 0, locals := d * 24 } [.ref (ad 26), .int v1, .int v2] (wC T ad σ) Q := by
  intro d
  induction d with
  | zero => intro v1 v2 σ Q h; exact False.elim h
  | succ d ih => intro v1 v2 σ Q h; exact kX3_reach_b l D ad T hI d (pX3_reach d) ih v1 v2 σ Q h
theorem m_X3_34 : Cond.fieldLink RX3 34 RX3 "settled" "I" ∈ gW := gW_in 221 (by decide +kernel) (by decide +kernel)
theorem gC_X3_34 {X : XT} {l : Launch} {D : va_G} {ad : Nat → Nat} {T : TT} {cc : ByteArray} {nL fr lo : Nat} {σ : St} {pc : Nat} {lv : List (Nat × Value)} {st : List Value} (C : Cx X (KC l D ad T) cc RX3 nL fr lo) (d : decode cc pc = .ok (.getfield 34, 3)) (kk : At X nL (wC T ad σ) (pc + 3) lv (.int (σ 26 7) :: st)) : At X nL (wC T ad σ) pc lv (.ref (ad 26) :: st) := at_get C ingX3 (ci := 3) rfl 26 (wC_g26 T ad σ) 7 (by decide) m_X3_34 rfl rfl d kk
theorem m_X3_21 : Cond.fieldLink RX3 21 RX3 "keptMate" "[I" ∈ gW := gW_in 217 (by decide +kernel) (by decide +kernel)
theorem gC_X3_21 {X : XT} {l : Launch} {D : va_G} {ad : Nat → Nat} {T : TT} {cc : ByteArray} {nL fr lo : Nat} {σ : St} {pc : Nat} {lv : List (Nat × Value)} {st : List Value} (C : Cx X (KC l D ad T) cc RX3 nL fr lo) (d : decode cc pc = .ok (.getfield 21, 3)) (kk : At X nL (wC T ad σ) (pc + 3) lv (.ref (ad 30) :: st)) : At X nL (wC T ad σ) pc lv (.ref (ad 26) :: st) := at_get C ingX3 (ci := 3) rfl 26 (wC_g26 T ad σ) 3 (by decide) m_X3_21 rfl rfl d kk
theorem m_X3_24 : Cond.fieldLink RX3 24 RX3 "keptOwner" "[I" ∈ gW := gW_in 218 (by decide +kernel) (by decide +kernel)
theorem gC_X3_24 {X : XT} {l : Launch} {D : va_G} {ad : Nat → Nat} {T : TT} {cc : ByteArray} {nL fr lo : Nat} {σ : St} {pc : Nat} {lv : List (Nat × Value)} {st : List Value} (C : Cx X (KC l D ad T) cc RX3 nL fr lo) (d : decode cc pc = .ok (.getfield 24, 3)) (kk : At X nL (wC T ad σ) (pc + 3) lv (.ref (ad 31) :: st)) : At X nL (wC T ad σ) pc lv (.ref (ad 26) :: st) := at_get C ingX3 (ci := 3) rfl 26 (wC_g26 T ad σ) 4 (by decide) m_X3_24 rfl rfl d kk
def qX3_keep_2 (R2 : Int32 → St → Prop) (Q : St → Prop) (v1 : Int32) (σ : St) : Prop := ((12 ≤ v1 → (Q σ)) ∧ (¬ 12 ≤ v1 → (vp_in v1 12 ∧ (vp_in v1 12 ∧ ∀ s1 : St, s1 = (st_up σ 30 (Int32.toNatClampNeg v1) (σ 28 (Int32.toNatClampNeg v1))) → (vp_in v1 12 ∧ (vp_in v1 12 ∧ ∀ s2 : St, s2 = (st_up s1 31 (Int32.toNatClampNeg v1) (s1 29 (Int32.toNatClampNeg v1))) → ∀ x3 : Int32, x3 = v1 + 1 → R2 x3 s2))))))
def qX3_keep_l2  (Q : St → Prop) : Nat → Int32 → St → Prop
  | 0 => fun _ _ => False
  | n + 1 => qX3_keep_2 (qX3_keep_l2  Q n) Q
def pX3_keep  (σ : St) (Q : St → Prop) : Prop := (∃ n, qX3_keep_l2  Q n 0 σ)
set_option maxRecDepth 100000 in
set_option maxHeartbeats 4000000 in
theorem kX3_keep (l : Launch) (D : va_G) (ad : Nat → Nat) (T : TT) (hI : injA 40 ad)  (σ : St) (Q : St → Prop) (h : pX3_keep  σ Q) : Kv (KC l D ad T) (wC T ad) yX3_keep cX3_keep 2 none { frames := 0, cells := 0, slots := 0, locals := 0 } [.ref (ad 26)] (wC T ad σ) Q := by
  refine st_MV (fr := 0) (lo := 0) (by decide) ⟨rfl, rfl⟩ rfl (Nat.le_of_ble_eq_true rfl) rfl (fun X C hD ret => ?_)
  replace hD : ∀ σ, DX X (wC T ad σ) := fun σ => hD _ (wC_D hI T σ)
  have tb2 : ∀ (R2 : Int32 → St → Prop) (hR2 : ∀ (v1 : Int32) (σ : St), R2 v1 σ → At X 2 (wC T ad σ) 2 [(0, .ref (ad 26)), (1, .int v1)] []) (v1 : Int32) (σ : St), qX3_keep_2 R2 Q v1 σ → At X 2 (wC T ad σ) 2 [(0, .ref (ad 26)), (1, .int v1)] [] := by
    intro R2 hR2 v1 σ h
    unfold qX3_keep_2 at h
    refine at_iload_n C dX3_keep_2 1 rfl ?_
    refine at_bipush (v := 12) C dX3_keep_3 (by decide) ?_
    refine at_icmp_ge (tgt := 38) C dX3_keep_5 (by decide) (fun hc => ?_) (fun hc => ?_)
    · replace h := h.1 hc
      exact ret _ _ _ dX3_keep_38 h
    · replace h := h.2 hc
      refine at_aload_n C dX3_keep_8 0 rfl ?_
      refine gC_X3_21 C dX3_keep_9 ?_
      refine at_iload_n C dX3_keep_12 1 rfl ?_
      refine at_aload_n C dX3_keep_13 0 rfl ?_
      refine gC_X3_15 C dX3_keep_14 ?_
      refine at_iload_n C dX3_keep_17 1 rfl ?_
      obtain ⟨hi, h⟩ := h
      refine rC_28 C hi dX3_keep_18 ?_
      obtain ⟨hi, h⟩ := h
      refine sC_30 C hD hi dX3_keep_19 (fun s1 es1 => ?_)
      replace h := h s1 es1
      refine at_aload_n C dX3_keep_20 0 rfl ?_
      refine gC_X3_24 C dX3_keep_21 ?_
      refine at_iload_n C dX3_keep_24 1 rfl ?_
      refine at_aload_n C dX3_keep_25 0 rfl ?_
      refine gC_X3_18 C dX3_keep_26 ?_
      refine at_iload_n C dX3_keep_29 1 rfl ?_
      obtain ⟨hi, h⟩ := h
      refine rC_29 C hi dX3_keep_30 ?_
      obtain ⟨hi, h⟩ := h
      refine sC_31 C hD hi dX3_keep_31 (fun s2 es2 => ?_)
      replace h := h s2 es2
      obtain ⟨x3, ex3⟩ : ∃ y : Int32, y = v1 + 1 := ⟨_, rfl⟩
      replace h := h x3 ex3
      refine at_iinc (v := x3) (lv' := [(0, .ref (ad 26)), (1, .int x3)]) C dX3_keep_32 1 rfl (by rw [ex3]; rfl) (by decide) [1, 0] rfl ?_
      refine at_goto (tgt := 2) C dX3_keep_35 (by decide) ?_
      exact hR2 _ _ h
  have t2 : ∀ (n : Nat) (v1 : Int32) (σ : St), qX3_keep_l2  Q n v1 σ → At X 2 (wC T ad σ) 2 [(0, .ref (ad 26)), (1, .int v1)] [] := by
    intro  n
    induction n with
    | zero => intro v1 σ h; exact False.elim h
    | succ n ih => intro v1 σ h; exact tb2 (qX3_keep_l2  Q n) ih v1 σ h
  unfold pX3_keep at h
  refine at_iconst (v := 0) C dX3_keep_0 (by decide) ?_
  refine at_istore_n (lv' := [(0, .ref (ad 26)), (1, .int 0)]) C dX3_keep_1 (by decide) [1, 0] rfl ?_
  obtain ⟨n, h⟩ := h
  exact t2  n _ _ h
theorem m_X3_56 : Cond.methodLink RX3 56 yX3_keep ∈ gW := gW_in 508 (by decide +kernel) (by decide +kernel)
theorem mc_X3_keep : Cond.code yX3_keep cX3_keep 2 none ∈ gW := gW_in 511 (by decide +kernel) (by decide +kernel)
theorem ok_X3_keep : okM yX3_keep cX3_keep 2 none 0 := ⟨mc_X3_keep, mz_RX3, by decide +kernel⟩
theorem mi_X3_keep : Cond.instanceMethod yX3_keep ∈ gW := gW_in 510 (by decide +kernel) (by decide +kernel)
theorem ml_X3_keep : Cond.selects RX3 yX3_keep yX3_keep ∈ gW := gW_in 28 (by decide +kernel) (by decide +kernel)
def qX3_restore_2 (R2 : Int32 → St → Prop) (Q : St → Prop) (v1 : Int32) (σ : St) : Prop := ((12 ≤ v1 → (Q σ)) ∧ (¬ 12 ≤ v1 → (vp_in v1 12 ∧ (vp_in v1 12 ∧ ∀ s1 : St, s1 = (st_up σ 28 (Int32.toNatClampNeg v1) (σ 30 (Int32.toNatClampNeg v1))) → (vp_in v1 12 ∧ (vp_in v1 12 ∧ ∀ s2 : St, s2 = (st_up s1 29 (Int32.toNatClampNeg v1) (s1 31 (Int32.toNatClampNeg v1))) → ∀ x3 : Int32, x3 = v1 + 1 → R2 x3 s2))))))
def qX3_restore_l2  (Q : St → Prop) : Nat → Int32 → St → Prop
  | 0 => fun _ _ => False
  | n + 1 => qX3_restore_2 (qX3_restore_l2  Q n) Q
def pX3_restore  (σ : St) (Q : St → Prop) : Prop := (∃ n, qX3_restore_l2  Q n 0 σ)
set_option maxRecDepth 100000 in
set_option maxHeartbeats 4000000 in
theorem kX3_restore (l : Launch) (D : va_G) (ad : Nat → Nat) (T : TT) (hI : injA 40 ad)  (σ : St) (Q : St → Prop) (h : pX3_restore  σ Q) : Kv (KC l D ad T) (wC T ad) yX3_restore cX3_restore 2 none { frames := 0, cells := 0, slots := 0, locals := 0 } [.ref (ad 26)] (wC T ad σ) Q := by
  refine st_MV (fr := 0) (lo := 0) (by decide) ⟨rfl, rfl⟩ rfl (Nat.le_of_ble_eq_true rfl) rfl (fun X C hD ret => ?_)
  replace hD : ∀ σ, DX X (wC T ad σ) := fun σ => hD _ (wC_D hI T σ)
  have tb2 : ∀ (R2 : Int32 → St → Prop) (hR2 : ∀ (v1 : Int32) (σ : St), R2 v1 σ → At X 2 (wC T ad σ) 2 [(0, .ref (ad 26)), (1, .int v1)] []) (v1 : Int32) (σ : St), qX3_restore_2 R2 Q v1 σ → At X 2 (wC T ad σ) 2 [(0, .ref (ad 26)), (1, .int v1)] [] := by
    intro R2 hR2 v1 σ h
    unfold qX3_restore_2 at h
    refine at_iload_n C dX3_restore_2 1 rfl ?_
    refine at_bipush (v := 12) C dX3_restore_3 (by decide) ?_
    refine at_icmp_ge (tgt := 38) C dX3_restore_5 (by decide) (fun hc => ?_) (fun hc => ?_)
    · replace h := h.1 hc
      exact ret _ _ _ dX3_restore_38 h
    · replace h := h.2 hc
      refine at_aload_n C dX3_restore_8 0 rfl ?_
      refine gC_X3_15 C dX3_restore_9 ?_
      refine at_iload_n C dX3_restore_12 1 rfl ?_
      refine at_aload_n C dX3_restore_13 0 rfl ?_
      refine gC_X3_21 C dX3_restore_14 ?_
      refine at_iload_n C dX3_restore_17 1 rfl ?_
      obtain ⟨hi, h⟩ := h
      refine rC_30 C hi dX3_restore_18 ?_
      obtain ⟨hi, h⟩ := h
      refine sC_28 C hD hi dX3_restore_19 (fun s1 es1 => ?_)
      replace h := h s1 es1
      refine at_aload_n C dX3_restore_20 0 rfl ?_
      refine gC_X3_18 C dX3_restore_21 ?_
      refine at_iload_n C dX3_restore_24 1 rfl ?_
      refine at_aload_n C dX3_restore_25 0 rfl ?_
      refine gC_X3_24 C dX3_restore_26 ?_
      refine at_iload_n C dX3_restore_29 1 rfl ?_
      obtain ⟨hi, h⟩ := h
      refine rC_31 C hi dX3_restore_30 ?_
      obtain ⟨hi, h⟩ := h
      refine sC_29 C hD hi dX3_restore_31 (fun s2 es2 => ?_)
      replace h := h s2 es2
      obtain ⟨x3, ex3⟩ : ∃ y : Int32, y = v1 + 1 := ⟨_, rfl⟩
      replace h := h x3 ex3
      refine at_iinc (v := x3) (lv' := [(0, .ref (ad 26)), (1, .int x3)]) C dX3_restore_32 1 rfl (by rw [ex3]; rfl) (by decide) [1, 0] rfl ?_
      refine at_goto (tgt := 2) C dX3_restore_35 (by decide) ?_
      exact hR2 _ _ h
  have t2 : ∀ (n : Nat) (v1 : Int32) (σ : St), qX3_restore_l2  Q n v1 σ → At X 2 (wC T ad σ) 2 [(0, .ref (ad 26)), (1, .int v1)] [] := by
    intro  n
    induction n with
    | zero => intro v1 σ h; exact False.elim h
    | succ n ih => intro v1 σ h; exact tb2 (qX3_restore_l2  Q n) ih v1 σ h
  unfold pX3_restore at h
  refine at_iconst (v := 0) C dX3_restore_0 (by decide) ?_
  refine at_istore_n (lv' := [(0, .ref (ad 26)), (1, .int 0)]) C dX3_restore_1 (by decide) [1, 0] rfl ?_
  obtain ⟨n, h⟩ := h
  exact t2  n _ _ h
theorem m_X3_59 : Cond.methodLink RX3 59 yX3_restore ∈ gW := gW_in 512 (by decide +kernel) (by decide +kernel)
theorem mc_X3_restore : Cond.code yX3_restore cX3_restore 2 none ∈ gW := gW_in 515 (by decide +kernel) (by decide +kernel)
theorem ok_X3_restore : okM yX3_restore cX3_restore 2 none 0 := ⟨mc_X3_restore, mz_RX3, by decide +kernel⟩
theorem mi_X3_restore : Cond.instanceMethod yX3_restore ∈ gW := gW_in 514 (by decide +kernel) (by decide +kernel)
theorem ml_X3_restore : Cond.selects RX3 yX3_restore yX3_restore ∈ gW := gW_in 29 (by decide +kernel) (by decide +kernel)
def qX3_canTake_169 (R120 : Int32 → Int32 → Int32 → St → Prop) (Q : Int32 → St → Prop) (v3 : Int32) (v7 : Int32) (k0 : Int32) (σ : St) : Prop := ∀ x16 : Int32, x16 = v7 + 1 → R120 v3 k0 x16 σ
def qX3_canTake_168 (R120 : Int32 → Int32 → Int32 → St → Prop) (Q : Int32 → St → Prop) (v3 : Int32) (v7 : Int32) (σ : St) : Prop := (qX3_canTake_169 R120 Q v3 v7 0 σ)
def qX3_canTake_177  (Q : Int32 → St → Prop) (v6 : Int32) (σ : St) : Prop := ((¬ v6 = 0 → (narrow .boolean (.int v6) = .int v6 ∧ Q v6 σ)) ∧ (v6 = 0 → (pX3_restore σ (fun s14 => (narrow .boolean (.int v6) = .int v6 ∧ Q v6 s14)))))
def qX3_canTake_120 (R120 : Int32 → Int32 → Int32 → St → Prop) (Q : Int32 → St → Prop) (v3 : Int32) (v6 : Int32) (v7 : Int32) (σ : St) : Prop := (((σ 26 5) ≤ v7 → (qX3_canTake_177  Q v6 σ)) ∧ (¬ (σ 26 5) ≤ v7 → ((¬ v6 = 0 → (qX3_canTake_177  Q v6 σ)) ∧ (v6 = 0 → ∀ s11 : St, s11 = (st_up σ 26 8 ((σ 26 7) ||| v3)) → (vp_in v7 12 ∧ ((0 ≤ (s11 28 (Int32.toNatClampNeg v7)) → (qX3_canTake_168 R120 Q v3 v7 s11)) ∧ (¬ 0 ≤ (s11 28 (Int32.toNatClampNeg v7)) → (pX3_reach 14 v7 0 s11 (fun r13 s12 => ((r13 = 0 → (qX3_canTake_168 R120 Q v3 v7 s12)) ∧ (¬ r13 = 0 → (qX3_canTake_169 R120 Q v3 v7 1 s12))))))))))))
def qX3_canTake_l120  (Q : Int32 → St → Prop) : Nat → Int32 → Int32 → Int32 → St → Prop
  | 0 => fun _ _ _ _ => False
  | n + 1 => qX3_canTake_120 (qX3_canTake_l120  Q n) Q
def qX3_canTake_113  (Q : Int32 → St → Prop) (v1 : Int32) (v3 : Int32) (k0 : Int32) (σ : St) : Prop := ∀ x10 : Int32, x10 = (v1 + 1) → (∃ n, qX3_canTake_l120  Q n v3 k0 x10 σ)
def qX3_canTake_108  (Q : Int32 → St → Prop) (v1 : Int32) (v3 : Int32) (σ : St) : Prop := (qX3_canTake_113  Q v1 v3 1 σ)
def qX3_canTake_84  (Q : Int32 → St → Prop) (v1 : Int32) (v2 : Int32) (v3 : Int32) (v4 : Int32) (v5 : Int32) (σ : St) : Prop := (vp_in v1 12 ∧ ∀ s8 : St, s8 = (st_up σ 28 (Int32.toNatClampNeg v1) v2) → (vp_in v2 12 ∧ ∀ s9 : St, s9 = (st_up s8 29 (Int32.toNatClampNeg v2) v1) → ((v4 < 0 → (qX3_canTake_108  Q v1 v3 s9)) ∧ (¬ v4 < 0 → ((0 ≤ v5 → (qX3_canTake_113  Q v1 v3 0 s9)) ∧ (¬ 0 ≤ v5 → (qX3_canTake_108  Q v1 v3 s9)))))))
def qX3_canTake_71  (Q : Int32 → St → Prop) (v1 : Int32) (v2 : Int32) (v3 : Int32) (v4 : Int32) (v5 : Int32) (σ : St) : Prop := ((v5 < 0 → (qX3_canTake_84  Q v1 v2 v3 v4 v5 σ)) ∧ (¬ v5 < 0 → (vp_in v5 12 ∧ ∀ s7 : St, s7 = (st_up σ 28 (Int32.toNatClampNeg v5) (-1)) → (qX3_canTake_84  Q v1 v2 v3 v4 v5 s7))))
def pX3_canTake (v1 : Int32) (v2 : Int32) (σ : St) (Q : Int32 → St → Prop) : Prop := ∀ x1 : Int32, x1 = (1 <<< (v2 &&& 31)) → (vp_in v1 12 ∧ ((((σ 27 (Int32.toNatClampNeg v1)) &&& x1) = 0 → (Q 0 σ)) ∧ (¬ ((σ 27 (Int32.toNatClampNeg v1)) &&& x1) = 0 → ((((σ 26 7) &&& x1) = 0 → (vp_in v1 12 ∧ ((¬ (σ 28 (Int32.toNatClampNeg v1)) = v2 → (vp_in v1 12 ∧ ∀ x2 : Int32, x2 = (σ 28 (Int32.toNatClampNeg v1)) → (vp_in v2 12 ∧ ∀ x3 : Int32, x3 = (σ 29 (Int32.toNatClampNeg v2)) → (pX3_keep σ (fun s4 => ((x2 < 0 → (qX3_canTake_71  Q v1 v2 x1 x2 x3 s4)) ∧ (¬ x2 < 0 → (vp_in x2 12 ∧ ∀ s6 : St, s6 = (st_up s4 29 (Int32.toNatClampNeg x2) (-1)) → (qX3_canTake_71  Q v1 v2 x1 x2 x3 s6))))))))) ∧ ((σ 28 (Int32.toNatClampNeg v1)) = v2 → (Q 1 σ))))) ∧ (¬ ((σ 26 7) &&& x1) = 0 → (Q 0 σ))))))
set_option maxRecDepth 100000 in
set_option maxHeartbeats 4000000 in
theorem kX3_canTake (l : Launch) (D : va_G) (ad : Nat → Nat) (T : TT) (hI : injA 40 ad) (v1 : Int32) (v2 : Int32) (σ : St) (Q : Int32 → St → Prop) (h : pX3_canTake v1 v2 σ Q) : Ki (KC l D ad T) (wC T ad) yX3_canTake cX3_canTake 8 (some .boolean) { frames := 15, cells := 0, slots := 0, locals := 360 } [.ref (ad 26), .int v1, .int v2] (wC T ad σ) Q := by
  refine st_MZ (fr := 15) (lo := 360) (by decide) ⟨rfl, rfl⟩ rfl (Nat.le_of_ble_eq_true rfl) rfl (fun X C hD ret => ?_)
  replace hD : ∀ σ, DX X (wC T ad σ) := fun σ => hD _ (wC_D hI T σ)
  have t169 : ∀ (R120 : Int32 → Int32 → Int32 → St → Prop) (hR120 : ∀ (v3 : Int32) (v6 : Int32) (v7 : Int32) (σ : St), R120 v3 v6 v7 σ → At X 8 (wC T ad σ) 120 [(0, .ref (ad 26)), (3, .int v3), (6, .int v6), (7, .int v7)] []) (v3 : Int32) (v7 : Int32) (k0 : Int32) (σ : St), qX3_canTake_169 R120 Q v3 v7 k0 σ → At X 8 (wC T ad σ) 169 [(0, .ref (ad 26)), (3, .int v3), (7, .int v7)] [.int k0] := by
    intro R120 hR120 v3 v7 k0 σ h
    unfold qX3_canTake_169 at h
    refine at_istore (lv' := [(0, .ref (ad 26)), (3, .int v3), (6, .int k0), (7, .int v7)]) C dX3_canTake_169 (by decide) [1, 2, 0, 3] rfl ?_
    obtain ⟨x16, ex16⟩ : ∃ y : Int32, y = v7 + 1 := ⟨_, rfl⟩
    replace h := h x16 ex16
    refine at_iinc (v := x16) (lv' := [(0, .ref (ad 26)), (3, .int v3), (6, .int k0), (7, .int x16)]) C dX3_canTake_171 3 rfl (by rw [ex16]; rfl) (by decide) [1, 2, 3, 0] rfl ?_
    refine at_goto (tgt := 120) C dX3_canTake_174 (by decide) ?_
    exact hR120 _ _ _ _ h
  have t168 : ∀ (R120 : Int32 → Int32 → Int32 → St → Prop) (hR120 : ∀ (v3 : Int32) (v6 : Int32) (v7 : Int32) (σ : St), R120 v3 v6 v7 σ → At X 8 (wC T ad σ) 120 [(0, .ref (ad 26)), (3, .int v3), (6, .int v6), (7, .int v7)] []) (v3 : Int32) (v7 : Int32) (σ : St), qX3_canTake_168 R120 Q v3 v7 σ → At X 8 (wC T ad σ) 168 [(0, .ref (ad 26)), (3, .int v3), (7, .int v7)] [] := by
    intro R120 hR120 v3 v7 σ h
    unfold qX3_canTake_168 at h
    refine at_iconst (v := 0) C dX3_canTake_168 (by decide) ?_
    exact t169 R120 hR120 _ _ _ _ h
  have t177 : ∀ (v6 : Int32) (σ : St), qX3_canTake_177  Q v6 σ → At X 8 (wC T ad σ) 177 [(0, .ref (ad 26)), (6, .int v6)] [] := by
    intro v6 σ h
    unfold qX3_canTake_177 at h
    refine at_iload C dX3_canTake_177 1 rfl ?_
    refine at_if_ne (tgt := 186) C dX3_canTake_179 (by decide) (fun hc => ?_) (fun hc => ?_)
    · replace h := h.1 hc
      refine at_iload C dX3_canTake_186 1 rfl ?_
      exact ret _ _ _ _ dX3_canTake_188 h.1 h.2
    · replace h := h.2 hc
      refine at_aload_n C dX3_canTake_182 0 rfl ?_
      refine at_callVv C (kX3_restore l D ad T hI  _ _ h) ok_X3_restore m_X3_59 mi_X3_restore ml_X3_restore (wC_g26 T ad _) rfl ⟨rfl, rfl, Nat.le_of_ble_eq_true rfl, Nat.le_of_ble_eq_true rfl⟩ rfl rfl (Nat.le_of_ble_eq_true rfl) dX3_canTake_183 (fun s14 h => ?_)
      refine at_iload C dX3_canTake_186 1 rfl ?_
      exact ret _ _ _ _ dX3_canTake_188 h.1 h.2
  have tb120 : ∀ (R120 : Int32 → Int32 → Int32 → St → Prop) (hR120 : ∀ (v3 : Int32) (v6 : Int32) (v7 : Int32) (σ : St), R120 v3 v6 v7 σ → At X 8 (wC T ad σ) 120 [(0, .ref (ad 26)), (3, .int v3), (6, .int v6), (7, .int v7)] []) (v3 : Int32) (v6 : Int32) (v7 : Int32) (σ : St), qX3_canTake_120 R120 Q v3 v6 v7 σ → At X 8 (wC T ad σ) 120 [(0, .ref (ad 26)), (3, .int v3), (6, .int v6), (7, .int v7)] [] := by
    intro R120 hR120 v3 v6 v7 σ h
    unfold qX3_canTake_120 at h
    refine at_iload C dX3_canTake_120 3 rfl ?_
    refine at_aload_n C dX3_canTake_122 0 rfl ?_
    refine gC_X3_27 C dX3_canTake_123 ?_
    refine at_icmp_ge (tgt := 177) C dX3_canTake_126 (by decide) (fun hc => ?_) (fun hc => ?_)
    · replace h := h.1 hc
      refine at_sub [0, 2] rfl ?_
      exact t177  _ _ h
    · replace h := h.2 hc
      refine at_iload C dX3_canTake_129 2 rfl ?_
      refine at_if_ne (tgt := 177) C dX3_canTake_131 (by decide) (fun hc => ?_) (fun hc => ?_)
      · replace h := h.1 hc
        refine at_sub [0, 2] rfl ?_
        exact t177  _ _ h
      · replace h := h.2 hc
        refine at_aload_n C dX3_canTake_134 0 rfl ?_
        refine at_aload_n C dX3_canTake_135 0 rfl ?_
        refine gC_X3_34 C dX3_canTake_136 ?_
        refine at_iload_n C dX3_canTake_139 1 rfl ?_
        refine at_ior C dX3_canTake_140 ?_
        refine pC_X3_37 C hD dX3_canTake_141 (fun s11 es11 => ?_)
        replace h := h s11 es11
        refine at_aload_n C dX3_canTake_144 0 rfl ?_
        refine gC_X3_15 C dX3_canTake_145 ?_
        refine at_iload C dX3_canTake_148 3 rfl ?_
        obtain ⟨hi, h⟩ := h
        refine rC_28 C hi dX3_canTake_150 ?_
        refine at_if_ge (tgt := 168) C dX3_canTake_151 (by decide) (fun hc => ?_) (fun hc => ?_)
        · replace h := h.1 hc
          refine at_sub [0, 1, 3] rfl ?_
          exact t168 R120 hR120 _ _ _ h
        · replace h := h.2 hc
          refine at_aload_n C dX3_canTake_154 0 rfl ?_
          refine at_iload C dX3_canTake_155 3 rfl ?_
          refine at_iconst (v := 0) C dX3_canTake_157 (by decide) ?_
          refine at_callVi C (kX3_reach l D ad T hI 14 _ _ _ _ h) ok_X3_reach m_X3_49 mi_X3_reach ml_X3_reach (wC_g26 T ad _) rfl ⟨rfl, rfl, Nat.le_of_ble_eq_true rfl, Nat.le_of_ble_eq_true rfl⟩ rfl rfl (Nat.le_of_ble_eq_true rfl) dX3_canTake_158 (fun r13 s12 h => ?_)
          refine at_if_eq (tgt := 168) C dX3_canTake_161 (by decide) (fun hc => ?_) (fun hc => ?_)
          · replace h := h.1 hc
            refine at_sub [0, 1, 3] rfl ?_
            exact t168 R120 hR120 _ _ _ h
          · replace h := h.2 hc
            refine at_iconst (v := 1) C dX3_canTake_164 (by decide) ?_
            refine at_goto (tgt := 169) C dX3_canTake_165 (by decide) ?_
            refine at_sub [0, 1, 3] rfl ?_
            exact t169 R120 hR120 _ _ _ _ h
  have t120 : ∀ (n : Nat) (v3 : Int32) (v6 : Int32) (v7 : Int32) (σ : St), qX3_canTake_l120  Q n v3 v6 v7 σ → At X 8 (wC T ad σ) 120 [(0, .ref (ad 26)), (3, .int v3), (6, .int v6), (7, .int v7)] [] := by
    intro  n
    induction n with
    | zero => intro v3 v6 v7 σ h; exact False.elim h
    | succ n ih => intro v3 v6 v7 σ h; exact tb120 (qX3_canTake_l120  Q n) ih v3 v6 v7 σ h
  have t113 : ∀ (v1 : Int32) (v3 : Int32) (k0 : Int32) (σ : St), qX3_canTake_113  Q v1 v3 k0 σ → At X 8 (wC T ad σ) 113 [(0, .ref (ad 26)), (1, .int v1), (3, .int v3)] [.int k0] := by
    intro v1 v3 k0 σ h
    unfold qX3_canTake_113 at h
    refine at_istore (lv' := [(0, .ref (ad 26)), (1, .int v1), (3, .int v3), (6, .int k0)]) C dX3_canTake_113 (by decide) [1, 2, 3, 0] rfl ?_
    refine at_iload_n C dX3_canTake_115 1 rfl ?_
    refine at_iconst (v := 1) C dX3_canTake_116 (by decide) ?_
    refine at_iadd C dX3_canTake_117 ?_
    refine at_topi (fun x10 ex10 => ?_)
    replace h := h x10 ex10
    refine at_istore (lv' := [(0, .ref (ad 26)), (1, .int v1), (3, .int v3), (6, .int k0), (7, .int x10)]) C dX3_canTake_118 (by decide) [1, 2, 3, 4, 0] rfl ?_
    refine at_sub [0, 2, 3, 4] rfl ?_
    obtain ⟨n, h⟩ := h
    exact t120  n _ _ _ _ h
  have t108 : ∀ (v1 : Int32) (v3 : Int32) (σ : St), qX3_canTake_108  Q v1 v3 σ → At X 8 (wC T ad σ) 108 [(0, .ref (ad 26)), (1, .int v1), (3, .int v3)] [] := by
    intro v1 v3 σ h
    unfold qX3_canTake_108 at h
    refine at_iconst (v := 1) C dX3_canTake_108 (by decide) ?_
    refine at_goto (tgt := 113) C dX3_canTake_109 (by decide) ?_
    exact t113  _ _ _ _ h
  have t84 : ∀ (v1 : Int32) (v2 : Int32) (v3 : Int32) (v4 : Int32) (v5 : Int32) (σ : St), qX3_canTake_84  Q v1 v2 v3 v4 v5 σ → At X 8 (wC T ad σ) 84 [(0, .ref (ad 26)), (1, .int v1), (2, .int v2), (3, .int v3), (4, .int v4), (5, .int v5)] [] := by
    intro v1 v2 v3 v4 v5 σ h
    unfold qX3_canTake_84 at h
    refine at_aload_n C dX3_canTake_84 0 rfl ?_
    refine gC_X3_15 C dX3_canTake_85 ?_
    refine at_iload_n C dX3_canTake_88 1 rfl ?_
    refine at_iload_n C dX3_canTake_89 2 rfl ?_
    obtain ⟨hi, h⟩ := h
    refine sC_28 C hD hi dX3_canTake_90 (fun s8 es8 => ?_)
    replace h := h s8 es8
    refine at_aload_n C dX3_canTake_91 0 rfl ?_
    refine gC_X3_18 C dX3_canTake_92 ?_
    refine at_iload_n C dX3_canTake_95 2 rfl ?_
    refine at_iload_n C dX3_canTake_96 1 rfl ?_
    obtain ⟨hi, h⟩ := h
    refine sC_29 C hD hi dX3_canTake_97 (fun s9 es9 => ?_)
    replace h := h s9 es9
    refine at_iload C dX3_canTake_98 4 rfl ?_
    refine at_if_lt (tgt := 108) C dX3_canTake_100 (by decide) (fun hc => ?_) (fun hc => ?_)
    · replace h := h.1 hc
      refine at_sub [0, 1, 3] rfl ?_
      exact t108  _ _ _ h
    · replace h := h.2 hc
      refine at_iload C dX3_canTake_103 5 rfl ?_
      refine at_if_ge (tgt := 112) C dX3_canTake_105 (by decide) (fun hc => ?_) (fun hc => ?_)
      · replace h := h.1 hc
        refine at_iconst (v := 0) C dX3_canTake_112 (by decide) ?_
        refine at_sub [0, 1, 3] rfl ?_
        exact t113  _ _ _ _ h
      · replace h := h.2 hc
        refine at_sub [0, 1, 3] rfl ?_
        exact t108  _ _ _ h
  have t71 : ∀ (v1 : Int32) (v2 : Int32) (v3 : Int32) (v4 : Int32) (v5 : Int32) (σ : St), qX3_canTake_71  Q v1 v2 v3 v4 v5 σ → At X 8 (wC T ad σ) 71 [(0, .ref (ad 26)), (1, .int v1), (2, .int v2), (3, .int v3), (4, .int v4), (5, .int v5)] [] := by
    intro v1 v2 v3 v4 v5 σ h
    unfold qX3_canTake_71 at h
    refine at_iload C dX3_canTake_71 5 rfl ?_
    refine at_if_lt (tgt := 84) C dX3_canTake_73 (by decide) (fun hc => ?_) (fun hc => ?_)
    · replace h := h.1 hc
      exact t84  _ _ _ _ _ _ h
    · replace h := h.2 hc
      refine at_aload_n C dX3_canTake_76 0 rfl ?_
      refine gC_X3_15 C dX3_canTake_77 ?_
      refine at_iload C dX3_canTake_80 5 rfl ?_
      refine at_iconst (v := (-1)) C dX3_canTake_82 (by decide) ?_
      obtain ⟨hi, h⟩ := h
      refine sC_28 C hD hi dX3_canTake_83 (fun s7 es7 => ?_)
      replace h := h s7 es7
      exact t84  _ _ _ _ _ _ h
  unfold pX3_canTake at h
  refine at_iconst (v := 1) C dX3_canTake_0 (by decide) ?_
  refine at_iload_n C dX3_canTake_1 2 rfl ?_
  refine at_ishl C dX3_canTake_2 ?_
  refine at_topi (fun x1 ex1 => ?_)
  replace h := h x1 ex1
  refine at_istore_n (lv' := [(0, .ref (ad 26)), (1, .int v1), (2, .int v2), (3, .int x1)]) C dX3_canTake_3 (by decide) [1, 2, 3, 0] rfl ?_
  refine at_aload_n C dX3_canTake_4 0 rfl ?_
  refine gC_X3_9 C dX3_canTake_5 ?_
  refine at_iload_n C dX3_canTake_8 1 rfl ?_
  obtain ⟨hi, h⟩ := h
  refine rC_27 C hi dX3_canTake_9 ?_
  refine at_iload_n C dX3_canTake_10 3 rfl ?_
  refine at_iand C dX3_canTake_11 ?_
  refine at_if_eq (tgt := 24) C dX3_canTake_12 (by decide) (fun hc => ?_) (fun hc => ?_)
  · replace h := h.1 hc
    refine at_iconst (v := 0) C dX3_canTake_24 (by decide) ?_
    exact ret _ _ _ _ dX3_canTake_25 rfl h
  · replace h := h.2 hc
    refine at_aload_n C dX3_canTake_15 0 rfl ?_
    refine gC_X3_34 C dX3_canTake_16 ?_
    refine at_iload_n C dX3_canTake_19 3 rfl ?_
    refine at_iand C dX3_canTake_20 ?_
    refine at_if_eq (tgt := 26) C dX3_canTake_21 (by decide) (fun hc => ?_) (fun hc => ?_)
    · replace h := h.1 hc
      refine at_aload_n C dX3_canTake_26 0 rfl ?_
      refine gC_X3_15 C dX3_canTake_27 ?_
      refine at_iload_n C dX3_canTake_30 1 rfl ?_
      obtain ⟨hi, h⟩ := h
      refine rC_28 C hi dX3_canTake_31 ?_
      refine at_iload_n C dX3_canTake_32 2 rfl ?_
      refine at_icmp_ne (tgt := 38) C dX3_canTake_33 (by decide) (fun hc => ?_) (fun hc => ?_)
      · replace h := h.1 hc
        refine at_aload_n C dX3_canTake_38 0 rfl ?_
        refine gC_X3_15 C dX3_canTake_39 ?_
        refine at_iload_n C dX3_canTake_42 1 rfl ?_
        obtain ⟨hi, h⟩ := h
        refine rC_28 C hi dX3_canTake_43 ?_
        refine at_topi (fun x2 ex2 => ?_)
        replace h := h x2 ex2
        refine at_istore (lv' := [(0, .ref (ad 26)), (1, .int v1), (2, .int v2), (3, .int x1), (4, .int x2)]) C dX3_canTake_44 (by decide) [1, 2, 3, 4, 0] rfl ?_
        refine at_aload_n C dX3_canTake_46 0 rfl ?_
        refine gC_X3_18 C dX3_canTake_47 ?_
        refine at_iload_n C dX3_canTake_50 2 rfl ?_
        obtain ⟨hi, h⟩ := h
        refine rC_29 C hi dX3_canTake_51 ?_
        refine at_topi (fun x3 ex3 => ?_)
        replace h := h x3 ex3
        refine at_istore (lv' := [(0, .ref (ad 26)), (1, .int v1), (2, .int v2), (3, .int x1), (4, .int x2), (5, .int x3)]) C dX3_canTake_52 (by decide) [1, 2, 3, 4, 5, 0] rfl ?_
        refine at_aload_n C dX3_canTake_54 0 rfl ?_
        refine at_callVv C (kX3_keep l D ad T hI  _ _ h) ok_X3_keep m_X3_56 mi_X3_keep ml_X3_keep (wC_g26 T ad _) rfl ⟨rfl, rfl, Nat.le_of_ble_eq_true rfl, Nat.le_of_ble_eq_true rfl⟩ rfl rfl (Nat.le_of_ble_eq_true rfl) dX3_canTake_55 (fun s4 h => ?_)
        refine at_iload C dX3_canTake_58 4 rfl ?_
        refine at_if_lt (tgt := 71) C dX3_canTake_60 (by decide) (fun hc => ?_) (fun hc => ?_)
        · replace h := h.1 hc
          exact t71  _ _ _ _ _ _ h
        · replace h := h.2 hc
          refine at_aload_n C dX3_canTake_63 0 rfl ?_
          refine gC_X3_18 C dX3_canTake_64 ?_
          refine at_iload C dX3_canTake_67 4 rfl ?_
          refine at_iconst (v := (-1)) C dX3_canTake_69 (by decide) ?_
          obtain ⟨hi, h⟩ := h
          refine sC_29 C hD hi dX3_canTake_70 (fun s6 es6 => ?_)
          replace h := h s6 es6
          exact t71  _ _ _ _ _ _ h
      · replace h := h.2 hc
        refine at_iconst (v := 1) C dX3_canTake_36 (by decide) ?_
        exact ret _ _ _ _ dX3_canTake_37 rfl h
    · replace h := h.2 hc
      refine at_iconst (v := 0) C dX3_canTake_24 (by decide) ?_
      exact ret _ _ _ _ dX3_canTake_25 rfl h
theorem m_X3_53 : Cond.methodLink RX3 53 yX3_canTake ∈ gW := gW_in 504 (by decide +kernel) (by decide +kernel)
theorem mc_X3_canTake : Cond.code yX3_canTake cX3_canTake 8 (some .boolean) ∈ gW := gW_in 507 (by decide +kernel) (by decide +kernel)
theorem ok_X3_canTake : okM yX3_canTake cX3_canTake 8 (some .boolean) 2 := ⟨mc_X3_canTake, mz_RX3, by decide +kernel⟩
theorem mi_X3_canTake : Cond.instanceMethod yX3_canTake ∈ gW := gW_in 506 (by decide +kernel) (by decide +kernel)
theorem ml_X3_canTake : Cond.selects RX3 yX3_canTake yX3_canTake ∈ gW := gW_in 27 (by decide +kernel) (by decide +kernel)
theorem pC_X3_34 {X : XT} {l : Launch} {D : va_G} {ad : Nat → Nat} {T : TT} {cc : ByteArray} {nL fr lo : Nat} {σ : St} {pc : Nat} {lv : List (Nat × Value)} {st : List Value} {x : Int32} (C : Cx X (KC l D ad T) cc RX3 nL fr lo) (hD : ∀ σ, DX X (wC T ad σ)) (d : decode cc pc = .ok (.putfield 34, 3)) (kk : ∀ u2 : St, u2 = (st_up σ 26 7 x) → At X nL (wC T ad u2) (pc + 3) lv st) : At X nL (wC T ad σ) pc lv (.int x :: .ref (ad 26) :: st) := at_puti C ingX3 tyX3 tyX3_ok nmX3 (ci := 3) rfl (hD σ) 26 (wC_g26 T ad σ) 7 (by decide) m_X3_34 rfl rfl (by decide +kernel) (Nat.le_of_ble_eq_true rfl) rfl d (kk _ rfl)
def qX3_solve_83 (R30 : Int32 → St → Prop) (Q : St → Prop) (v1 : Int32) (σ : St) : Prop := ∀ x9 : Int32, x9 = v1 + 1 → R30 x9 σ
def qX3_solve_63 (R30 : Int32 → St → Prop) (Q : St → Prop) (v1 : Int32) (v2 : Int32) (σ : St) : Prop := (((σ 26 6) ≤ v2 → (qX3_solve_83 R30 Q v1 σ)) ∧ (¬ (σ 26 6) ≤ v2 → ∀ s8 : St, s8 = (st_up σ 26 7 ((σ 26 7) ||| (1 <<< (v2 &&& 31)))) → (qX3_solve_83 R30 Q v1 s8)))
def qX3_solve_40 (R30 : Int32 → St → Prop) (R40 : Int32 → Int32 → St → Prop) (Q : St → Prop) (v1 : Int32) (v2 : Int32) (σ : St) : Prop := (((σ 26 6) ≤ v2 → (qX3_solve_63 R30 Q v1 v2 σ)) ∧ (¬ (σ 26 6) ≤ v2 → (pX3_canTake v1 v2 σ (fun r6 s5 => ((¬ r6 = 0 → (qX3_solve_63 R30 Q v1 v2 s5)) ∧ (r6 = 0 → ∀ x7 : Int32, x7 = v2 + 1 → R40 v1 x7 s5))))))
def qX3_solve_l40 (R30 : Int32 → St → Prop) (Q : St → Prop) : Nat → Int32 → Int32 → St → Prop
  | 0 => fun _ _ _ => False
  | n + 1 => qX3_solve_40 R30 (qX3_solve_l40 R30 Q n) Q
def qX3_solve_30 (R30 : Int32 → St → Prop) (Q : St → Prop) (v1 : Int32) (σ : St) : Prop := (((σ 26 5) ≤ v1 → (Q σ)) ∧ (¬ (σ 26 5) ≤ v1 → (∃ n, qX3_solve_l40 R30 Q n v1 0 σ)))
def qX3_solve_l30  (Q : St → Prop) : Nat → Int32 → St → Prop
  | 0 => fun _ _ => False
  | n + 1 => qX3_solve_30 (qX3_solve_l30  Q n) Q
def qX3_solve_2 (R2 : Int32 → St → Prop) (Q : St → Prop) (v1 : Int32) (σ : St) : Prop := (((σ 26 5) ≤ v1 → (∃ n, qX3_solve_l30  Q n 0 σ)) ∧ (¬ (σ 26 5) ≤ v1 → ∀ s1 : St, s1 = (st_up σ 26 8 0) → (pX3_reach 14 v1 0 s1 (fun r3 s2 => ∀ x4 : Int32, x4 = v1 + 1 → R2 x4 s2))))
def qX3_solve_l2  (Q : St → Prop) : Nat → Int32 → St → Prop
  | 0 => fun _ _ => False
  | n + 1 => qX3_solve_2 (qX3_solve_l2  Q n) Q
def pX3_solve  (σ : St) (Q : St → Prop) : Prop := (∃ n, qX3_solve_l2  Q n 0 σ)
set_option maxRecDepth 100000 in
set_option maxHeartbeats 4000000 in
theorem kX3_solve (l : Launch) (D : va_G) (ad : Nat → Nat) (T : TT) (hI : injA 40 ad)  (σ : St) (Q : St → Prop) (h : pX3_solve  σ Q) : Kv (KC l D ad T) (wC T ad) yX3_solve cX3_solve 3 none { frames := 16, cells := 0, slots := 0, locals := 387 } [.ref (ad 26)] (wC T ad σ) Q := by
  refine st_MV (fr := 16) (lo := 387) (by decide) ⟨rfl, rfl⟩ rfl (Nat.le_of_ble_eq_true rfl) rfl (fun X C hD ret => ?_)
  replace hD : ∀ σ, DX X (wC T ad σ) := fun σ => hD _ (wC_D hI T σ)
  have t83 : ∀ (R30 : Int32 → St → Prop) (hR30 : ∀ (v1 : Int32) (σ : St), R30 v1 σ → At X 3 (wC T ad σ) 30 [(0, .ref (ad 26)), (1, .int v1)] []) (v1 : Int32) (σ : St), qX3_solve_83 R30 Q v1 σ → At X 3 (wC T ad σ) 83 [(0, .ref (ad 26)), (1, .int v1)] [] := by
    intro R30 hR30 v1 σ h
    unfold qX3_solve_83 at h
    obtain ⟨x9, ex9⟩ : ∃ y : Int32, y = v1 + 1 := ⟨_, rfl⟩
    replace h := h x9 ex9
    refine at_iinc (v := x9) (lv' := [(0, .ref (ad 26)), (1, .int x9)]) C dX3_solve_83 1 rfl (by rw [ex9]; rfl) (by decide) [1, 0] rfl ?_
    refine at_goto (tgt := 30) C dX3_solve_86 (by decide) ?_
    exact hR30 _ _ h
  have t63 : ∀ (R30 : Int32 → St → Prop) (hR30 : ∀ (v1 : Int32) (σ : St), R30 v1 σ → At X 3 (wC T ad σ) 30 [(0, .ref (ad 26)), (1, .int v1)] []) (v1 : Int32) (v2 : Int32) (σ : St), qX3_solve_63 R30 Q v1 v2 σ → At X 3 (wC T ad σ) 63 [(0, .ref (ad 26)), (1, .int v1), (2, .int v2)] [] := by
    intro R30 hR30 v1 v2 σ h
    unfold qX3_solve_63 at h
    refine at_iload_n C dX3_solve_63 2 rfl ?_
    refine at_aload_n C dX3_solve_64 0 rfl ?_
    refine gC_X3_31 C dX3_solve_65 ?_
    refine at_icmp_ge (tgt := 83) C dX3_solve_68 (by decide) (fun hc => ?_) (fun hc => ?_)
    · replace h := h.1 hc
      refine at_sub [0, 1] rfl ?_
      exact t83 R30 hR30 _ _ h
    · replace h := h.2 hc
      refine at_aload_n C dX3_solve_71 0 rfl ?_
      refine at_dup C dX3_solve_72 rfl ?_
      refine gC_X3_34 C dX3_solve_73 ?_
      refine at_iconst (v := 1) C dX3_solve_76 (by decide) ?_
      refine at_iload_n C dX3_solve_77 2 rfl ?_
      refine at_ishl C dX3_solve_78 ?_
      refine at_ior C dX3_solve_79 ?_
      refine pC_X3_34 C hD dX3_solve_80 (fun s8 es8 => ?_)
      replace h := h s8 es8
      refine at_sub [0, 1] rfl ?_
      exact t83 R30 hR30 _ _ h
  have tb40 : ∀ (R30 : Int32 → St → Prop) (hR30 : ∀ (v1 : Int32) (σ : St), R30 v1 σ → At X 3 (wC T ad σ) 30 [(0, .ref (ad 26)), (1, .int v1)] []) (R40 : Int32 → Int32 → St → Prop) (hR40 : ∀ (v1 : Int32) (v2 : Int32) (σ : St), R40 v1 v2 σ → At X 3 (wC T ad σ) 40 [(0, .ref (ad 26)), (1, .int v1), (2, .int v2)] []) (v1 : Int32) (v2 : Int32) (σ : St), qX3_solve_40 R30 R40 Q v1 v2 σ → At X 3 (wC T ad σ) 40 [(0, .ref (ad 26)), (1, .int v1), (2, .int v2)] [] := by
    intro R30 hR30 R40 hR40 v1 v2 σ h
    unfold qX3_solve_40 at h
    refine at_iload_n C dX3_solve_40 2 rfl ?_
    refine at_aload_n C dX3_solve_41 0 rfl ?_
    refine gC_X3_31 C dX3_solve_42 ?_
    refine at_icmp_ge (tgt := 63) C dX3_solve_45 (by decide) (fun hc => ?_) (fun hc => ?_)
    · replace h := h.1 hc
      exact t63 R30 hR30 _ _ _ h
    · replace h := h.2 hc
      refine at_aload_n C dX3_solve_48 0 rfl ?_
      refine at_iload_n C dX3_solve_49 1 rfl ?_
      refine at_iload_n C dX3_solve_50 2 rfl ?_
      refine at_callVi C (kX3_canTake l D ad T hI _ _ _ _ h) ok_X3_canTake m_X3_53 mi_X3_canTake ml_X3_canTake (wC_g26 T ad _) rfl ⟨rfl, rfl, Nat.le_of_ble_eq_true rfl, Nat.le_of_ble_eq_true rfl⟩ rfl rfl (Nat.le_of_ble_eq_true rfl) dX3_solve_51 (fun r6 s5 h => ?_)
      refine at_if_ne (tgt := 63) C dX3_solve_54 (by decide) (fun hc => ?_) (fun hc => ?_)
      · replace h := h.1 hc
        exact t63 R30 hR30 _ _ _ h
      · replace h := h.2 hc
        obtain ⟨x7, ex7⟩ : ∃ y : Int32, y = v2 + 1 := ⟨_, rfl⟩
        replace h := h x7 ex7
        refine at_iinc (v := x7) (lv' := [(0, .ref (ad 26)), (1, .int v1), (2, .int x7)]) C dX3_solve_57 2 rfl (by rw [ex7]; rfl) (by decide) [1, 2, 0] rfl ?_
        refine at_goto (tgt := 40) C dX3_solve_60 (by decide) ?_
        exact hR40 _ _ _ h
  have t40 : ∀ (R30 : Int32 → St → Prop) (hR30 : ∀ (v1 : Int32) (σ : St), R30 v1 σ → At X 3 (wC T ad σ) 30 [(0, .ref (ad 26)), (1, .int v1)] []) (n : Nat) (v1 : Int32) (v2 : Int32) (σ : St), qX3_solve_l40 R30 Q n v1 v2 σ → At X 3 (wC T ad σ) 40 [(0, .ref (ad 26)), (1, .int v1), (2, .int v2)] [] := by
    intro R30 hR30 n
    induction n with
    | zero => intro v1 v2 σ h; exact False.elim h
    | succ n ih => intro v1 v2 σ h; exact tb40 R30 hR30 (qX3_solve_l40 R30 Q n) ih v1 v2 σ h
  have tb30 : ∀ (R30 : Int32 → St → Prop) (hR30 : ∀ (v1 : Int32) (σ : St), R30 v1 σ → At X 3 (wC T ad σ) 30 [(0, .ref (ad 26)), (1, .int v1)] []) (v1 : Int32) (σ : St), qX3_solve_30 R30 Q v1 σ → At X 3 (wC T ad σ) 30 [(0, .ref (ad 26)), (1, .int v1)] [] := by
    intro R30 hR30 v1 σ h
    unfold qX3_solve_30 at h
    refine at_iload_n C dX3_solve_30 1 rfl ?_
    refine at_aload_n C dX3_solve_31 0 rfl ?_
    refine gC_X3_27 C dX3_solve_32 ?_
    refine at_icmp_ge (tgt := 89) C dX3_solve_35 (by decide) (fun hc => ?_) (fun hc => ?_)
    · replace h := h.1 hc
      exact ret _ _ _ dX3_solve_89 h
    · replace h := h.2 hc
      refine at_iconst (v := 0) C dX3_solve_38 (by decide) ?_
      refine at_istore_n (lv' := [(0, .ref (ad 26)), (1, .int v1), (2, .int 0)]) C dX3_solve_39 (by decide) [1, 2, 0] rfl ?_
      obtain ⟨n, h⟩ := h
      exact t40 R30 hR30 n _ _ _ h
  have t30 : ∀ (n : Nat) (v1 : Int32) (σ : St), qX3_solve_l30  Q n v1 σ → At X 3 (wC T ad σ) 30 [(0, .ref (ad 26)), (1, .int v1)] [] := by
    intro  n
    induction n with
    | zero => intro v1 σ h; exact False.elim h
    | succ n ih => intro v1 σ h; exact tb30 (qX3_solve_l30  Q n) ih v1 σ h
  have tb2 : ∀ (R2 : Int32 → St → Prop) (hR2 : ∀ (v1 : Int32) (σ : St), R2 v1 σ → At X 3 (wC T ad σ) 2 [(0, .ref (ad 26)), (1, .int v1)] []) (v1 : Int32) (σ : St), qX3_solve_2 R2 Q v1 σ → At X 3 (wC T ad σ) 2 [(0, .ref (ad 26)), (1, .int v1)] [] := by
    intro R2 hR2 v1 σ h
    unfold qX3_solve_2 at h
    refine at_iload_n C dX3_solve_2 1 rfl ?_
    refine at_aload_n C dX3_solve_3 0 rfl ?_
    refine gC_X3_27 C dX3_solve_4 ?_
    refine at_icmp_ge (tgt := 28) C dX3_solve_7 (by decide) (fun hc => ?_) (fun hc => ?_)
    · replace h := h.1 hc
      refine at_iconst (v := 0) C dX3_solve_28 (by decide) ?_
      refine at_istore_n (lv' := [(0, .ref (ad 26)), (1, .int 0)]) C dX3_solve_29 (by decide) [1, 0] rfl ?_
      obtain ⟨n, h⟩ := h
      exact t30  n _ _ h
    · replace h := h.2 hc
      refine at_aload_n C dX3_solve_10 0 rfl ?_
      refine at_iconst (v := 0) C dX3_solve_11 (by decide) ?_
      refine pC_X3_37 C hD dX3_solve_12 (fun s1 es1 => ?_)
      replace h := h s1 es1
      refine at_aload_n C dX3_solve_15 0 rfl ?_
      refine at_iload_n C dX3_solve_16 1 rfl ?_
      refine at_iconst (v := 0) C dX3_solve_17 (by decide) ?_
      refine at_callVi C (kX3_reach l D ad T hI 14 _ _ _ _ h) ok_X3_reach m_X3_49 mi_X3_reach ml_X3_reach (wC_g26 T ad _) rfl ⟨rfl, rfl, Nat.le_of_ble_eq_true rfl, Nat.le_of_ble_eq_true rfl⟩ rfl rfl (Nat.le_of_ble_eq_true rfl) dX3_solve_18 (fun r3 s2 h => ?_)
      refine at_pop C dX3_solve_21 rfl ?_
      obtain ⟨x4, ex4⟩ : ∃ y : Int32, y = v1 + 1 := ⟨_, rfl⟩
      replace h := h x4 ex4
      refine at_iinc (v := x4) (lv' := [(0, .ref (ad 26)), (1, .int x4)]) C dX3_solve_22 1 rfl (by rw [ex4]; rfl) (by decide) [1, 0] rfl ?_
      refine at_goto (tgt := 2) C dX3_solve_25 (by decide) ?_
      exact hR2 _ _ h
  have t2 : ∀ (n : Nat) (v1 : Int32) (σ : St), qX3_solve_l2  Q n v1 σ → At X 3 (wC T ad σ) 2 [(0, .ref (ad 26)), (1, .int v1)] [] := by
    intro  n
    induction n with
    | zero => intro v1 σ h; exact False.elim h
    | succ n ih => intro v1 σ h; exact tb2 (qX3_solve_l2  Q n) ih v1 σ h
  unfold pX3_solve at h
  refine at_iconst (v := 0) C dX3_solve_0 (by decide) ?_
  refine at_istore_n (lv' := [(0, .ref (ad 26)), (1, .int 0)]) C dX3_solve_1 (by decide) [1, 0] rfl ?_
  obtain ⟨n, h⟩ := h
  exact t2  n _ _ h
theorem m_X3_40 : Cond.methodLink RX3 40 Lib.Math.max.name ∈ gW := gW_in 470 (by decide +kernel) (by decide +kernel)
theorem ms_mathmax : Cond.static Lib.Math.max.name ∈ gW := gW_in 471 (by decide +kernel) (by decide +kernel)
theorem mz_RJ9 : Cond.initialized "java/lang/Math" ∈ gW := gW_in 92 (by decide +kernel) (by decide +kernel)
theorem mc_mathmax : Cond.code Lib.Math.max.name Lib.Math.max.code 2 (some .int) ∈ gW := gW_in 472 (by decide +kernel) (by decide +kernel)
theorem m_X3_46 : Cond.methodLink RX3 46 Lib.Math.min.name ∈ gW := gW_in 473 (by decide +kernel) (by decide +kernel)
theorem ms_mathmin : Cond.static Lib.Math.min.name ∈ gW := gW_in 474 (by decide +kernel) (by decide +kernel)
theorem mc_mathmin : Cond.code Lib.Math.min.name Lib.Math.min.code 2 (some .int) ∈ gW := gW_in 475 (by decide +kernel) (by decide +kernel)
theorem pC_X3_27 {X : XT} {l : Launch} {D : va_G} {ad : Nat → Nat} {T : TT} {cc : ByteArray} {nL fr lo : Nat} {σ : St} {pc : Nat} {lv : List (Nat × Value)} {st : List Value} {x : Int32} (C : Cx X (KC l D ad T) cc RX3 nL fr lo) (hD : ∀ σ, DX X (wC T ad σ)) (d : decode cc pc = .ok (.putfield 27, 3)) (kk : ∀ u2 : St, u2 = (st_up σ 26 5 x) → At X nL (wC T ad u2) (pc + 3) lv st) : At X nL (wC T ad σ) pc lv (.int x :: .ref (ad 26) :: st) := at_puti C ingX3 tyX3 tyX3_ok nmX3 (ci := 3) rfl (hD σ) 26 (wC_g26 T ad σ) 5 (by decide) m_X3_27 rfl rfl (by decide +kernel) (Nat.le_of_ble_eq_true rfl) rfl d (kk _ rfl)
theorem pC_X3_31 {X : XT} {l : Launch} {D : va_G} {ad : Nat → Nat} {T : TT} {cc : ByteArray} {nL fr lo : Nat} {σ : St} {pc : Nat} {lv : List (Nat × Value)} {st : List Value} {x : Int32} (C : Cx X (KC l D ad T) cc RX3 nL fr lo) (hD : ∀ σ, DX X (wC T ad σ)) (d : decode cc pc = .ok (.putfield 31, 3)) (kk : ∀ u2 : St, u2 = (st_up σ 26 6 x) → At X nL (wC T ad u2) (pc + 3) lv st) : At X nL (wC T ad σ) pc lv (.int x :: .ref (ad 26) :: st) := at_puti C ingX3 tyX3 tyX3_ok nmX3 (ci := 3) rfl (hD σ) 26 (wC_g26 T ad σ) 6 (by decide) m_X3_31 rfl rfl (by decide +kernel) (Nat.le_of_ble_eq_true rfl) rfl d (kk _ rfl)
def qX3_start_35 (R35 : Int32 → St → Prop) (Q : St → Prop) (v3 : Int32) (σ : St) : Prop := ((12 ≤ v3 → (Q σ)) ∧ (¬ 12 ≤ v3 → (vp_in v3 12 ∧ ∀ s4 : St, s4 = (st_up σ 27 (Int32.toNatClampNeg v3) 0) → (vp_in v3 12 ∧ ∀ s5 : St, s5 = (st_up s4 28 (Int32.toNatClampNeg v3) (-1)) → (vp_in v3 12 ∧ ∀ s6 : St, s6 = (st_up s5 29 (Int32.toNatClampNeg v3) (-1)) → ∀ x7 : Int32, x7 = v3 + 1 → R35 x7 s6)))))
def qX3_start_l35  (Q : St → Prop) : Nat → Int32 → St → Prop
  | 0 => fun _ _ => False
  | n + 1 => qX3_start_35 (qX3_start_l35  Q n) Q
def pX3_start (v1 : Int32) (v2 : Int32) (σ : St) (Q : St → Prop) : Prop := ∀ s1 : St, s1 = (st_up σ 26 5 (if 12 < (if v1 < 0 then 0 else v1) then 12 else (if v1 < 0 then 0 else v1))) → ∀ s2 : St, s2 = (st_up s1 26 6 (if 12 < (if v2 < 0 then 0 else v2) then 12 else (if v2 < 0 then 0 else v2))) → ∀ s3 : St, s3 = (st_up s2 26 7 0) → (∃ n, qX3_start_l35  Q n 0 s3)
set_option maxRecDepth 100000 in
set_option maxHeartbeats 4000000 in
theorem kX3_start (l : Launch) (D : va_G) (ad : Nat → Nat) (T : TT) (hI : injA 40 ad) (v1 : Int32) (v2 : Int32) (σ : St) (Q : St → Prop) (h : pX3_start v1 v2 σ Q) : Kv (KC l D ad T) (wC T ad) yX3_start cX3_start 4 none { frames := 1, cells := 0, slots := 0, locals := 24 } [.ref (ad 26), .int v1, .int v2] (wC T ad σ) Q := by
  refine st_MV (fr := 1) (lo := 24) (by decide) ⟨rfl, rfl⟩ rfl (Nat.le_of_ble_eq_true rfl) rfl (fun X C hD ret => ?_)
  replace hD : ∀ σ, DX X (wC T ad σ) := fun σ => hD _ (wC_D hI T σ)
  have tb35 : ∀ (R35 : Int32 → St → Prop) (hR35 : ∀ (v3 : Int32) (σ : St), R35 v3 σ → At X 4 (wC T ad σ) 35 [(0, .ref (ad 26)), (3, .int v3)] []) (v3 : Int32) (σ : St), qX3_start_35 R35 Q v3 σ → At X 4 (wC T ad σ) 35 [(0, .ref (ad 26)), (3, .int v3)] [] := by
    intro R35 hR35 v3 σ h
    unfold qX3_start_35 at h
    refine at_iload_n C dX3_start_35 1 rfl ?_
    refine at_bipush (v := 12) C dX3_start_36 (by decide) ?_
    refine at_icmp_ge (tgt := 68) C dX3_start_38 (by decide) (fun hc => ?_) (fun hc => ?_)
    · replace h := h.1 hc
      exact ret _ _ _ dX3_start_68 h
    · replace h := h.2 hc
      refine at_aload_n C dX3_start_41 0 rfl ?_
      refine gC_X3_9 C dX3_start_42 ?_
      refine at_iload_n C dX3_start_45 1 rfl ?_
      refine at_iconst (v := 0) C dX3_start_46 (by decide) ?_
      obtain ⟨hi, h⟩ := h
      refine sC_27 C hD hi dX3_start_47 (fun s4 es4 => ?_)
      replace h := h s4 es4
      refine at_aload_n C dX3_start_48 0 rfl ?_
      refine gC_X3_15 C dX3_start_49 ?_
      refine at_iload_n C dX3_start_52 1 rfl ?_
      refine at_iconst (v := (-1)) C dX3_start_53 (by decide) ?_
      obtain ⟨hi, h⟩ := h
      refine sC_28 C hD hi dX3_start_54 (fun s5 es5 => ?_)
      replace h := h s5 es5
      refine at_aload_n C dX3_start_55 0 rfl ?_
      refine gC_X3_18 C dX3_start_56 ?_
      refine at_iload_n C dX3_start_59 1 rfl ?_
      refine at_iconst (v := (-1)) C dX3_start_60 (by decide) ?_
      obtain ⟨hi, h⟩ := h
      refine sC_29 C hD hi dX3_start_61 (fun s6 es6 => ?_)
      replace h := h s6 es6
      obtain ⟨x7, ex7⟩ : ∃ y : Int32, y = v3 + 1 := ⟨_, rfl⟩
      replace h := h x7 ex7
      refine at_iinc (v := x7) (lv' := [(0, .ref (ad 26)), (3, .int x7)]) C dX3_start_62 1 rfl (by rw [ex7]; rfl) (by decide) [1, 0] rfl ?_
      refine at_goto (tgt := 35) C dX3_start_65 (by decide) ?_
      exact hR35 _ _ h
  have t35 : ∀ (n : Nat) (v3 : Int32) (σ : St), qX3_start_l35  Q n v3 σ → At X 4 (wC T ad σ) 35 [(0, .ref (ad 26)), (3, .int v3)] [] := by
    intro  n
    induction n with
    | zero => intro v3 σ h; exact False.elim h
    | succ n ih => intro v3 σ h; exact tb35 (qX3_start_l35  Q n) ih v3 σ h
  unfold pX3_start at h
  refine at_aload_n C dX3_start_0 0 rfl ?_
  refine at_iload_n C dX3_start_1 1 rfl ?_
  refine at_iconst (v := 0) C dX3_start_2 (by decide) ?_
  refine at_mmax C m_X3_40 ms_mathmax mz_RJ9 mc_mathmax (Nat.le_of_ble_eq_true rfl) (Nat.le_of_ble_eq_true rfl) dX3_start_3 ?_
  refine at_bipush (v := 12) C dX3_start_6 (by decide) ?_
  refine at_mmin C m_X3_46 ms_mathmin mz_RJ9 mc_mathmin (Nat.le_of_ble_eq_true rfl) (Nat.le_of_ble_eq_true rfl) dX3_start_8 ?_
  refine pC_X3_27 C hD dX3_start_11 (fun s1 es1 => ?_)
  replace h := h s1 es1
  refine at_aload_n C dX3_start_14 0 rfl ?_
  refine at_iload_n C dX3_start_15 2 rfl ?_
  refine at_iconst (v := 0) C dX3_start_16 (by decide) ?_
  refine at_mmax C m_X3_40 ms_mathmax mz_RJ9 mc_mathmax (Nat.le_of_ble_eq_true rfl) (Nat.le_of_ble_eq_true rfl) dX3_start_17 ?_
  refine at_bipush (v := 12) C dX3_start_20 (by decide) ?_
  refine at_mmin C m_X3_46 ms_mathmin mz_RJ9 mc_mathmin (Nat.le_of_ble_eq_true rfl) (Nat.le_of_ble_eq_true rfl) dX3_start_22 ?_
  refine pC_X3_31 C hD dX3_start_25 (fun s2 es2 => ?_)
  replace h := h s2 es2
  refine at_aload_n C dX3_start_28 0 rfl ?_
  refine at_iconst (v := 0) C dX3_start_29 (by decide) ?_
  refine pC_X3_34 C hD dX3_start_30 (fun s3 es3 => ?_)
  replace h := h s3 es3
  refine at_iconst (v := 0) C dX3_start_33 (by decide) ?_
  refine at_istore_n (lv' := [(0, .ref (ad 26)), (1, .int v1), (2, .int v2), (3, .int 0)]) C dX3_start_34 (by decide) [1, 2, 3, 0] rfl ?_
  refine at_sub [0, 3] rfl ?_
  obtain ⟨n, h⟩ := h
  exact t35  n _ _ h
def pX3_allow (v1 : Int32) (v2 : Int32) (σ : St) (Q : St → Prop) : Prop := (vp_in v1 12 ∧ (vp_in v1 12 ∧ ∀ s1 : St, s1 = (st_up σ 27 (Int32.toNatClampNeg v1) ((σ 27 (Int32.toNatClampNeg v1)) ||| (1 <<< (v2 &&& 31)))) → (Q s1)))
set_option maxRecDepth 100000 in
set_option maxHeartbeats 4000000 in
theorem kX3_allow (l : Launch) (D : va_G) (ad : Nat → Nat) (T : TT) (hI : injA 40 ad) (v1 : Int32) (v2 : Int32) (σ : St) (Q : St → Prop) (h : pX3_allow v1 v2 σ Q) : Kv (KC l D ad T) (wC T ad) yX3_allow cX3_allow 3 none { frames := 0, cells := 0, slots := 0, locals := 0 } [.ref (ad 26), .int v1, .int v2] (wC T ad σ) Q := by
  refine st_MV (fr := 0) (lo := 0) (by decide) ⟨rfl, rfl⟩ rfl (Nat.le_of_ble_eq_true rfl) rfl (fun X C hD ret => ?_)
  replace hD : ∀ σ, DX X (wC T ad σ) := fun σ => hD _ (wC_D hI T σ)
  unfold pX3_allow at h
  refine at_aload_n C dX3_allow_0 0 rfl ?_
  refine gC_X3_9 C dX3_allow_1 ?_
  refine at_iload_n C dX3_allow_4 1 rfl ?_
  refine at_dup2 C dX3_allow_5 rfl rfl ?_
  obtain ⟨hi, h⟩ := h
  refine rC_27 C hi dX3_allow_6 ?_
  refine at_iconst (v := 1) C dX3_allow_7 (by decide) ?_
  refine at_iload_n C dX3_allow_8 2 rfl ?_
  refine at_ishl C dX3_allow_9 ?_
  refine at_ior C dX3_allow_10 ?_
  obtain ⟨hi, h⟩ := h
  refine sC_27 C hD hi dX3_allow_11 (fun s1 es1 => ?_)
  replace h := h s1 es1
  exact ret _ _ _ dX3_allow_12 h
theorem m_X1_25 : Cond.fieldLink RX1 25 RX1 "size" "I" ∈ gW := gW_in 133 (by decide +kernel) (by decide +kernel)
theorem gC_X1_25 {X : XT} {l : Launch} {D : va_G} {ad : Nat → Nat} {T : TT} {cc : ByteArray} {nL fr lo : Nat} {σ : St} {pc : Nat} {lv : List (Nat × Value)} {st : List Value} (C : Cx X (KC l D ad T) cc RX1 nL fr lo) (d : decode cc pc = .ok (.getfield 25, 3)) (kk : At X nL (wC T ad σ) (pc + 3) lv (.int (σ 4 4) :: st)) : At X nL (wC T ad σ) pc lv (.ref (ad 4) :: st) := at_get C ingX1 (ci := 1) rfl 4 (wC_g4 T ad σ) 4 (by decide) m_X1_25 rfl rfl d kk
def pX1_has (v1 : Int32) (σ : St) (Q : Int32 → St → Prop) : Prop := ((v1 < 0 → (Q 0 σ)) ∧ (¬ v1 < 0 → (((σ 4 4) ≤ v1 → (Q 0 σ)) ∧ (¬ (σ 4 4) ≤ v1 → (Q 1 σ)))))
set_option maxRecDepth 100000 in
set_option maxHeartbeats 4000000 in
theorem kX1_has (l : Launch) (D : va_G) (ad : Nat → Nat) (T : TT) (hI : injA 40 ad) (v1 : Int32) (σ : St) (Q : Int32 → St → Prop) (h : pX1_has v1 σ Q) : Ki (KC l D ad T) (wC T ad) yX1_has cX1_has 2 (some .boolean) { frames := 0, cells := 0, slots := 0, locals := 0 } [.ref (ad 4), .int v1] (wC T ad σ) Q := by
  refine st_MZ (fr := 0) (lo := 0) (by decide) ⟨rfl, rfl⟩ rfl (Nat.le_of_ble_eq_true rfl) rfl (fun X C hD ret => ?_)
  replace hD : ∀ σ, DX X (wC T ad σ) := fun σ => hD _ (wC_D hI T σ)
  unfold pX1_has at h
  refine at_iload_n C dX1_has_0 1 rfl ?_
  refine at_if_lt (tgt := 16) C dX1_has_1 (by decide) (fun hc => ?_) (fun hc => ?_)
  · replace h := h.1 hc
    refine at_iconst (v := 0) C dX1_has_16 (by decide) ?_
    exact ret _ _ _ _ dX1_has_17 rfl h
  · replace h := h.2 hc
    refine at_iload_n C dX1_has_4 1 rfl ?_
    refine at_aload_n C dX1_has_5 0 rfl ?_
    refine gC_X1_25 C dX1_has_6 ?_
    refine at_icmp_ge (tgt := 16) C dX1_has_9 (by decide) (fun hc => ?_) (fun hc => ?_)
    · replace h := h.1 hc
      refine at_iconst (v := 0) C dX1_has_16 (by decide) ?_
      exact ret _ _ _ _ dX1_has_17 rfl h
    · replace h := h.2 hc
      refine at_iconst (v := 1) C dX1_has_12 (by decide) ?_
      refine at_goto (tgt := 17) C dX1_has_13 (by decide) ?_
      exact ret _ _ _ _ dX1_has_17 rfl h
theorem m_X1_29 : Cond.methodLink RX1 29 yX1_has ∈ gW := gW_in 364 (by decide +kernel) (by decide +kernel)
theorem mc_X1_has : Cond.code yX1_has cX1_has 2 (some .boolean) ∈ gW := gW_in 367 (by decide +kernel) (by decide +kernel)
theorem mz_RX1 : Cond.initialized RX1 ∈ gW := gW_in 84 (by decide +kernel) (by decide +kernel)
theorem ok_X1_has : okM yX1_has cX1_has 2 (some .boolean) 1 := ⟨mc_X1_has, mz_RX1, by decide +kernel⟩
theorem mi_X1_has : Cond.instanceMethod yX1_has ∈ gW := gW_in 366 (by decide +kernel) (by decide +kernel)
theorem ml_X1_has : Cond.selects RX1 yX1_has yX1_has ∈ gW := gW_in 2 (by decide +kernel) (by decide +kernel)
theorem m_X1_9 : Cond.fieldLink RX1 9 RX1 "slowest" "[I" ∈ gW := gW_in 128 (by decide +kernel) (by decide +kernel)
theorem gC_X1_9 {X : XT} {l : Launch} {D : va_G} {ad : Nat → Nat} {T : TT} {cc : ByteArray} {nL fr lo : Nat} {σ : St} {pc : Nat} {lv : List (Nat × Value)} {st : List Value} (C : Cx X (KC l D ad T) cc RX1 nL fr lo) (d : decode cc pc = .ok (.getfield 9, 3)) (kk : At X nL (wC T ad σ) (pc + 3) lv (.ref (ad 5) :: st)) : At X nL (wC T ad σ) pc lv (.ref (ad 4) :: st) := at_get C ingX1 (ci := 1) rfl 4 (wC_g4 T ad σ) 0 (by decide) m_X1_9 rfl rfl d kk
theorem m_X1_15 : Cond.fieldLink RX1 15 RX1 "fastest" "[I" ∈ gW := gW_in 129 (by decide +kernel) (by decide +kernel)
theorem gC_X1_15 {X : XT} {l : Launch} {D : va_G} {ad : Nat → Nat} {T : TT} {cc : ByteArray} {nL fr lo : Nat} {σ : St} {pc : Nat} {lv : List (Nat × Value)} {st : List Value} (C : Cx X (KC l D ad T) cc RX1 nL fr lo) (d : decode cc pc = .ok (.getfield 15, 3)) (kk : At X nL (wC T ad σ) (pc + 3) lv (.ref (ad 6) :: st)) : At X nL (wC T ad σ) pc lv (.ref (ad 4) :: st) := at_get C ingX1 (ci := 1) rfl 4 (wC_g4 T ad σ) 1 (by decide) m_X1_15 rfl rfl d kk
theorem m_X1_18 : Cond.fieldLink RX1 18 RX1 "upward" "[I" ∈ gW := gW_in 130 (by decide +kernel) (by decide +kernel)
theorem gC_X1_18 {X : XT} {l : Launch} {D : va_G} {ad : Nat → Nat} {T : TT} {cc : ByteArray} {nL fr lo : Nat} {σ : St} {pc : Nat} {lv : List (Nat × Value)} {st : List Value} (C : Cx X (KC l D ad T) cc RX1 nL fr lo) (d : decode cc pc = .ok (.getfield 18, 3)) (kk : At X nL (wC T ad σ) (pc + 3) lv (.ref (ad 7) :: st)) : At X nL (wC T ad σ) pc lv (.ref (ad 4) :: st) := at_get C ingX1 (ci := 1) rfl 4 (wC_g4 T ad σ) 2 (by decide) m_X1_18 rfl rfl d kk
theorem m_X1_21 : Cond.fieldLink RX1 21 RX1 "isLeaf" "[Z" ∈ gW := gW_in 131 (by decide +kernel) (by decide +kernel)
theorem gC_X1_21 {X : XT} {l : Launch} {D : va_G} {ad : Nat → Nat} {T : TT} {cc : ByteArray} {nL fr lo : Nat} {σ : St} {pc : Nat} {lv : List (Nat × Value)} {st : List Value} (C : Cx X (KC l D ad T) cc RX1 nL fr lo) (d : decode cc pc = .ok (.getfield 21, 3)) (kk : At X nL (wC T ad σ) (pc + 3) lv (.ref (ad 8) :: st)) : At X nL (wC T ad σ) pc lv (.ref (ad 4) :: st) := at_get C ingX1 (ci := 1) rfl 4 (wC_g4 T ad σ) 3 (by decide) m_X1_21 rfl rfl d kk
theorem pC_X1_25 {X : XT} {l : Launch} {D : va_G} {ad : Nat → Nat} {T : TT} {cc : ByteArray} {nL fr lo : Nat} {σ : St} {pc : Nat} {lv : List (Nat × Value)} {st : List Value} {x : Int32} (C : Cx X (KC l D ad T) cc RX1 nL fr lo) (hD : ∀ σ, DX X (wC T ad σ)) (d : decode cc pc = .ok (.putfield 25, 3)) (kk : ∀ u2 : St, u2 = (st_up σ 4 4 x) → At X nL (wC T ad u2) (pc + 3) lv st) : At X nL (wC T ad σ) pc lv (.int x :: .ref (ad 4) :: st) := at_puti C ingX1 tyX1 tyX1_ok nmX1 (ci := 1) rfl (hD σ) 4 (wC_g4 T ad σ) 4 (by decide) m_X1_25 rfl rfl (by decide +kernel) (Nat.le_of_ble_eq_true rfl) rfl d (kk _ rfl)
def pX1_add (v1 : Int32) (v2 : Int32) (v3 : Int32) (σ : St) (Q : Int32 → St → Prop) : Prop := (pX1_has v1 σ (fun r2 s1 => ((r2 = 0 → (Q (-1) s1)) ∧ (¬ r2 = 0 → (((s1 4 4) < 20 → ((v2 < 1 → (Q (-1) s1)) ∧ (¬ v2 < 1 → ((v3 < v2 → (Q (-1) s1)) ∧ (¬ v3 < v2 → ((v3 ≤ 400 → (vp_in (s1 4 4) 20 ∧ ∀ s3 : St, s3 = (st_up s1 5 (Int32.toNatClampNeg (s1 4 4)) v2) → (vp_in (s3 4 4) 20 ∧ ∀ s4 : St, s4 = (st_up s3 6 (Int32.toNatClampNeg (s3 4 4)) v3) → (vp_in v1 20 ∧ (vp_in (s4 4 4) 20 ∧ ∀ s5 : St, s5 = (st_up s4 7 (Int32.toNatClampNeg (s4 4 4)) ((s4 7 (Int32.toNatClampNeg v1)) ||| (1 <<< ((s4 4 4) &&& 31)))) → (vp_in (s5 4 4) 20 ∧ ∀ s6 : St, s6 = (st_up s5 8 (Int32.toNatClampNeg (s5 4 4)) (vp_nar .boolean 1)) → (vp_in v1 20 ∧ ∀ s7 : St, s7 = (st_up s6 8 (Int32.toNatClampNeg v1) (vp_nar .boolean 0)) → ∀ s8 : St, s8 = (st_up s7 4 4 ((s7 4 4) + 1)) → (Q ((s8 4 4) - 1) s8)))))))) ∧ (¬ v3 ≤ 400 → (Q (-1) s1)))))))) ∧ (¬ (s1 4 4) < 20 → (Q (-1) s1)))))))
set_option maxRecDepth 100000 in
set_option maxHeartbeats 4000000 in
theorem kX1_add (l : Launch) (D : va_G) (ad : Nat → Nat) (T : TT) (hI : injA 40 ad) (v1 : Int32) (v2 : Int32) (v3 : Int32) (σ : St) (Q : Int32 → St → Prop) (h : pX1_add v1 v2 v3 σ Q) : Ki (KC l D ad T) (wC T ad) yX1_add cX1_add 4 (some .int) { frames := 1, cells := 0, slots := 0, locals := 21 } [.ref (ad 4), .int v1, .int v2, .int v3] (wC T ad σ) Q := by
  refine st_MI (fr := 1) (lo := 21) (by decide) ⟨rfl, rfl⟩ rfl (Nat.le_of_ble_eq_true rfl) rfl (fun X C hD ret => ?_)
  replace hD : ∀ σ, DX X (wC T ad σ) := fun σ => hD _ (wC_D hI T σ)
  unfold pX1_add at h
  refine at_aload_n C dX1_add_0 0 rfl ?_
  refine at_iload_n C dX1_add_1 1 rfl ?_
  refine at_callVi C (kX1_has l D ad T hI _ _ _ h) ok_X1_has m_X1_29 mi_X1_has ml_X1_has (wC_g4 T ad _) rfl ⟨rfl, rfl, Nat.le_of_ble_eq_true rfl, Nat.le_of_ble_eq_true rfl⟩ rfl rfl (Nat.le_of_ble_eq_true rfl) dX1_add_2 (fun r2 s1 h => ?_)
  refine at_if_eq (tgt := 17) C dX1_add_5 (by decide) (fun hc => ?_) (fun hc => ?_)
  · replace h := h.1 hc
    refine at_iconst (v := (-1)) C dX1_add_17 (by decide) ?_
    exact ret _ _ _ _ dX1_add_18 h
  · replace h := h.2 hc
    refine at_aload_n C dX1_add_8 0 rfl ?_
    refine gC_X1_25 C dX1_add_9 ?_
    refine at_bipush (v := 20) C dX1_add_12 (by decide) ?_
    refine at_icmp_lt (tgt := 19) C dX1_add_14 (by decide) (fun hc => ?_) (fun hc => ?_)
    · replace h := h.1 hc
      refine at_iload_n C dX1_add_19 2 rfl ?_
      refine at_iconst (v := 1) C dX1_add_20 (by decide) ?_
      refine at_icmp_lt (tgt := 36) C dX1_add_21 (by decide) (fun hc => ?_) (fun hc => ?_)
      · replace h := h.1 hc
        refine at_iconst (v := (-1)) C dX1_add_36 (by decide) ?_
        exact ret _ _ _ _ dX1_add_37 h
      · replace h := h.2 hc
        refine at_iload_n C dX1_add_24 2 rfl ?_
        refine at_iload_n C dX1_add_25 3 rfl ?_
        refine at_icmp_gt (tgt := 36) C dX1_add_26 (by decide) (fun hc => ?_) (fun hc => ?_)
        · replace h := h.1 hc
          refine at_iconst (v := (-1)) C dX1_add_36 (by decide) ?_
          exact ret _ _ _ _ dX1_add_37 h
        · replace h := h.2 hc
          refine at_iload_n C dX1_add_29 3 rfl ?_
          refine at_sipush (v := 400) C dX1_add_30 (by decide) ?_
          refine at_icmp_le (tgt := 38) C dX1_add_33 (by decide) (fun hc => ?_) (fun hc => ?_)
          · replace h := h.1 hc
            refine at_aload_n C dX1_add_38 0 rfl ?_
            refine gC_X1_9 C dX1_add_39 ?_
            refine at_aload_n C dX1_add_42 0 rfl ?_
            refine gC_X1_25 C dX1_add_43 ?_
            refine at_iload_n C dX1_add_46 2 rfl ?_
            obtain ⟨hi, h⟩ := h
            refine sC_5 C hD hi dX1_add_47 (fun s3 es3 => ?_)
            replace h := h s3 es3
            refine at_aload_n C dX1_add_48 0 rfl ?_
            refine gC_X1_15 C dX1_add_49 ?_
            refine at_aload_n C dX1_add_52 0 rfl ?_
            refine gC_X1_25 C dX1_add_53 ?_
            refine at_iload_n C dX1_add_56 3 rfl ?_
            obtain ⟨hi, h⟩ := h
            refine sC_6 C hD hi dX1_add_57 (fun s4 es4 => ?_)
            replace h := h s4 es4
            refine at_aload_n C dX1_add_58 0 rfl ?_
            refine gC_X1_18 C dX1_add_59 ?_
            refine at_aload_n C dX1_add_62 0 rfl ?_
            refine gC_X1_25 C dX1_add_63 ?_
            refine at_aload_n C dX1_add_66 0 rfl ?_
            refine gC_X1_18 C dX1_add_67 ?_
            refine at_iload_n C dX1_add_70 1 rfl ?_
            obtain ⟨hi, h⟩ := h
            refine rC_7 C hi dX1_add_71 ?_
            refine at_iconst (v := 1) C dX1_add_72 (by decide) ?_
            refine at_aload_n C dX1_add_73 0 rfl ?_
            refine gC_X1_25 C dX1_add_74 ?_
            refine at_ishl C dX1_add_77 ?_
            refine at_ior C dX1_add_78 ?_
            obtain ⟨hi, h⟩ := h
            refine sC_7 C hD hi dX1_add_79 (fun s5 es5 => ?_)
            replace h := h s5 es5
            refine at_aload_n C dX1_add_80 0 rfl ?_
            refine gC_X1_21 C dX1_add_81 ?_
            refine at_aload_n C dX1_add_84 0 rfl ?_
            refine gC_X1_25 C dX1_add_85 ?_
            refine at_iconst (v := 1) C dX1_add_88 (by decide) ?_
            obtain ⟨hi, h⟩ := h
            refine sC_8 C hD hi dX1_add_89 (fun s6 es6 => ?_)
            replace h := h s6 es6
            refine at_aload_n C dX1_add_90 0 rfl ?_
            refine gC_X1_21 C dX1_add_91 ?_
            refine at_iload_n C dX1_add_94 1 rfl ?_
            refine at_iconst (v := 0) C dX1_add_95 (by decide) ?_
            obtain ⟨hi, h⟩ := h
            refine sC_8 C hD hi dX1_add_96 (fun s7 es7 => ?_)
            replace h := h s7 es7
            refine at_aload_n C dX1_add_97 0 rfl ?_
            refine at_dup C dX1_add_98 rfl ?_
            refine gC_X1_25 C dX1_add_99 ?_
            refine at_iconst (v := 1) C dX1_add_102 (by decide) ?_
            refine at_iadd C dX1_add_103 ?_
            refine pC_X1_25 C hD dX1_add_104 (fun s8 es8 => ?_)
            replace h := h s8 es8
            refine at_aload_n C dX1_add_107 0 rfl ?_
            refine gC_X1_25 C dX1_add_108 ?_
            refine at_iconst (v := 1) C dX1_add_111 (by decide) ?_
            refine at_isub C dX1_add_112 ?_
            exact ret _ _ _ _ dX1_add_113 h
          · replace h := h.2 hc
            refine at_iconst (v := (-1)) C dX1_add_36 (by decide) ?_
            exact ret _ _ _ _ dX1_add_37 h
    · replace h := h.2 hc
      refine at_iconst (v := (-1)) C dX1_add_17 (by decide) ?_
      exact ret _ _ _ _ dX1_add_18 h
def qX1_leaves_24 (R4 : Int32 → Int32 → St → Prop) (Q : Int32 → St → Prop) (v1 : Int32) (v2 : Int32) (σ : St) : Prop := ∀ x2 : Int32, x2 = v2 + 1 → R4 v1 x2 σ
def qX1_leaves_4 (R4 : Int32 → Int32 → St → Prop) (Q : Int32 → St → Prop) (v1 : Int32) (v2 : Int32) (σ : St) : Prop := (((σ 4 4) ≤ v2 → (Q v1 σ)) ∧ (¬ (σ 4 4) ≤ v2 → (vp_in v2 20 ∧ (((σ 8 (Int32.toNatClampNeg v2)) = 0 → (qX1_leaves_24 R4 Q v1 v2 σ)) ∧ (¬ (σ 8 (Int32.toNatClampNeg v2)) = 0 → ∀ x1 : Int32, x1 = v1 + 1 → (qX1_leaves_24 R4 Q x1 v2 σ))))))
def qX1_leaves_l4  (Q : Int32 → St → Prop) : Nat → Int32 → Int32 → St → Prop
  | 0 => fun _ _ _ => False
  | n + 1 => qX1_leaves_4 (qX1_leaves_l4  Q n) Q
def pX1_leaves  (σ : St) (Q : Int32 → St → Prop) : Prop := (∃ n, qX1_leaves_l4  Q n 0 0 σ)
set_option maxRecDepth 100000 in
set_option maxHeartbeats 4000000 in
theorem kX1_leaves (l : Launch) (D : va_G) (ad : Nat → Nat) (T : TT) (hI : injA 40 ad)  (σ : St) (Q : Int32 → St → Prop) (h : pX1_leaves  σ Q) : Ki (KC l D ad T) (wC T ad) yX1_leaves cX1_leaves 3 (some .int) { frames := 0, cells := 0, slots := 0, locals := 0 } [.ref (ad 4)] (wC T ad σ) Q := by
  refine st_MI (fr := 0) (lo := 0) (by decide) ⟨rfl, rfl⟩ rfl (Nat.le_of_ble_eq_true rfl) rfl (fun X C hD ret => ?_)
  replace hD : ∀ σ, DX X (wC T ad σ) := fun σ => hD _ (wC_D hI T σ)
  have t24 : ∀ (R4 : Int32 → Int32 → St → Prop) (hR4 : ∀ (v1 : Int32) (v2 : Int32) (σ : St), R4 v1 v2 σ → At X 3 (wC T ad σ) 4 [(0, .ref (ad 4)), (1, .int v1), (2, .int v2)] []) (v1 : Int32) (v2 : Int32) (σ : St), qX1_leaves_24 R4 Q v1 v2 σ → At X 3 (wC T ad σ) 24 [(0, .ref (ad 4)), (1, .int v1), (2, .int v2)] [] := by
    intro R4 hR4 v1 v2 σ h
    unfold qX1_leaves_24 at h
    obtain ⟨x2, ex2⟩ : ∃ y : Int32, y = v2 + 1 := ⟨_, rfl⟩
    replace h := h x2 ex2
    refine at_iinc (v := x2) (lv' := [(0, .ref (ad 4)), (1, .int v1), (2, .int x2)]) C dX1_leaves_24 2 rfl (by rw [ex2]; rfl) (by decide) [1, 2, 0] rfl ?_
    refine at_goto (tgt := 4) C dX1_leaves_27 (by decide) ?_
    exact hR4 _ _ _ h
  have tb4 : ∀ (R4 : Int32 → Int32 → St → Prop) (hR4 : ∀ (v1 : Int32) (v2 : Int32) (σ : St), R4 v1 v2 σ → At X 3 (wC T ad σ) 4 [(0, .ref (ad 4)), (1, .int v1), (2, .int v2)] []) (v1 : Int32) (v2 : Int32) (σ : St), qX1_leaves_4 R4 Q v1 v2 σ → At X 3 (wC T ad σ) 4 [(0, .ref (ad 4)), (1, .int v1), (2, .int v2)] [] := by
    intro R4 hR4 v1 v2 σ h
    unfold qX1_leaves_4 at h
    refine at_iload_n C dX1_leaves_4 2 rfl ?_
    refine at_aload_n C dX1_leaves_5 0 rfl ?_
    refine gC_X1_25 C dX1_leaves_6 ?_
    refine at_icmp_ge (tgt := 30) C dX1_leaves_9 (by decide) (fun hc => ?_) (fun hc => ?_)
    · replace h := h.1 hc
      refine at_iload_n C dX1_leaves_30 1 rfl ?_
      exact ret _ _ _ _ dX1_leaves_31 h
    · replace h := h.2 hc
      refine at_aload_n C dX1_leaves_12 0 rfl ?_
      refine gC_X1_21 C dX1_leaves_13 ?_
      refine at_iload_n C dX1_leaves_16 2 rfl ?_
      obtain ⟨hi, h⟩ := h
      refine rC_8 C hi dX1_leaves_17 ?_
      refine at_if_eq (tgt := 24) C dX1_leaves_18 (by decide) (fun hc => ?_) (fun hc => ?_)
      · replace h := h.1 hc
        exact t24 R4 hR4 _ _ _ h
      · replace h := h.2 hc
        obtain ⟨x1, ex1⟩ : ∃ y : Int32, y = v1 + 1 := ⟨_, rfl⟩
        replace h := h x1 ex1
        refine at_iinc (v := x1) (lv' := [(0, .ref (ad 4)), (1, .int x1), (2, .int v2)]) C dX1_leaves_21 1 rfl (by rw [ex1]; rfl) (by decide) [1, 0, 2] rfl ?_
        exact t24 R4 hR4 _ _ _ h
  have t4 : ∀ (n : Nat) (v1 : Int32) (v2 : Int32) (σ : St), qX1_leaves_l4  Q n v1 v2 σ → At X 3 (wC T ad σ) 4 [(0, .ref (ad 4)), (1, .int v1), (2, .int v2)] [] := by
    intro  n
    induction n with
    | zero => intro v1 v2 σ h; exact False.elim h
    | succ n ih => intro v1 v2 σ h; exact tb4 (qX1_leaves_l4  Q n) ih v1 v2 σ h
  unfold pX1_leaves at h
  refine at_iconst (v := 0) C dX1_leaves_0 (by decide) ?_
  refine at_istore_n (lv' := [(0, .ref (ad 4)), (1, .int 0)]) C dX1_leaves_1 (by decide) [1, 0] rfl ?_
  refine at_iconst (v := 0) C dX1_leaves_2 (by decide) ?_
  refine at_istore_n (lv' := [(0, .ref (ad 4)), (1, .int 0), (2, .int 0)]) C dX1_leaves_3 (by decide) [1, 2, 0] rfl ?_
  obtain ⟨n, h⟩ := h
  exact t4  n _ _ _ h
theorem m_X6_15 : Cond.fieldLink RX6 15 RX6 "size" "I" ∈ gW := gW_in 113 (by decide +kernel) (by decide +kernel)
theorem gC_X6_15 {X : XT} {l : Launch} {D : va_G} {ad : Nat → Nat} {T : TT} {cc : ByteArray} {nL fr lo : Nat} {σ : St} {pc : Nat} {lv : List (Nat × Value)} {st : List Value} (C : Cx X (KC l D ad T) cc RX6 nL fr lo) (d : decode cc pc = .ok (.getfield 15, 3)) (kk : At X nL (wC T ad σ) (pc + 3) lv (.int (σ 2 1) :: st)) : At X nL (wC T ad σ) pc lv (.ref (ad 2) :: st) := at_get C ingX6 (ci := 6) rfl 2 (wC_g2 T ad σ) 1 (by decide) m_X6_15 rfl rfl d kk
theorem m_X6_9 : Cond.fieldLink RX6 9 RX6 "place" "[I" ∈ gW := gW_in 112 (by decide +kernel) (by decide +kernel)
theorem gC_X6_9 {X : XT} {l : Launch} {D : va_G} {ad : Nat → Nat} {T : TT} {cc : ByteArray} {nL fr lo : Nat} {σ : St} {pc : Nat} {lv : List (Nat × Value)} {st : List Value} (C : Cx X (KC l D ad T) cc RX6 nL fr lo) (d : decode cc pc = .ok (.getfield 9, 3)) (kk : At X nL (wC T ad σ) (pc + 3) lv (.ref (ad 3) :: st)) : At X nL (wC T ad σ) pc lv (.ref (ad 2) :: st) := at_get C ingX6 (ci := 6) rfl 2 (wC_g2 T ad σ) 0 (by decide) m_X6_9 rfl rfl d kk
theorem pC_X6_15 {X : XT} {l : Launch} {D : va_G} {ad : Nat → Nat} {T : TT} {cc : ByteArray} {nL fr lo : Nat} {σ : St} {pc : Nat} {lv : List (Nat × Value)} {st : List Value} {x : Int32} (C : Cx X (KC l D ad T) cc RX6 nL fr lo) (hD : ∀ σ, DX X (wC T ad σ)) (d : decode cc pc = .ok (.putfield 15, 3)) (kk : ∀ u2 : St, u2 = (st_up σ 2 1 x) → At X nL (wC T ad u2) (pc + 3) lv st) : At X nL (wC T ad σ) pc lv (.int x :: .ref (ad 2) :: st) := at_puti C ingX6 tyX6 tyX6_ok nmX6 (ci := 6) rfl (hD σ) 2 (wC_g2 T ad σ) 1 (by decide) m_X6_15 rfl rfl (by decide +kernel) (Nat.le_of_ble_eq_true rfl) rfl d (kk _ rfl)
def qX6_add_45  (Q : Int32 → St → Prop) (v1 : Int32) (σ : St) : Prop := (vp_in (σ 2 1) 4 ∧ ∀ s1 : St, s1 = (st_up σ 3 (Int32.toNatClampNeg (σ 2 1)) v1) → ∀ s2 : St, s2 = (st_up s1 2 1 ((s1 2 1) + 1)) → (Q ((s2 2 1) - 1) s2))
def pX6_add (v1 : Int32) (σ : St) (Q : Int32 → St → Prop) : Prop := ((4 ≤ (σ 2 1) → (Q (-1) σ)) ∧ (¬ 4 ≤ (σ 2 1) → ((v1 < 0 → (Q (-1) σ)) ∧ (¬ v1 < 0 → ((v1 ≤ 400 → (((σ 2 1) ≤ 0 → (qX6_add_45  Q v1 σ)) ∧ (¬ (σ 2 1) ≤ 0 → (vp_in ((σ 2 1) - 1) 4 ∧ (((σ 3 (Int32.toNatClampNeg ((σ 2 1) - 1))) < v1 → (qX6_add_45  Q v1 σ)) ∧ (¬ (σ 3 (Int32.toNatClampNeg ((σ 2 1) - 1))) < v1 → (Q (-1) σ))))))) ∧ (¬ v1 ≤ 400 → (Q (-1) σ)))))))
set_option maxRecDepth 100000 in
set_option maxHeartbeats 4000000 in
theorem kX6_add (l : Launch) (D : va_G) (ad : Nat → Nat) (T : TT) (hI : injA 40 ad) (v1 : Int32) (σ : St) (Q : Int32 → St → Prop) (h : pX6_add v1 σ Q) : Ki (KC l D ad T) (wC T ad) yX6_add cX6_add 2 (some .int) { frames := 0, cells := 0, slots := 0, locals := 0 } [.ref (ad 2), .int v1] (wC T ad σ) Q := by
  refine st_MI (fr := 0) (lo := 0) (by decide) ⟨rfl, rfl⟩ rfl (Nat.le_of_ble_eq_true rfl) rfl (fun X C hD ret => ?_)
  replace hD : ∀ σ, DX X (wC T ad σ) := fun σ => hD _ (wC_D hI T σ)
  have t45 : ∀ (v1 : Int32) (σ : St), qX6_add_45  Q v1 σ → At X 2 (wC T ad σ) 45 [(0, .ref (ad 2)), (1, .int v1)] [] := by
    intro v1 σ h
    unfold qX6_add_45 at h
    refine at_aload_n C dX6_add_45 0 rfl ?_
    refine gC_X6_9 C dX6_add_46 ?_
    refine at_aload_n C dX6_add_49 0 rfl ?_
    refine gC_X6_15 C dX6_add_50 ?_
    refine at_iload_n C dX6_add_53 1 rfl ?_
    obtain ⟨hi, h⟩ := h
    refine sC_3 C hD hi dX6_add_54 (fun s1 es1 => ?_)
    replace h := h s1 es1
    refine at_aload_n C dX6_add_55 0 rfl ?_
    refine at_dup C dX6_add_56 rfl ?_
    refine gC_X6_15 C dX6_add_57 ?_
    refine at_iconst (v := 1) C dX6_add_60 (by decide) ?_
    refine at_iadd C dX6_add_61 ?_
    refine pC_X6_15 C hD dX6_add_62 (fun s2 es2 => ?_)
    replace h := h s2 es2
    refine at_aload_n C dX6_add_65 0 rfl ?_
    refine gC_X6_15 C dX6_add_66 ?_
    refine at_iconst (v := 1) C dX6_add_69 (by decide) ?_
    refine at_isub C dX6_add_70 ?_
    exact ret _ _ _ _ dX6_add_71 h
  unfold pX6_add at h
  refine at_aload_n C dX6_add_0 0 rfl ?_
  refine gC_X6_15 C dX6_add_1 ?_
  refine at_iconst (v := 4) C dX6_add_4 (by decide) ?_
  refine at_icmp_ge (tgt := 19) C dX6_add_5 (by decide) (fun hc => ?_) (fun hc => ?_)
  · replace h := h.1 hc
    refine at_iconst (v := (-1)) C dX6_add_19 (by decide) ?_
    exact ret _ _ _ _ dX6_add_20 h
  · replace h := h.2 hc
    refine at_iload_n C dX6_add_8 1 rfl ?_
    refine at_if_lt (tgt := 19) C dX6_add_9 (by decide) (fun hc => ?_) (fun hc => ?_)
    · replace h := h.1 hc
      refine at_iconst (v := (-1)) C dX6_add_19 (by decide) ?_
      exact ret _ _ _ _ dX6_add_20 h
    · replace h := h.2 hc
      refine at_iload_n C dX6_add_12 1 rfl ?_
      refine at_sipush (v := 400) C dX6_add_13 (by decide) ?_
      refine at_icmp_le (tgt := 21) C dX6_add_16 (by decide) (fun hc => ?_) (fun hc => ?_)
      · replace h := h.1 hc
        refine at_aload_n C dX6_add_21 0 rfl ?_
        refine gC_X6_15 C dX6_add_22 ?_
        refine at_if_le (tgt := 45) C dX6_add_25 (by decide) (fun hc => ?_) (fun hc => ?_)
        · replace h := h.1 hc
          exact t45  _ _ h
        · replace h := h.2 hc
          refine at_iload_n C dX6_add_28 1 rfl ?_
          refine at_aload_n C dX6_add_29 0 rfl ?_
          refine gC_X6_9 C dX6_add_30 ?_
          refine at_aload_n C dX6_add_33 0 rfl ?_
          refine gC_X6_15 C dX6_add_34 ?_
          refine at_iconst (v := 1) C dX6_add_37 (by decide) ?_
          refine at_isub C dX6_add_38 ?_
          obtain ⟨hi, h⟩ := h
          refine rC_3 C hi dX6_add_39 ?_
          refine at_icmp_gt (tgt := 45) C dX6_add_40 (by decide) (fun hc => ?_) (fun hc => ?_)
          · replace h := h.1 hc
            exact t45  _ _ h
          · replace h := h.2 hc
            refine at_iconst (v := (-1)) C dX6_add_43 (by decide) ?_
            exact ret _ _ _ _ dX6_add_44 h
      · replace h := h.2 hc
        refine at_iconst (v := (-1)) C dX6_add_19 (by decide) ?_
        exact ret _ _ _ _ dX6_add_20 h
def pX6_has (v1 : Int32) (σ : St) (Q : Int32 → St → Prop) : Prop := ((v1 < 0 → (Q 0 σ)) ∧ (¬ v1 < 0 → (((σ 2 1) ≤ v1 → (Q 0 σ)) ∧ (¬ (σ 2 1) ≤ v1 → (Q 1 σ)))))
set_option maxRecDepth 100000 in
set_option maxHeartbeats 4000000 in
theorem kX6_has (l : Launch) (D : va_G) (ad : Nat → Nat) (T : TT) (hI : injA 40 ad) (v1 : Int32) (σ : St) (Q : Int32 → St → Prop) (h : pX6_has v1 σ Q) : Ki (KC l D ad T) (wC T ad) yX6_has cX6_has 2 (some .boolean) { frames := 0, cells := 0, slots := 0, locals := 0 } [.ref (ad 2), .int v1] (wC T ad σ) Q := by
  refine st_MZ (fr := 0) (lo := 0) (by decide) ⟨rfl, rfl⟩ rfl (Nat.le_of_ble_eq_true rfl) rfl (fun X C hD ret => ?_)
  replace hD : ∀ σ, DX X (wC T ad σ) := fun σ => hD _ (wC_D hI T σ)
  unfold pX6_has at h
  refine at_iload_n C dX6_has_0 1 rfl ?_
  refine at_if_lt (tgt := 16) C dX6_has_1 (by decide) (fun hc => ?_) (fun hc => ?_)
  · replace h := h.1 hc
    refine at_iconst (v := 0) C dX6_has_16 (by decide) ?_
    exact ret _ _ _ _ dX6_has_17 rfl h
  · replace h := h.2 hc
    refine at_iload_n C dX6_has_4 1 rfl ?_
    refine at_aload_n C dX6_has_5 0 rfl ?_
    refine gC_X6_15 C dX6_has_6 ?_
    refine at_icmp_ge (tgt := 16) C dX6_has_9 (by decide) (fun hc => ?_) (fun hc => ?_)
    · replace h := h.1 hc
      refine at_iconst (v := 0) C dX6_has_16 (by decide) ?_
      exact ret _ _ _ _ dX6_has_17 rfl h
    · replace h := h.2 hc
      refine at_iconst (v := 1) C dX6_has_12 (by decide) ?_
      refine at_goto (tgt := 17) C dX6_has_13 (by decide) ?_
      exact ret _ _ _ _ dX6_has_17 rfl h
