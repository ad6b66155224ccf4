/-! counting -/
theorem lpG (W : Nat → Int32 → Int32 → Prop) (g : Nat → Nat) (N : Nat) (h0 : g 0 = 0) (hend : ∀ n, W (n + 1) (nI (g N)) (nI N)) (hstep : ∀ n i, i < N → W n (nI (g (i + 1))) (nI (i + 1)) → W (n + 1) (nI (g i)) (nI i)) : ∃ n, W n 0 0 := by
  have key : ∀ (r i : Nat), i + r = N → W (r + 1) (nI (g i)) (nI i) := by
    intro r
    induction r with
    | zero =>
      intro i h
      have e : i = N := by omega
      subst e
      exact hend 0
    | succ r ih =>
      intro i h
      exact hstep (r + 1) i (by omega) (ih (i + 1) (by omega))
  have k := key N 0 (by omega)
  rw [h0] at k
  exact ⟨N + 1, k⟩
theorem lpS {S : Type} (W : Nat → Int32 → S → Prop) (I : Nat → S → Prop) (N : Nat) (hend : ∀ n s, I N s → W (n + 1) (nI N) s) (hstep : ∀ n i s, i < N → I i s → (∀ s2, I (i + 1) s2 → W n (nI (i + 1)) s2) → W (n + 1) (nI i) s) (s0 : S) (h0 : I 0 s0) : ∃ n, W n 0 s0 := by
  have key : ∀ (r i : Nat) (s : S), i + r = N → I i s → W (r + 1) (nI i) s := by
    intro r
    induction r with
    | zero =>
      intro i s h hs
      have e : i = N := by omega
      subst e
      exact hend 0 s hs
    | succ r ih =>
      intro i s h hs
      exact hstep (r + 1) i s (by omega) hs (fun s2 h2 => ih (i + 1) s2 (by omega) h2)
  exact ⟨N + 1, key N 0 s0 (by omega) h0⟩
theorem ct_y {P : Nat → Bool} {i : Nat} (h : P i = true) : fb_ct P (i + 1) = fb_ct P i + 1 := by rw [fb_ct_succ, if_pos h]
theorem ct_n {P : Nat → Bool} {i : Nat} (h : P i = false) : fb_ct P (i + 1) = fb_ct P i := by rw [fb_ct_succ, h]; rfl
theorem ct_300 {A : AS} (hW : WF A) (P : Nat → Bool) {i : Nat} (h : i ≤ aSh A) : fb_ct P i ≤ 300 := by
  have := fb_ct_le P i
  have := hW.n
  have := sh_le A
  omega
def tlN (A : AS) (y : Nat) : Nat := fb_ct (fun t => decide (A 5 t = y)) (aSh A)
noncomputable def prN (A : AS) (y : Nat) : Nat := fb_ct (fun t => decide (A 5 t = y) && (UPo A t).isSome) (aSh A)
noncomputable def bn (A : AS) (y : Nat) : Nat := fb_ct (isb A y) (aSh A)
noncomputable def ow (A : AS) (y k : Nat) : Nat := fb_ct (fun t => isb A y t && decide (bkd A t = k)) (aSh A)
noncomputable def sn (A : AS) (y w : Nat) : Nat := fb_ct (fun t => isb A y t && decide (A 12 (aDt A t) = w)) (aSh A)
theorem c_shownIn {A : AS} {y : Nat} {σ : St} {Q : Int32 → St → Prop} (hC : RC σ A) (hW : WF A) (hy : y < 6) (hQ : Q (nI (tlN A y)) σ) : pX2_shownIn (nI y) σ Q := by
  have hsh := sh_le A
  have h300 := hW.n
  unfold pX2_shownIn
  refine lpG (fun n c i => qX2_shownIn_l4 Q n (nI y) c i σ) (fb_ct (fun t => decide (A 5 t = y))) (aSh A) rfl (fun n => ?_) (fun n i hi ih => ?_)
  · show qX2_shownIn_4 (qX2_shownIn_l4 Q n) Q _ _ _ _
    unfold qX2_shownIn_4
    exact pk_le (aSh A) (aSh A) (fun _ => hQ) (fun h => by omega) (hx := hC.shown)
  · show qX2_shownIn_4 (qX2_shownIn_l4 Q n) Q _ _ _ _
    unfold qX2_shownIn_4
    refine pk_le (aSh A) i (fun h => by omega) (fun _ => c_isIn hC hW (by omega) hy (b2i_p (fun h => ?_) (fun h => ?_))) (hx := hC.shown)
    · unfold qX2_shownIn_24
      intro x hx
      rw [hx, nI_1, ← ct_n (P := fun t => decide (A 5 t = y)) h]
      exact ih
    · intro x hx
      unfold qX2_shownIn_24
      intro x2 hx2
      rw [hx2, hx, nI_1, nI_1, ← ct_y (P := fun t => decide (A 5 t = y)) h]
      exact ih
theorem c_pairsIn {A : AS} {y : Nat} {σ : St} {Q : Int32 → St → Prop} (hC : RC σ A) (hW : WF A) (hY : YC A y σ) (hy : y < 6) (hQ : Q (nI (prN A y)) σ) : pX0_pairsIn (nI y) σ Q := by
  have hsh := sh_le A
  have h300 := hW.n
  unfold pX0_pairsIn
  refine lpG (fun n c i => qX0_pairsIn_l4 Q n (nI y) c i σ) (fb_ct (fun t => decide (A 5 t = y) && (UPo A t).isSome)) (aSh A) rfl (fun n => ?_) (fun n i hi ih => ?_)
  · show qX0_pairsIn_4 (qX0_pairsIn_l4 Q n) Q _ _ _ _
    unfold qX0_pairsIn_4
    exact pk_le (aSh A) (aSh A) (fun _ => hQ) (fun h => by omega) (hx := hC.shown)
  · show qX0_pairsIn_4 (qX0_pairsIn_l4 Q n) Q _ _ _ _
    unfold qX0_pairsIn_4
    have skip : (decide (A 5 i = y) && (UPo A i).isSome) = false → qX0_pairsIn_39 (qX0_pairsIn_l4 Q n) Q (nI y) (nI (fb_ct (fun t => decide (A 5 t = y) && (UPo A t).isSome) i)) (nI i) σ := by
      intro h
      unfold qX0_pairsIn_39
      intro x hx
      rw [hx, nI_1, ← ct_n (P := fun t => decide (A 5 t = y) && (UPo A t).isSome) h]
      exact ih
    refine pk_le (aSh A) i (fun h => by omega) (fun _ => c_isIn hC hW (by omega) hy (b2i_p (fun h => skip (by rw [h]; rfl)) (fun h => ⟨vp_in_nI (by omega) (by decide), ?_⟩))) (hx := hC.shown)
    rw [nI_clamp (n := i) (by omega), (hY i hi (of_decide_eq_true h)).1]
    cases eu : UPo A i with
    | none => exact ⟨fun _ => skip (by rw [eu, h]; rfl), fun h => absurd neg1_lt h⟩
    | some s =>
      have us := UP_in eu
      refine ⟨fun h => absurd h (nI_pos (n := s) (by omega)), fun _ => ?_⟩
      intro x hx
      unfold qX0_pairsIn_39
      intro x2 hx2
      rw [hx2, hx, nI_1, nI_1, ← ct_y (P := fun t => decide (A 5 t = y) && (UPo A t).isSome) (by rw [eu, h]; rfl)]
      exact ih
theorem c_birdsIn {A : AS} {y : Nat} {σ : St} {Q : Int32 → St → Prop} (hC : RC σ A) (hW : WF A) (hY : YC A y σ) (hy : y < 6) (hQ : Q (nI (bn A y)) σ) : pX0_birdsIn (nI y) σ Q := by
  have hsh := sh_le A
  have h300 := hW.n
  unfold pX0_birdsIn
  refine lpG (fun n c i => qX0_birdsIn_l4 Q n (nI y) c i σ) (fb_ct (isb A y)) (aSh A) rfl (fun n => ?_) (fun n i hi ih => ?_)
  · show qX0_birdsIn_4 (qX0_birdsIn_l4 Q n) Q _ _ _ _
    unfold qX0_birdsIn_4
    exact pk_le (aSh A) (aSh A) (fun _ => hQ) (fun h => by omega) (hx := hC.shown)
  · show qX0_birdsIn_4 (qX0_birdsIn_l4 Q n) Q _ _ _ _
    unfold qX0_birdsIn_4
    refine pk_le (aSh A) i (fun h => by omega) (fun _ => c_isBirdOf hC hW hY hy hi (b2i_p (fun h => ?_) (fun h => ?_))) (hx := hC.shown)
    · unfold qX0_birdsIn_27
      intro x hx
      rw [hx, nI_1, ← ct_n h]
      exact ih
    · intro x hx
      unfold qX0_birdsIn_27
      intro x2 hx2
      rw [hx2, hx, nI_1, nI_1, ← ct_y h]
      exact ih
theorem c_addKinds {A : AS} {y : Nat} {σ0 : St} {Q : St → Prop} (hC : RC σ0 A) (hW : WF A) (hY : YC A y σ0) (hy : y < 6) (h0 : ∀ k, k < 20 → σ0 33 k = 0) (hQ : ∀ v, (∀ k, k ≠ 33 → v k = σ0 k) → (∀ k, k < 20 → v 33 k = nI (ow A y k)) → Q v) : pX0_addKinds_a33 (nI y) σ0 Q := by
  have hsh := sh_le A
  have h300 := hW.n
  have hk20 := hW.k
  unfold pX0_addKinds_a33
  refine lpS (fun n i σ => qX0_addKinds_a33_l2 Q n (nI y) i σ) (fun i σ => (∀ k, k ≠ 33 → σ k = σ0 k) ∧ ∀ k, k < 20 → σ 33 k = nI (fb_ct (fun t => isb A y t && decide (bkd A t = k)) i)) (aSh A) (fun n σ hI => ?_) (fun n i σ hi hI ih => ?_) σ0 ⟨fun _ _ => rfl, fun k hk => h0 k hk⟩
  · show qX0_addKinds_a33_2 (qX0_addKinds_a33_l2 Q n) Q _ _ _
    unfold qX0_addKinds_a33_2
    exact pk_le (aSh A) (aSh A) (fun _ => hQ σ hI.1 hI.2) (fun h => by omega) (hx := by rw [hI.1 12 (by decide)]; exact hC.shown)
  · have hCs : RC σ A := hC.eq (fun k a => hI.1 k (fun h => by rw [h] at a; exact absurd a (by decide)))
    have hYs : YC A y σ := hY.eq (fun k a b => hI.1 k (by omega))
    show qX0_addKinds_a33_2 (qX0_addKinds_a33_l2 Q n) Q _ _ _
    unfold qX0_addKinds_a33_2
    refine pk_le (aSh A) i (fun h => by omega) (fun _ => c_isBirdOf hCs hW hYs hy hi (b2i_p (fun h => ?_) (fun h => ⟨vp_in_nI (by omega) (by decide), ?_⟩))) (hx := hCs.shown)
    · unfold qX0_addKinds_a33_34
      intro x hx
      rw [hx, nI_1]
      refine ih σ ⟨hI.1, fun k hk => ?_⟩
      rw [ct_n (P := fun t => isb A y t && decide (bkd A t = k)) (by rw [h]; rfl)]
      exact hI.2 k hk
    · obtain ⟨i1, i2, i3⟩ := isb_in h
      have hb := bkd_lt hW i1
      rw [nI_clamp (n := i) (by omega), (hYs i i1 i2).2.2.2 i3, nI_clamp (n := bkd A i) (by omega), hI.2 (bkd A i) (by omega), nI_1]
      refine ⟨vp_in_nI (by omega) (by decide), vp_in_nI (by omega) (by decide), fun s3 hs3 => ?_⟩
      unfold qX0_addKinds_a33_34
      intro x hx
      rw [hx, nI_1]
      refine ih s3 ⟨fun k hk => by rw [hs3, su_k _ _ _ hk]; exact hI.1 k hk, fun k hk => ?_⟩
      rw [hs3]
      by_cases a : k = bkd A i
      · rw [a, su_s, ct_y (P := fun t => isb A y t && decide (bkd A t = bkd A i)) (by rw [h, decide_eq_true rfl]; rfl)]
      · rw [su_j _ _ _ a, ct_n (P := fun t => isb A y t && decide (bkd A t = k)) (by rw [h, decide_eq_false (fun e => a e.symm)]; rfl)]
        exact hI.2 k hk
theorem c_addWinds {A : AS} {y : Nat} {σ0 : St} {Q : St → Prop} (hC : RC σ0 A) (hW : WF A) (hY : YC A y σ0) (hy : y < 6) (h0 : ∀ k, k < 4 → σ0 37 k = 0) (hQ : ∀ v, (∀ k, k ≠ 37 → v k = σ0 k) → (∀ k, k < 4 → v 37 k = nI (sn A y k)) → Q v) : pX0_addWinds_a9_a37 (nI y) σ0 Q := by
  have hsh := sh_le A
  have h300 := hW.n
  unfold pX0_addWinds_a9_a37
  refine lpS (fun n i σ => qX0_addWinds_a9_a37_l3 Q n (nI y) i σ) (fun i σ => (∀ k, k ≠ 37 → σ k = σ0 k) ∧ ∀ k, k < 4 → σ 37 k = nI (fb_ct (fun t => isb A y t && decide (A 12 (aDt A t) = k)) i)) (aSh A) (fun n σ hI => ?_) (fun n i σ hi hI ih => ?_) σ0 ⟨fun _ _ => rfl, fun k hk => h0 k hk⟩
  · show qX0_addWinds_a9_a37_3 (qX0_addWinds_a9_a37_l3 Q n) Q _ _ _
    unfold qX0_addWinds_a9_a37_3
    exact pk_le (aSh A) (aSh A) (fun _ => hQ σ hI.1 hI.2) (fun h => by omega) (hx := by rw [hI.1 12 (by decide)]; exact hC.shown)
  · have hCs : RC σ A := hC.eq (fun k a => hI.1 k (fun h => by rw [h] at a; exact absurd a (by decide)))
    have hYs : YC A y σ := hY.eq (fun k a b => hI.1 k (by omega))
    show qX0_addWinds_a9_a37_3 (qX0_addWinds_a9_a37_l3 Q n) Q _ _ _
    unfold qX0_addWinds_a9_a37_3
    refine pk_le (aSh A) i (fun h => by omega) (fun _ => c_isBirdOf hCs hW hYs hy hi (b2i_p (fun h => ?_) (fun h => ⟨vp_in_nI (by omega) (by decide), ?_⟩))) (hx := hCs.shown)
    · unfold qX0_addWinds_a9_a37_46
      intro x hx
      rw [hx, nI_1]
      refine ih σ ⟨hI.1, fun k hk => ?_⟩
      rw [ct_n (P := fun t => isb A y t && decide (A 12 (aDt A t) = k)) (by rw [h]; rfl)]
      exact hI.2 k hk
    · have hd := dt_lt hW (show i < A 0 9 by omega)
      have hw := hW.wd (aDt A i)
      rw [nI_clamp (n := i) (by omega), hCs.date i (by omega), nI_clamp (n := aDt A i) (by omega), hCs.wind, nI_clamp (n := A 12 (aDt A i)) (by omega), hI.2 _ hw, nI_1]
      refine ⟨vp_in_nI (by omega) (by decide), vp_in_nI (by omega) (by decide), vp_in_nI (by omega) (by decide), fun s3 hs3 => ?_⟩
      unfold qX0_addWinds_a9_a37_46
      intro x hx
      rw [hx, nI_1]
      refine ih s3 ⟨fun k hk => by rw [hs3, su_k _ _ _ hk]; exact hI.1 k hk, fun k hk => ?_⟩
      rw [hs3]
      by_cases a : k = A 12 (aDt A i)
      · rw [a, su_s, ct_y (P := fun t => isb A y t && decide (A 12 (aDt A t) = A 12 (aDt A i))) (by rw [h, decide_eq_true rfl]; rfl)]
      · rw [su_j _ _ _ a, ct_n (P := fun t => isb A y t && decide (A 12 (aDt A t) = k)) (by rw [h, decide_eq_false (fun e => a e.symm)]; rfl)]
        exact hI.2 k hk
/-! the model -/
theorem m_just {A : AS} {y k : Nat} {u : SM} {Q : Int32 → SM → Prop} (hM : RM u A) (hW : WF A) (hR : YR A y u) (hy : y < 6) (hk : k < 20) (hQ : Q (nI (ow A y k)) u) : pX9_just (nI y) (nI k) u Q := by
  have hsh := sh_le A
  have h300 := hW.n
  have hk20 := hW.k
  have hQ2 : Q (nI (fb_ct (fun t => isb A y t && decide (bkd A t = k)) (A 0 9))) u := by
    rw [ct_sh (fun t ht => by rw [isb_out ht]; rfl)]
    exact hQ
  unfold pX9_just
  refine lpG (fun n c i => qX9_just_l5 Q n (nI y) (nI k) c i u) (fb_ct (fun t => isb A y t && decide (bkd A t = k))) (A 0 9) rfl (fun n => ?_) (fun n i hi ih => ?_)
  · show qX9_just_5 (qX9_just_l5 Q n) Q _ _ _ _ _
    unfold qX9_just_5
    exact pk_le (A 0 9) (A 0 9) (fun _ => hQ2) (fun h => by omega) (hx := hM.num)
  · show qX9_just_5 (qX9_just_l5 Q n) Q _ _ _ _ _
    unfold qX9_just_5
    have skip : (isb A y i && decide (bkd A i = k)) = false → qX9_just_39 (qX9_just_l5 Q n) Q (nI y) (nI k) (nI i) (nI (fb_ct (fun t => isb A y t && decide (bkd A t = k)) i)) u := by
      intro h
      unfold qX9_just_39 qX9_just_40
      intro x hx x2 hx2
      rw [hx2, hx, nI_1, show (0 : Int32) = nI 0 from rfl, nI_add, Nat.add_zero, ← ct_n (P := fun t => isb A y t && decide (bkd A t = k)) h]
      exact ih
    refine pk_le (A 0 9) i (fun h => by omega) (fun _ => m_isBird hM hW hR hy hi (b2i_p (fun h => skip (by rw [h]; rfl)) (fun h => ?_))) (hx := hM.num)
    obtain ⟨i1, i2, i3⟩ := isb_in h
    have hb := bkd_lt hW i1
    refine m_kindOfBird hM hW hR i1 i2 (pk_ne (bkd A i) k (fun h2 => skip (by rw [h, decide_eq_false h2]; rfl)) (fun h2 => ?_))
    unfold qX9_just_40
    intro x hx x2 hx2
    rw [hx2, hx, nI_1, nI_1, ← ct_y (P := fun t => isb A y t && decide (bkd A t = k)) (by rw [h, decide_eq_true h2]; rfl)]
    exact ih
/-- a wind, or any -/
def WD (v : Int32) (W : Nat → Bool) : Prop := (v = -1 ∧ ∀ x, W x = true) ∨ ∃ w, w < 4 ∧ v = nI w ∧ ∀ x, W x = decide (x = w)
theorem m_birdsOf {A : AS} {y : Nat} {wd : Int32} {W : Nat → Bool} {u : SM} {Q : Int32 → SM → Prop} (hM : RM u A) (hW : WF A) (hR : YR A y u) (hy : y < 6) (hw : WD wd W) (hQ : Q (nI (fb_ct (fun t => isb A y t && W (A 12 (aDt A t))) (aSh A))) u) : pX9_birdsOf (nI y) wd u Q := by
  have hsh := sh_le A
  have h300 := hW.n
  have hQ2 : Q (nI (fb_ct (fun t => isb A y t && W (A 12 (aDt A t))) (A 0 9))) u := by
    rw [ct_sh (fun t ht => by rw [isb_out ht]; rfl)]
    exact hQ
  unfold pX9_birdsOf
  refine lpG (fun n c i => qX9_birdsOf_l5 Q n (nI y) wd c i u) (fb_ct (fun t => isb A y t && W (A 12 (aDt A t)))) (A 0 9) rfl (fun n => ?_) (fun n i hi ih => ?_)
  · show qX9_birdsOf_5 (qX9_birdsOf_l5 Q n) Q _ _ _ _ _
    unfold qX9_birdsOf_5
    exact pk_le (A 0 9) (A 0 9) (fun _ => hQ2) (fun h => by omega) (hx := hM.num)
  · show qX9_birdsOf_5 (qX9_birdsOf_l5 Q n) Q _ _ _ _ _
    unfold qX9_birdsOf_5
    have skip : (isb A y i && W (A 12 (aDt A i))) = false → qX9_birdsOf_54 (qX9_birdsOf_l5 Q n) Q (nI y) wd (nI i) (nI (fb_ct (fun t => isb A y t && W (A 12 (aDt A t))) i)) u := by
      intro h
      unfold qX9_birdsOf_54 qX9_birdsOf_55
      intro x hx x2 hx2
      rw [hx2, hx, nI_1, show (0 : Int32) = nI 0 from rfl, nI_add, Nat.add_zero, ← ct_n (P := fun t => isb A y t && W (A 12 (aDt A t))) h]
      exact ih
    have take : (isb A y i && W (A 12 (aDt A i))) = true → qX9_birdsOf_50 (qX9_birdsOf_l5 Q n) Q (nI y) wd (nI i) (nI (fb_ct (fun t => isb A y t && W (A 12 (aDt A t))) i)) u := by
      intro h
      unfold qX9_birdsOf_50 qX9_birdsOf_55
      intro x hx x2 hx2
      rw [hx2, hx, nI_1, nI_1, ← ct_y (P := fun t => isb A y t && W (A 12 (aDt A t))) h]
      exact ih
    refine pk_le (A 0 9) i (fun h => by omega) (fun _ => m_isBird hM hW hR hy hi (b2i_p (fun h => skip (by rw [h]; rfl)) (fun h => ?_))) (hx := hM.num)
    obtain ⟨i1, i2, i3⟩ := isb_in h
    have hd := dt_lt hW hi
    have ed : 30 * y + A 6 i = aDt A i := by unfold aDt; rw [i2]
    rw [nI_clamp (n := i) (by omega), hM.row 6 (by omega), show (30 : Int32) = nI 30 from rfl, pk_mul, nI_add, ed, nI_clamp (n := aDt A i) (by omega), hM.row 12 (by omega)]
    rcases hw with ⟨w1, w2⟩ | ⟨w, w1, w2, w3⟩
    · rw [w1] at take ⊢
      exact ⟨fun _ => take (by rw [h, w2]; rfl), fun h => absurd neg1_lt h⟩
    · rw [w2] at take skip ⊢
      have hwd := hW.wd (aDt A i)
      refine ⟨fun h => absurd h (nI_pos (n := w) (by omega)), fun _ => ⟨vp_in_nI (by omega) (by decide), vp_in_nI (by omega) (by decide), pk_ne (A 12 (aDt A i)) w (fun h2 => skip ?_) (fun h2 => take ?_)⟩⟩
      · rw [h, w3, decide_eq_false h2]; rfl
      · rw [h, w3, decide_eq_true h2]; rfl
theorem WD_all : WD (-1) (fun _ => true) := Or.inl ⟨rfl, fun _ => rfl⟩
theorem WD_w {w : Nat} (h : w < 4) : WD (nI w) (fun x => decide (x = w)) := Or.inr ⟨w, h, rfl, fun _ => rfl⟩
theorem bn_all (A : AS) (y : Nat) : fb_ct (fun t => isb A y t && (fun _ : Nat => true) (A 12 (aDt A t))) (aSh A) = bn A y := fb_ct_cong (fun t _ => Bool.and_true _)
/-! hours -/
def ho (A : AS) (d : Nat) : Nat := fb_ct (fun x => decide (A 11 (10 * d + x) ≠ 0)) 10
theorem ho_le (A : AS) (d : Nat) : ho A d ≤ 10 := fb_ct_le _ _
theorem c_hours {A : AS} {σ : St} {d : Nat} {Q : Int32 → St → Prop} (hC : RC σ A) (hd : d < 180) (hQ : Q (nI (ho A d)) σ) : pJ6_bitCount_0f7a4 (σ 11 d) σ Q := by
  refine bitc_ok (fun i h1 h2 => ?_) ?_
  · rw [hC.shut d hd i h2, decide_eq_false (show ¬ i < 10 by omega)]; rfl
  · have e : fb_ct (bt (σ 11 d)) 24 = ho A d := by
      have e1 : fb_ct (bt (σ 11 d)) 24 = fb_ct (fun x => decide (x < 10) && decide (A 11 (10 * d + x) ≠ 0)) (10 + 14) := fb_ct_cong (fun x hx => hC.shut d hd x (by omega))
      rw [e1, fb_ct_split]
      have z : fb_ct (fun k => decide (10 + k < 10) && decide (A 11 (10 * d + (10 + k)) ≠ 0)) 14 = 0 := fb_ct_zero.mpr (fun k _ => by rw [decide_eq_false (show ¬ 10 + k < 10 by omega)]; rfl)
      rw [z, Nat.add_zero]
      exact fb_ct_cong (fun x hx => by rw [decide_eq_true hx]; rfl)
    rw [e]
    exact hQ
def hsA (A : AS) (y : Nat) : Nat := fb_sm (fun d => ho A (30 * y + d)) 30
def hoA (A : AS) (y : Nat) : Nat := fb_sm (fun d => 10 - ho A (30 * y + d)) 30
def hsW (A : AS) (y w : Nat) : Nat := fb_sm (fun d => if A 12 (30 * y + d) = w then ho A (30 * y + d) else 0) 30
def hoW (A : AS) (y w : Nat) : Nat := fb_sm (fun d => if A 12 (30 * y + d) = w then 10 - ho A (30 * y + d) else 0) 30
theorem c_hoursOff {A : AS} {y : Nat} {σ : St} {Q : Int32 → St → Prop} (hC : RC σ A) (hy : y < 6) (hQ : Q (nI (hsA A y)) σ) : pX7_hoursOff (nI y) σ Q := by
  unfold pX7_hoursOff
  refine lpG (fun n c i => qX7_hoursOff_l4 Q n (nI y) c i σ) (fb_sm (fun d => ho A (30 * y + d))) 30 rfl (fun n => ?_) (fun n i hi ih => ?_)
  · show qX7_hoursOff_4 (qX7_hoursOff_l4 Q n) Q _ _ _ _
    unfold qX7_hoursOff_4
    exact pk_le 30 30 (fun _ => hQ) (fun h => by omega)
  · show qX7_hoursOff_4 (qX7_hoursOff_l4 Q n) Q _ _ _ _
    unfold qX7_hoursOff_4 pX8_dateOf
    rw [show (30 : Int32) = nI 30 from rfl, pk_mul, nI_add, Nat.mul_comm y 30]
    dsimp only
    rw [nI_clamp (n := 30 * y + i) (by omega)]
    refine pk_le 30 i (fun h => by omega) (fun _ => ⟨vp_in_nI (by omega) (by decide), c_hours hC (by omega) (fun x hx x2 hx2 => ?_)⟩)
    rw [hx2, hx, nI_1, nI_add]
    exact ih
theorem c_addHours {A : AS} {y : Nat} {σ0 : St} {Q : St → Prop} (hC : RC σ0 A) (hW : WF A) (hy : y < 6) (h0 : ∀ k, k < 4 → σ0 38 k = 0 ∧ σ0 39 k = 0) (hQ : ∀ v, (∀ k, k ≠ 38 → k ≠ 39 → v k = σ0 k) → (∀ k, k < 4 → v 38 k = nI (hoW A y k) ∧ v 39 k = nI (hsW A y k)) → Q v) : pX7_addHours_a38_a39 (nI y) σ0 Q := by
  unfold pX7_addHours_a38_a39
  refine lpS (fun n i σ => qX7_addHours_a38_a39_l3 Q n (nI y) i σ) (fun i σ => (∀ k, k ≠ 38 → k ≠ 39 → σ k = σ0 k) ∧ ∀ k, k < 4 → σ 38 k = nI (fb_sm (fun d => if A 12 (30 * y + d) = k then 10 - ho A (30 * y + d) else 0) i) ∧ σ 39 k = nI (fb_sm (fun d => if A 12 (30 * y + d) = k then ho A (30 * y + d) else 0) i)) 30 (fun n σ hI => ?_) (fun n i σ hi hI ih => ?_) σ0 ⟨fun _ _ _ => rfl, fun k hk => h0 k hk⟩
  · show qX7_addHours_a38_a39_3 (qX7_addHours_a38_a39_l3 Q n) Q _ _ _
    unfold qX7_addHours_a38_a39_3
    exact pk_le 30 30 (fun _ => hQ σ hI.1 hI.2) (fun h => by omega)
  · have hCs : RC σ A := hC.eq (fun k a => by
      have a2 : k ≠ 38 ∧ k ≠ 39 := by
        unfold isW at a
        have := of_decide_eq_true a
        omega
      exact hI.1 k a2.1 a2.2)
    have hw := hW.wd (30 * y + i)
    have hle := ho_le A (30 * y + i)
    show qX7_addHours_a38_a39_3 (qX7_addHours_a38_a39_l3 Q n) Q _ _ _
    unfold qX7_addHours_a38_a39_3 pX8_dateOf
    rw [show (30 : Int32) = nI 30 from rfl, pk_mul, nI_add, Nat.mul_comm y 30]
    dsimp only
    rw [nI_clamp (n := 30 * y + i) (by omega)]
    have hin : vp_in (nI (30 * y + i)) 180 := vp_in_nI (by omega) (by decide)
    have hinw : vp_in (nI (A 12 (30 * y + i))) 4 := vp_in_nI hw (by decide)
    refine pk_le 30 i (fun h => by omega) (fun _ => ⟨hin, c_hours hCs (by omega) ⟨hin, ?_⟩⟩)
    rw [hCs.wind, nI_clamp (n := A 12 (30 * y + i)) (by omega), (hI.2 _ hw).2, nI_add]
    refine ⟨hinw, hinw, fun s5 hs5 => ⟨hin, ?_⟩⟩
    have e10 : s5 10 = σ 10 := by rw [hs5, su_k (k := 39) (q := 10) _ _ _ (by decide)]
    have e38 : s5 38 = σ 38 := by rw [hs5, su_k (k := 39) (q := 38) _ _ _ (by decide)]
    rw [e10, e38, hCs.wind, nI_clamp (n := A 12 (30 * y + i)) (by omega), (hI.2 _ hw).1, show (10 : Int32) = nI 10 from rfl, pk_sub hle, nI_add]
    refine ⟨hinw, hinw, fun s6 hs6 x hx => ?_⟩
    rw [hx, nI_1]
    refine ih s6 ⟨fun k a b => by rw [hs6, su_k _ _ _ a, hs5, su_k _ _ _ b]; exact hI.1 k a b, fun k hk => ?_⟩
    rw [fb_sm_succ, fb_sm_succ]
    have g39 : s6 39 = s5 39 := by rw [hs6, su_k (k := 38) (q := 39) _ _ _ (by decide)]
    by_cases a : k = A 12 (30 * y + i)
    · subst a
      rw [if_pos rfl, if_pos rfl, g39, hs6, su_s, hs5, su_s]
      exact ⟨rfl, rfl⟩
    · rw [if_neg (fun e => a e.symm), if_neg (fun e => a e.symm), g39, hs6, su_j _ _ _ a, hs5, su_j _ _ _ a, su_k (k := 39) (q := 38) _ _ _ (by decide)]
      exact hI.2 k hk
theorem ct_blk (P : Nat → Bool) : ∀ n, fb_ct P (10 * n) = fb_sm (fun d => fb_ct (fun k => P (10 * d + k)) 10) n := by
  intro n
  induction n with
  | zero => rfl
  | succ n ih => rw [show 10 * (n + 1) = 10 * n + 10 by omega, fb_ct_split, ih, fb_sm_succ]
/-- the hours of a year, off or not, of a wind or any -/
def hN (A : AS) (y o : Nat) (W : Nat → Bool) : Nat := fb_ct (fun x => decide (A 11 (300 * y + x) = o) && W (A 12 (30 * y + x / 10))) 300
theorem hN_sm {A : AS} {y o : Nat} {W : Nat → Bool} : hN A y o W = fb_sm (fun d => if W (A 12 (30 * y + d)) = true then fb_ct (fun x => decide (A 11 (10 * (30 * y + d) + x) = o)) 10 else 0) 30 := by
  unfold hN
  rw [show (300 : Nat) = 10 * 30 from rfl, ct_blk]
  refine fb_sm_cong (fun d _ => ?_)
  cases e : W (A 12 (30 * y + d)) with
  | true =>
    rw [if_pos rfl]
    refine fb_ct_cong (fun x hx => ?_)
    rw [show (10 * d + x) / 10 = d by omega, e, Bool.and_true, show 10 * 30 * y + (10 * d + x) = 10 * (30 * y + d) + x by omega]
  | false =>
    rw [if_neg (fun h => by cases h)]
    refine fb_ct_zero.mpr (fun x hx => ?_)
    rw [show (10 * d + x) / 10 = d by omega, e, Bool.and_false]
theorem h1_ho {A : AS} (hW : WF A) (d : Nat) : fb_ct (fun x => decide (A 11 (10 * d + x) = 1)) 10 = ho A d := fb_ct_cong (fun x _ => decide_eq_decide.mpr (by have := hW.off (10 * d + x); omega))
theorem h0_ho (A : AS) (d : Nat) : fb_ct (fun x => decide (A 11 (10 * d + x) = 0)) 10 = 10 - ho A d := by
  have e := fb_ct_not (fun x => decide (A 11 (10 * d + x) ≠ 0)) 10
  have e2 : fb_ct (fun x => !decide (A 11 (10 * d + x) ≠ 0)) 10 = fb_ct (fun x => decide (A 11 (10 * d + x) = 0)) 10 := fb_ct_cong (fun x _ => by
    by_cases a : A 11 (10 * d + x) = 0
    · rw [decide_eq_true a, decide_eq_false (fun h => h a)]; rfl
    · rw [decide_eq_false a, decide_eq_true a]; rfl)
  unfold ho
  omega
theorem hN_1 {A : AS} (hW : WF A) (y : Nat) : hN A y 1 (fun _ => true) = hsA A y := by
  rw [hN_sm]
  exact fb_sm_cong (fun d _ => by rw [if_pos rfl]; exact h1_ho hW _)
theorem hN_0 (A : AS) (y : Nat) : hN A y 0 (fun _ => true) = hoA A y := by
  rw [hN_sm]
  exact fb_sm_cong (fun d _ => by rw [if_pos rfl]; exact h0_ho A _)
theorem hN_1w {A : AS} (hW : WF A) (y w : Nat) : hN A y 1 (fun x => decide (x = w)) = hsW A y w := by
  rw [hN_sm]
  exact fb_sm_cong (fun d _ => by rw [h1_ho hW]; exact if_iff decide_eq_true_iff _ _)
theorem hN_0w (A : AS) (y w : Nat) : hN A y 0 (fun x => decide (x = w)) = hoW A y w := by
  rw [hN_sm]
  exact fb_sm_cong (fun d _ => by rw [h0_ho]; exact if_iff decide_eq_true_iff _ _)
theorem m_hoursOf {A : AS} {y o : Nat} {wd : Int32} {W : Nat → Bool} {u : SM} {Q : Int32 → SM → Prop} (hM : RM u A) (hW : WF A) (hy : y < 6) (ho1 : o ≤ 1) (hw : WD wd W) (hQ : Q (nI (hN A y o W)) u) : pX9_hoursOf (nI y) wd (nI o) u Q := by
  unfold pX9_hoursOf
  refine lpG (fun n c i => qX9_hoursOf_l6 Q n (nI y) wd (nI o) c i u) (fb_ct (fun x => decide (A 11 (300 * y + x) = o) && W (A 12 (30 * y + x / 10)))) 300 rfl (fun n => ?_) (fun n i hi ih => ?_)
  · show qX9_hoursOf_6 (qX9_hoursOf_l6 Q n) Q _ _ _ _ _ _
    unfold qX9_hoursOf_6
    exact pk_le 300 300 (fun _ => hQ) (fun h => by omega)
  · show qX9_hoursOf_6 (qX9_hoursOf_l6 Q n) Q _ _ _ _ _ _
    unfold qX9_hoursOf_6
    have skip : (decide (A 11 (300 * y + i) = o) && W (A 12 (30 * y + i / 10))) = false → qX9_hoursOf_60 (qX9_hoursOf_l6 Q n) Q (nI y) wd (nI o) (nI i) (nI (fb_ct (fun x => decide (A 11 (300 * y + x) = o) && W (A 12 (30 * y + x / 10))) i)) u := by
      intro h
      unfold qX9_hoursOf_60 qX9_hoursOf_61
      intro x hx x2 hx2
      rw [hx2, hx, nI_1, show (0 : Int32) = nI 0 from rfl, nI_add, Nat.add_zero, ← ct_n (P := fun x => decide (A 11 (300 * y + x) = o) && W (A 12 (30 * y + x / 10))) h]
      exact ih
    have take : (decide (A 11 (300 * y + i) = o) && W (A 12 (30 * y + i / 10))) = true → qX9_hoursOf_56 (qX9_hoursOf_l6 Q n) Q (nI y) wd (nI o) (nI i) (nI (fb_ct (fun x => decide (A 11 (300 * y + x) = o) && W (A 12 (30 * y + x / 10))) i)) u := by
      intro h
      unfold qX9_hoursOf_56 qX9_hoursOf_61
      intro x hx x2 hx2
      rw [hx2, hx, nI_1, nI_1, ← ct_y (P := fun x => decide (A 11 (300 * y + x) = o) && W (A 12 (30 * y + x / 10))) h]
      exact ih
    have hoff := hW.off (300 * y + i)
    rw [show (300 : Int32) * nI y + nI i = nI (300 * y + i) by rw [show (300 : Int32) = nI 300 from rfl, pk_mul, nI_add], show (30 : Int32) * nI y + nI i / 10 = nI (30 * y + i / 10) by rw [show (30 : Int32) = nI 30 from rfl, show (10 : Int32) = nI 10 from rfl, pk_div (by omega) (by decide) (by decide), pk_mul, nI_add], nI_clamp (n := 300 * y + i) (by omega), nI_clamp (n := 30 * y + i / 10) (by omega), hM.row 11 (by omega), hM.row 12 (by omega)]
    refine pk_le 300 i (fun h => by omega) (fun _ => ⟨vp_in_nI (by omega) (by decide), pk_ne (A 11 (300 * y + i)) o (fun h => skip (by rw [decide_eq_false h]; rfl)) (fun h => ?_)⟩)
    rcases hw with ⟨w1, w2⟩ | ⟨w, w1, w2, w3⟩
    · rw [w1] at take ⊢
      exact ⟨fun _ => take (by rw [decide_eq_true h, w2]; rfl), fun h => absurd neg1_lt h⟩
    · rw [w2] at take skip ⊢
      have hwd := hW.wd (30 * y + i / 10)
      refine ⟨fun h => absurd h (nI_pos (n := w) (by omega)), fun _ => ⟨vp_in_nI (by omega) (by decide), pk_ne (A 12 (30 * y + i / 10)) w (fun h2 => skip ?_) (fun h2 => take ?_)⟩⟩
      · rw [w3, decide_eq_false h2, Bool.and_false]
      · rw [w3, decide_eq_true h2, decide_eq_true h]; rfl
