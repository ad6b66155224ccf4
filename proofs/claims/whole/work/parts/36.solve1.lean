/-! the class's solve(): keep, restore, and as many pairs as can be -/
theorem keep_ok {σ0 : St} {Q : St → Prop} (hQ : ∀ v : St, (∀ k, k ≠ 30 → k ≠ 31 → v k = σ0 k) → (∀ q, q < 12 → v 30 q = σ0 28 q ∧ v 31 q = σ0 29 q) → Q v) : pX3_keep σ0 Q := by
  have lp : ∀ (r i : Nat) (σ : St), i + r = 12 → (∀ k, k ≠ 30 → k ≠ 31 → σ k = σ0 k) → (∀ q, q < i → σ 30 q = σ0 28 q ∧ σ 31 q = σ0 29 q) → qX3_keep_l2 Q (r + 1) (nI i) σ := by
    intro r
    induction r with
    | zero =>
      intro i σ hir h1 h2
      have ei : i = 12 := by omega
      subst ei
      show qX3_keep_2 (qX3_keep_l2 Q 0) Q _ _
      unfold qX3_keep_2
      exact pk_le 12 12 (fun _ => hQ σ h1 h2) (fun hc => by omega)
    | succ r ih =>
      intro i σ hir h1 h2
      have hi1 : Int32.toNatClampNeg (nI i) = i := nI_clamp (by omega)
      have hin : vp_in (nI i) 12 := vp_in_nI (by omega) (by decide)
      show qX3_keep_2 (qX3_keep_l2 Q (r + 1)) Q _ _
      unfold qX3_keep_2
      simp only [hi1]
      refine pk_le 12 i (fun hc => by omega) (fun _ => ⟨hin, hin, fun s1 hs1 => ⟨hin, hin, fun s2 hs2 x hx => ?_⟩⟩) (hb := by omega)
      rw [hx, nI_1]
      have e1 : ∀ k, k ≠ 30 → s1 k = σ k := fun k a => by rw [hs1]; exact su_k σ i _ a
      have e2 : ∀ k, k ≠ 31 → s2 k = s1 k := fun k a => by rw [hs2]; exact su_k s1 i _ a
      refine ih (i + 1) s2 (by omega) (fun k a b => by rw [e2 k b, e1 k a]; exact h1 k a b) (fun q hq => ?_)
      by_cases a : q = i
      · subst a
        refine ⟨?_, ?_⟩
        · rw [e2 30 (by decide), hs1, su_s, h1 28 (by decide) (by decide)]
        · rw [hs2, su_s, e1 29 (by decide), h1 29 (by decide) (by decide)]
      · obtain ⟨b1, b2⟩ := h2 q (by omega)
        refine ⟨?_, ?_⟩
        · rw [e2 30 (by decide), hs1, su_j _ _ _ a]; exact b1
        · rw [hs2, su_j _ _ _ a, e1 31 (by decide)]; exact b2
  unfold pX3_keep
  exact ⟨13, lp 12 0 σ0 (by omega) (fun _ _ _ => rfl) (fun q hq => absurd hq (Nat.not_lt_zero _))⟩
theorem restore_ok {σ0 : St} {Q : St → Prop} (hQ : ∀ v : St, (∀ k, k ≠ 28 → k ≠ 29 → v k = σ0 k) → (∀ q, q < 12 → v 28 q = σ0 30 q ∧ v 29 q = σ0 31 q) → Q v) : pX3_restore σ0 Q := by
  have lp : ∀ (r i : Nat) (σ : St), i + r = 12 → (∀ k, k ≠ 28 → k ≠ 29 → σ k = σ0 k) → (∀ q, q < i → σ 28 q = σ0 30 q ∧ σ 29 q = σ0 31 q) → qX3_restore_l2 Q (r + 1) (nI i) σ := by
    intro r
    induction r with
    | zero =>
      intro i σ hir h1 h2
      have ei : i = 12 := by omega
      subst ei
      show qX3_restore_2 (qX3_restore_l2 Q 0) Q _ _
      unfold qX3_restore_2
      exact pk_le 12 12 (fun _ => hQ σ h1 h2) (fun hc => by omega)
    | succ r ih =>
      intro i σ hir h1 h2
      have hi1 : Int32.toNatClampNeg (nI i) = i := nI_clamp (by omega)
      have hin : vp_in (nI i) 12 := vp_in_nI (by omega) (by decide)
      show qX3_restore_2 (qX3_restore_l2 Q (r + 1)) Q _ _
      unfold qX3_restore_2
      simp only [hi1]
      refine pk_le 12 i (fun hc => by omega) (fun _ => ⟨hin, hin, fun s1 hs1 => ⟨hin, hin, fun s2 hs2 x hx => ?_⟩⟩) (hb := by omega)
      rw [hx, nI_1]
      have e1 : ∀ k, k ≠ 28 → s1 k = σ k := fun k a => by rw [hs1]; exact su_k σ i _ a
      have e2 : ∀ k, k ≠ 29 → s2 k = s1 k := fun k a => by rw [hs2]; exact su_k s1 i _ a
      refine ih (i + 1) s2 (by omega) (fun k a b => by rw [e2 k b, e1 k a]; exact h1 k a b) (fun q hq => ?_)
      by_cases a : q = i
      · subst a
        refine ⟨?_, ?_⟩
        · rw [e2 28 (by decide), hs1, su_s, h1 30 (by decide) (by decide)]
        · rw [hs2, su_s, e1 31 (by decide), h1 31 (by decide) (by decide)]
      · obtain ⟨b1, b2⟩ := h2 q (by omega)
        refine ⟨?_, ?_⟩
        · rw [e2 28 (by decide), hs1, su_j _ _ _ a]; exact b1
        · rw [hs2, su_j _ _ _ a, e1 29 (by decide)]; exact b2
  unfold pX3_restore
  exact ⟨13, lp 12 0 σ0 (by omega) (fun _ _ _ => rfl) (fun q hq => absurd hq (Nat.not_lt_zero _))⟩
/-- the matcher's rows hold the pairs h -/
def CF (m n : Nat) (σ : St) (h : Hs) : Prop := (∀ q, q < m → σ 29 q = enc (h q)) ∧ MP m σ h ∧ (∀ l, l < n → (∀ q, q < m → h q ≠ some l) → σ 28 l = -1) ∧ ∀ q l, q < m → h q = some l → l < n
def SEq (σ v : St) : Prop := (∀ k, k ≠ 26 → k ≠ 28 → k ≠ 29 → k ≠ 30 → k ≠ 31 → v k = σ k) ∧ ∀ j, j ≠ 7 → j ≠ 8 → v 26 j = σ 26 j
theorem SEq.rf (σ : St) : SEq σ σ := ⟨fun _ _ _ _ _ _ => rfl, fun _ _ _ => rfl⟩
theorem SEq.tr {σ v w : St} (h : SEq σ v) (h2 : SEq v w) : SEq σ w := ⟨fun k a b c d e => (h2.1 k a b c d e).trans (h.1 k a b c d e), fun j a b => (h2.2 j a b).trans (h.2 j a b)⟩
theorem CEq.S {σ v : St} (h : CEq σ v) : SEq σ v := ⟨fun k a b c _ _ => h.1 k a b c, fun j _ b => h.2 j b⟩
theorem CMet.eqS {m n : Nat} {σ v : St} {met : Nat → Nat → Bool} (h : CMet m n σ met) (e : SEq σ v) : CMet m n v met := by
  obtain ⟨a1, a2, a3, a4⟩ := h
  refine ⟨by rw [e.2 6 (by decide) (by decide)]; exact a1, a2, a3, fun i j hi hj => ?_⟩
  rw [e.1 27 (by decide) (by decide) (by decide) (by decide) (by decide)]
  exact a4 i j hi hj
/-- phase 1: a pass over all lefts -/
theorem solve_1 {m n : Nat} {met : Nat → Nat → Bool} {σ0 : St} {Q : St → Prop} (hM0 : CMet m n σ0 met) (h5 : σ0 26 5 = nI n)
    (hQ : ∀ v h, SEq σ0 v → v 26 7 = σ0 26 7 → CF m n v h → VT met n m 0 (fun _ => false) h → IsMax met n m 0 (fun _ => false) (szT m (fun _ => false) h) → ∃ N, qX3_solve_l30 Q N 0 v) :
    ∀ (r i : Nat) (σ : St) (h : Hs) (Z : Sn), i + r = n → CEq σ0 σ → CF m n σ h → PassI met m 0 (fun _ => false) i h Z → qX3_solve_l2 Q (r + 1) (nI i) σ := by
  have hm12 := hM0.2.1
  have hn12 := hM0.2.2.1
  intro r
  induction r with
  | zero =>
    intro i σ h Z hir hE hF hp
    have ei : i = n := by omega
    subst ei
    show qX3_solve_2 (qX3_solve_l2 Q 0) Q _ _
    unfold qX3_solve_2
    exact pk_le i i (fun _ => hQ σ h hE.S (hE.2 7 (by decide)) hF hp.1 (pass_max hp)) (fun hc => by omega) (hx := by rw [hE.2 5 (by decide)]; exact h5) (ha := by omega) (hb := by omega)
  | succ r ih =>
    intro i σ h Z hir hE hF hp
    have hi : i < n := by omega
    show qX3_solve_2 (qX3_solve_l2 Q (r + 1)) Q _ _
    unfold qX3_solve_2
    refine pk_le n i (fun hc => by omega) (fun _ => fun s1 hs1 => ?_) (hx := by rw [hE.2 5 (by decide)]; exact h5) (ha := by omega) (hb := by omega)
    have hE1 : CEq σ0 s1 := by rw [hs1]; exact hE.tr (CEq.tried σ 0)
    have g28 : s1 28 = σ 28 := by rw [hs1]; exact su_k (k := 26) (q := 28) σ 8 0 (by decide)
    have g29 : s1 29 = σ 29 := by rw [hs1]; exact su_k (k := 26) (q := 29) σ 8 0 (by decide)
    obtain ⟨f1, f2, f3, f4⟩ := hF
    have hu : uns m (fun _ => false) < 14 := by have := uns_le m (fun _ => false); omega
    have hu2 : 0 + uns m (fun _ => false) ≤ 12 := by have := uns_le m (fun _ => false); omega
    have hfr : ¬ mat m (fun _ => false) h i := by
      rintro ⟨q, q1, q2, q3⟩
      have := (hp.1.1 q i q1 q2 q3).2.1
      omega
    obtain ⟨st1, st2⟩ := pass_step (d := 14) (s := fun _ => false) hp (Nat.zero_le i) (fun q => Iff.rfl) hu
    obtain ⟨ok1, ok2⟩ := srch_ok met n m 0 (fun _ => false) 14 i h (fun _ => false) hu (fun q e => e) (VT_mono (by omega) hp.1) ⟨Nat.zero_le i, hi⟩ hfr
    refine reach_ok (b0 := 0) (T := fun _ => false) 14 i 0 s1 h (fun _ => false) _ (hM0.eq hE1) (fun j _ => by rw [hs1, su_s, b_0]) (fun q e => e) (VT_mono (by omega) hp.1) ⟨Nat.zero_le i, hi⟩ hfr (fun q l _ e => by cases e) (fun q hq _ => by rw [g29]; exact f1 q hq) (fun q l hq e => by rw [g28]; exact f2 q l hq e) hu hu2 (fun v hEv hv8 hv29 hv29b hvP hvU => ?_)
    intro x hx
    rw [hx, nI_1]
    have hEv0 := hE1.tr hEv
    cases hr : srch met m 14 i h (fun _ => false) with
    | mk b hs2 =>
      obtain ⟨h2, s2⟩ := hs2
      rw [hr] at st1 st2 ok1 ok2 hv29 hvP hvU
      cases b with
      | true =>
        obtain ⟨p1, p2⟩ := st2 rfl
        obtain ⟨k1, k2, k3, k4, k5⟩ := ok2 rfl
        refine ih (i + 1) v h2 Z (by omega) hEv0 ⟨fun q hq => hv29 q hq rfl, hvP, fun l hl hno => ?_, fun q l hq e => (k1.1 q l hq rfl e).2.1⟩ p1
        have e1 : v 28 l = s1 28 l := hvU l hno
        rw [e1, g28]
        refine f3 l hl (fun q hq e => ?_)
        obtain ⟨w, w1, w2, w3⟩ := (k2 l).mpr (Or.inl ⟨q, hq, rfl, e⟩)
        exact hno w w1 w3
      | false =>
        obtain ⟨p1, Z2, p2⟩ := st1 rfl
        have p3 : h2 = h := p1
        subst p3
        refine ih (i + 1) v h2 Z2 (by omega) hEv0 ⟨fun q hq => hv29 q hq rfl, hvP, fun l hl hno => ?_, f4⟩ p2
        have e1 : v 28 l = s1 28 l := hvU l hno
        rw [e1, g28]
        exact f3 l hl hno
