/-! the class's start(), pairPosts() -/
theorem start_ok {n m : Nat} {σ0 : St} {Q : St → Prop} (hn : n ≤ 12) (hm : m ≤ 12) (hQ : ∀ v, (∀ k, k ≠ 26 → k ≠ 27 → k ≠ 28 → k ≠ 29 → v k = σ0 k) → v 26 5 = nI n → v 26 6 = nI m → v 26 7 = 0 → (∀ i, i < 12 → v 27 i = 0) → (∀ i, i < 12 → v 28 i = -1) → (∀ i, i < 12 → v 29 i = -1) → Q v) : pX3_start (nI n) (nI m) σ0 Q := by
  have clamp : ∀ a : Nat, a ≤ 12 → (if (12 : Int32) < (if nI a < 0 then 0 else nI a) then 12 else (if nI a < 0 then 0 else nI a)) = nI a := by
    intro a ha
    rw [if_neg (nI_pos (by omega)), if_neg (show ¬ (12 : Int32) < nI a from nI_nlt (a := 12) ha (by decide))]
  unfold pX3_start
  rw [clamp n hn, clamp m hm]
  intro s1 hs1 s2 hs2 s3 hs3
  have e5 : s3 26 5 = nI n := by rw [hs3, su_j _ _ _ (by decide), hs2, su_j _ _ _ (by decide), hs1, su_s]
  have e6 : s3 26 6 = nI m := by rw [hs3, su_j _ _ _ (by decide), hs2, su_s]
  have e7 : s3 26 7 = 0 := by rw [hs3, su_s]
  have ek : ∀ k, k ≠ 26 → s3 k = σ0 k := fun k hk => by rw [hs3, su_k _ _ _ hk, hs2, su_k _ _ _ hk, hs1, su_k _ _ _ hk]
  have lp : ∀ (r i : Nat) (σ : St), i + r = 12 → (∀ k, k ≠ 27 → k ≠ 28 → k ≠ 29 → σ k = s3 k) → (∀ q, q < i → σ 27 q = 0 ∧ σ 28 q = -1 ∧ σ 29 q = -1) → qX3_start_l35 Q (r + 1) (nI i) σ := by
    intro r
    induction r with
    | zero =>
      intro i σ hir h1 h2
      have ei : i = 12 := by omega
      subst ei
      show qX3_start_35 (qX3_start_l35 Q 0) Q _ _
      unfold qX3_start_35
      refine pk_le 12 12 (fun _ => ?_) (fun hc => by omega)
      refine hQ σ (fun k a b c d => (h1 k b c d).trans (ek k a)) ?_ ?_ ?_ (fun q hq => (h2 q hq).1) (fun q hq => (h2 q hq).2.1) (fun q hq => (h2 q hq).2.2)
      · rw [h1 26 (by decide) (by decide) (by decide)]; exact e5
      · rw [h1 26 (by decide) (by decide) (by decide)]; exact e6
      · rw [h1 26 (by decide) (by decide) (by decide)]; exact e7
    | succ r ih =>
      intro i σ hir h1 h2
      have hin : vp_in (nI i) 12 := vp_in_nI (by omega) (by decide)
      show qX3_start_35 (qX3_start_l35 Q (r + 1)) Q _ _
      unfold qX3_start_35
      rw [nI_clamp (n := i) (by omega)]
      refine pk_le 12 i (fun hc => by omega) (fun _ => ⟨hin, fun s4 hs4 => ⟨hin, fun s5 hs5 => ⟨hin, fun s6 hs6 x hx => ?_⟩⟩⟩)
      rw [hx, nI_1]
      refine ih (i + 1) s6 (by omega) (fun k a b c => by rw [hs6, su_k _ _ _ c, hs5, su_k _ _ _ b, hs4, su_k _ _ _ a]; exact h1 k a b c) (fun q hq => ?_)
      have f27 : s6 27 = s4 27 := by rw [hs6, su_k (k := 29) (q := 27) _ _ _ (by decide), hs5, su_k (k := 28) (q := 27) _ _ _ (by decide)]
      have f28 : s6 28 = s5 28 := by rw [hs6, su_k (k := 29) (q := 28) _ _ _ (by decide)]
      by_cases a : q = i
      · subst a
        refine ⟨?_, ?_, ?_⟩
        · rw [f27, hs4, su_s]
        · rw [f28, hs5, su_s]
        · rw [hs6, su_s]
      · obtain ⟨b1, b2, b3⟩ := h2 q (by omega)
        refine ⟨?_, ?_, ?_⟩
        · rw [f27, hs4, su_j _ _ _ a]; exact b1
        · rw [f28, hs5, su_j _ _ _ a, hs4, su_k (k := 27) (q := 28) _ _ _ (by decide)]; exact b2
        · rw [hs6, su_j _ _ _ a, hs5, su_k (k := 28) (q := 29) _ _ _ (by decide), hs4, su_k (k := 27) (q := 29) _ _ _ (by decide)]; exact b3
  exact ⟨13, lp 12 0 s3 (by omega) (fun _ _ _ _ => rfl) (fun q hq => absurd hq (Nat.not_lt_zero _))⟩
/-- rows 20 and 21, and the matcher's and the lists' own apart -/
def FP (σ v : St) : Prop := ∀ k, k < 24 → k ≠ 20 → k ≠ 21 → v k = σ k
theorem FP.rf (σ : St) : FP σ σ := fun _ _ _ _ => rfl
theorem FP.tr {σ v w : St} (h : FP σ v) (h2 : FP v w) : FP σ w := fun k a b c => (h2 k a b c).trans (h k a b c)
theorem FP.C {σ v : St} (h : FP σ v) : CE σ v := fun k a => by
  have a2 : k < 24 ∧ k ≠ 20 ∧ k ≠ 21 := by
    unfold isW at a
    have := of_decide_eq_true a
    omega
  exact h k a2.1 a2.2.1 a2.2.2
set_option maxHeartbeats 2000000 in
theorem pairPosts_ok {A : AS} {σ0 : St} {d p : Nat} {Q : St → Prop} (hC0 : RC σ0 A) (hW : WF A) (hd : d < 180) (hp : p + 1 < A 0 1)
    (hQ : ∀ v c, FP σ0 v → LexS (met A d p) (cn A d p) (cn A d (p + 1)) c → v 20 = uUp (ls A d p) (ls A d (p + 1)) c (σ0 20) (cn A d p) → v 21 = uLo (ls A d p) (ls A d (p + 1)) c (σ0 21) (cn A d p) → Q v) : pX0_pairPosts (nI d) (nI p) σ0 Q := by
  have h300 := hW.n
  have hp4 := hW.p
  have hsh := sh_le A
  have n12 := cn_le hW d p
  have m12 := cn_le hW d (p + 1)
  unfold pX0_pairPosts
  refine gather24_ok hC0 hW hd (by omega) (fun v1 e1 l1 => ?_)
  have hC1 : RC v1 A := hC0.eq (fun k a => e1 k (fun h => by rw [h] at a; exact absurd a (by decide)))
  rw [nI_1]
  refine gather25_ok hC1 hW hd (by omega) (fun v2 e2 l2 => ?_)
  have hC2 : RC v2 A := hC1.eq (fun k a => e2 k (fun h => by rw [h] at a; exact absurd a (by decide)))
  unfold pX6_wayToNext
  rw [nI_1, nI_clamp (n := p) (by omega), nI_clamp (n := p + 1) (by omega), hC2.place, hC2.place]
  refine ⟨fun h => absurd h (nI_pos (by omega)), fun _ => pk_lt (p + 1) (A 0 1) (fun _ => ⟨vp_in_nI (by omega) (by decide), vp_in_nI (by omega) (by decide), ?_⟩) (fun h => by omega) (hy := hC2.posts)⟩
  refine start_ok n12 m12 (fun v3 e3 a5 a6 a7 a27 a28 a29 => ?_)
  have hC3 : RC v3 A := hC2.eq (fun k a => by
    have a2 : k ≠ 26 ∧ k ≠ 27 ∧ k ≠ 28 ∧ k ≠ 29 := by
      unfold isW at a
      have := of_decide_eq_true a
      omega
    exact e3 k a2.1 a2.2.1 a2.2.2.1 a2.2.2.2)
  have l24 : ∀ i, i < cn A d p → v3 24 i = nI (ls A d p i) := fun i hi => by
    rw [e3 24 (by decide) (by decide) (by decide) (by decide), e2 24 (by decide)]; exact l1 i hi
  have l25 : ∀ i, i < cn A d (p + 1) → v3 25 i = nI (ls A d (p + 1) i) := fun i hi => by
    rw [e3 25 (by decide) (by decide) (by decide) (by decide)]; exact l2 i hi
  have hF3 : ∀ k, k < 24 → v3 k = σ0 k := fun k hk => by
    rw [e3 k (by omega) (by omega) (by omega) (by omega), e2 k (by omega), e1 k (by omega)]
  -- the pairs are written down
  have lw : ∀ (c : Nat → Option Nat), LexS (met A d p) (cn A d p) (cn A d (p + 1)) c → ∀ (v4 : St), (∀ l, l < cn A d p → v4 28 l = enc (c l)) → (∀ l r, l < cn A d p → c l = some r → r < cn A d (p + 1)) → (∀ k, k < 26 → v4 k = v3 k) → ∀ (r i : Nat) (σ : St), i + r = cn A d p → (∀ k, k ≠ 20 → k ≠ 21 → σ k = v4 k) → σ 20 = uUp (ls A d p) (ls A d (p + 1)) c (σ0 20) i → σ 21 = uLo (ls A d p) (ls A d (p + 1)) c (σ0 21) i → qX0_pairPosts_l126 Q (r + 1) (nI (cn A d p)) (nI (cn A d (p + 1))) (nI i) σ := by
    intro c hc v4 h28 hcm h4 r
    induction r with
    | zero =>
      intro i σ hir hE u1 u2
      have ei : i = cn A d p := by omega
      subst ei
      show qX0_pairPosts_126 (qX0_pairPosts_l126 Q 0) Q _ _ _ _
      unfold qX0_pairPosts_126
      refine pk_le (cn A d p) (cn A d p) (fun _ => ?_) (fun hc => by omega)
      exact hQ σ c (fun k a b e => by rw [hE k b e, h4 k (by omega), hF3 k a]) hc u1 u2
    | succ r ih =>
      intro i σ hir hE u1 u2
      have hi : i < cn A d p := by omega
      have hin : vp_in (nI i) 12 := vp_in_nI (by omega) (by decide)
      have ei : Int32.toNatClampNeg (nI i) = i := nI_clamp (by omega)
      show qX0_pairPosts_126 (qX0_pairPosts_l126 Q (r + 1)) Q _ _ _ _
      unfold qX0_pairPosts_126
      rw [ei, hE 28 (by decide) (by decide), h28 i hi]
      refine pk_le (cn A d p) i (fun hc => by omega) (fun _ => ⟨hin, fun x hx => ?_⟩)
      subst hx
      cases ec : c i with
      | none =>
        refine ⟨fun _ => ?_, fun h => absurd neg1_lt h⟩
        unfold qX0_pairPosts_194
        intro x hx
        rw [hx, nI_1]
        refine ih (i + 1) σ (by omega) hE ?_ ?_
        · simp only [uUp, ec]; exact u1
        · simp only [uLo, ec]; exact u2
      | some q =>
        have hq := hcm i q hi ec
        obtain ⟨s1, _, _⟩ := ls_in hi
        obtain ⟨t1, _, _⟩ := ls_in hq
        have hinq : vp_in (nI q) 12 := vp_in_nI (by omega) (by decide)
        have eq1 : Int32.toNatClampNeg (nI q) = q := nI_clamp (by omega)
        have g24 : σ 24 i = nI (ls A d p i) := by rw [hE 24 (by decide) (by decide), h4 24 (by omega)]; exact l24 i hi
        have g25 : σ 25 q = nI (ls A d (p + 1) q) := by rw [hE 25 (by decide) (by decide), h4 25 (by omega)]; exact l25 q hq
        simp only [enc]
        refine ⟨fun h => absurd h (nI_pos (by omega)), fun _ => ?_⟩
        refine pk_le (cn A d (p + 1)) q (fun h => by omega) (fun _ => ⟨hin, hinq, ?_⟩)
        rw [eq1, g24, g25, nI_clamp (n := ls A d p i) (by omega)]
        refine ⟨vp_in_nI (by omega) (by decide), fun s12 hs12 => ⟨hinq, hin, ?_⟩⟩
        have k25 : s12 25 = σ 25 := by rw [hs12]; exact su_k (k := 20) (q := 25) _ _ _ (by decide)
        have k24 : s12 24 = σ 24 := by rw [hs12]; exact su_k (k := 20) (q := 24) _ _ _ (by decide)
        rw [k25, k24, g24, g25, nI_clamp (n := ls A d (p + 1) q) (by omega)]
        refine ⟨vp_in_nI (by omega) (by decide), fun s13 hs13 => ?_⟩
        unfold qX0_pairPosts_194
        intro x hx
        rw [hx, nI_1]
        refine ih (i + 1) s13 (by omega) (fun k a b => by rw [hs13, su_k _ _ _ b, hs12, su_k _ _ _ a]; exact hE k a b) ?_ ?_
        · rw [hs13, su_k (k := 21) (q := 20) _ _ _ (by decide), hs12]
          simp only [uUp, ec, ← u1]
          simp [st_up]
        · have k21 : s12 21 = σ 21 := by rw [hs12]; exact su_k (k := 20) (q := 21) _ _ _ (by decide)
          rw [hs13]
          simp only [uLo, ec, ← u2]
          simp [st_up, k21]
  -- who meets whom
  have l54 : ∀ (r i : Nat) (σ : St), i + r = cn A d p → (∀ k, k ≠ 27 → σ k = v3 k) → (∀ i2 q, i2 < cn A d p → q < cn A d (p + 1) → bt (σ 27 i2) q = (decide (i2 < i) && met A d p i2 q)) → qX0_pairPosts_l54 Q (r + 1) (nI (cn A d p)) (nI (cn A d (p + 1))) (nI (A 1 (p + 1)) - nI (A 1 p)) (nI i) σ := by
    intro r
    induction r with
    | zero =>
      intro i σ hir hE hb
      have ei : i = cn A d p := by omega
      subst ei
      show qX0_pairPosts_54 (qX0_pairPosts_l54 Q 0) Q _ _ _ _ _
      unfold qX0_pairPosts_54
      refine pk_le (cn A d p) (cn A d p) (fun _ => ?_) (fun hc => by omega)
      have hM : CMet (cn A d (p + 1)) (cn A d p) σ (met A d p) := ⟨by rw [hE 26 (by decide)]; exact a6, m12, n12, fun i j hi hj => by rw [hb i j hi hj, decide_eq_true hi]; rfl⟩
      refine solve_ok hM (by rw [hE 26 (by decide)]; exact a5) (by rw [hE 26 (by decide)]; exact a7) (fun l hl => by rw [hE 28 (by decide)]; exact a28 l (by omega)) (fun q hq => by rw [hE 29 (by decide)]; exact a29 q (by omega)) (fun v c hS hc hc28 hcm => ⟨cn A d p + 1, ?_⟩)
      have h4 : ∀ k, k < 26 → v k = v3 k := fun k hk => by rw [hS.1 k (by omega) (by omega) (by omega) (by omega) (by omega), hE k (by omega)]
      refine lw c hc v hc28 hcm h4 (cn A d p) 0 v (by omega) (fun _ _ _ => rfl) ?_ ?_
      · rw [h4 20 (by omega), hF3 20 (by omega)]; rfl
      · rw [h4 21 (by omega), hF3 21 (by omega)]; rfl
    | succ r ih =>
      intro i σ hir hE hb
      have hi : i < cn A d p := by omega
      have hin : vp_in (nI i) 12 := vp_in_nI (by omega) (by decide)
      have ei : Int32.toNatClampNeg (nI i) = i := nI_clamp (by omega)
      show qX0_pairPosts_54 (qX0_pairPosts_l54 Q (r + 1)) Q _ _ _ _ _
      unfold qX0_pairPosts_54
      refine pk_le (cn A d p) i (fun hc => by omega) (fun _ => ⟨cn A d (p + 1) + 1, ?_⟩)
      have l63 : ∀ (r2 j : Nat) (σ : St), j + r2 = cn A d (p + 1) → (∀ k, k ≠ 27 → σ k = v3 k) → (∀ i2 q, i2 < cn A d p → q < cn A d (p + 1) → bt (σ 27 i2) q = (decide (i2 < i ∨ (i2 = i ∧ q < j)) && met A d p i2 q)) → qX0_pairPosts_l63 (qX0_pairPosts_l54 Q (r + 1)) Q (r2 + 1) (nI (cn A d p)) (nI (cn A d (p + 1))) (nI (A 1 (p + 1)) - nI (A 1 p)) (nI i) (nI j) σ := by
        intro r2
        induction r2 with
        | zero =>
          intro j σ hjr hE hb
          show qX0_pairPosts_63 (qX0_pairPosts_l54 Q (r + 1)) (qX0_pairPosts_l63 (qX0_pairPosts_l54 Q (r + 1)) Q 0) Q _ _ _ _ _ _
          unfold qX0_pairPosts_63
          refine pk_le (cn A d (p + 1)) j (fun _ => fun x hx => ?_) (fun hc => by omega)
          rw [hx, nI_1]
          refine ih (i + 1) σ (by omega) hE (fun i2 q h1 h2 => ?_)
          rw [hb i2 q h1 h2]
          congr 1
          exact decide_eq_decide.mpr (by omega)
        | succ r2 ih2 =>
          intro j σ hjr hE hb
          have hj : j < cn A d (p + 1) := by omega
          obtain ⟨s1, _, s3⟩ := ls_in hi
          obtain ⟨t1, _, t3⟩ := ls_in hj
          have hC : RC σ A := hC3.eq (fun k a => hE k (fun h => by rw [h] at a; exact absurd a (by decide)))
          show qX0_pairPosts_63 (qX0_pairPosts_l54 Q (r + 1)) (qX0_pairPosts_l63 (qX0_pairPosts_l54 Q (r + 1)) Q (r2 + 1)) Q _ _ _ _ _ _
          unfold qX0_pairPosts_63
          rw [ei, nI_clamp (n := j) (by omega), hE 24 (by decide), hE 25 (by decide), l24 i hi, l25 j hj]
          refine pk_le (cn A d (p + 1)) j (fun hc => by omega) (fun _ => ⟨hin, vp_in_nI (by omega) (by decide), ?_⟩)
          have emt : met A d p i j = mt A (ls A d p i) (ls A d (p + 1) j) := rfl
          refine c_meet hC hW (by omega) (by omega) (by rw [s3, t3]) (b2i_p (fun h => ?_) (fun h => ?_))
          · unfold qX0_pairPosts_104
            intro x hx
            rw [hx, nI_1]
            refine ih2 (j + 1) σ (by omega) hE (fun i2 q h1 h2 => ?_)
            rw [hb i2 q h1 h2]
            by_cases a : i2 = i ∧ q = j
            · rw [a.1, a.2, emt, h]; simp
            · congr 1
              exact decide_eq_decide.mpr (by omega)
          · unfold pX3_allow
            refine ⟨hin, hin, fun s1' hs1 => ?_⟩
            rw [ei] at hs1
            unfold qX0_pairPosts_104
            intro x hx
            rw [hx, nI_1]
            refine ih2 (j + 1) s1' (by omega) (fun k hk => by rw [hs1, su_k _ _ _ hk]; exact hE k hk) (fun i2 q h1 h2 => ?_)
            rw [hs1]
            by_cases a : i2 = i
            · subst a
              rw [su_s, bt_or_sh (by omega) (by omega), hb i2 q h1 h2]
              by_cases b : q = j
              · subst b
                rw [emt, h]
                simp
              · rw [decide_eq_false b, Bool.or_false]
                congr 1
                exact decide_eq_decide.mpr (by omega)
            · rw [su_j _ _ _ a, hb i2 q h1 h2]
              congr 1
              exact decide_eq_decide.mpr (by omega)
      refine l63 (cn A d (p + 1)) 0 σ (by omega) hE (fun i2 q h1 h2 => ?_)
      rw [hb i2 q h1 h2]
      congr 1
      exact decide_eq_decide.mpr (by omega)
  refine ⟨cn A d p + 1, l54 (cn A d p) 0 v3 (by omega) (fun _ _ => rfl) (fun i2 q h1 h2 => ?_)⟩
  rw [a27 i2 (by omega), b_0]
  simp
