/-! post(), kind() -/
theorem ct_z (P : Nat → Bool) {n : Nat} (h : n = 0) : fb_ct P n = 0 := by subst h; rfl
theorem sh_0 {A : AS} (h : A 0 9 = 0) : aSh A = 0 := ct_z _ h
theorem Cache_0 {B : AS} {v : St} (h : B 0 9 = 0) : Cache B v := fun d _ _ t ht _ => by rw [sh_0 h] at ht; omega
theorem sim_post {σ : St} {u : SM} (hR : RelCM σ u) (x1 : Int32) : pX8_post x1 σ (fun r v => pX9_post x1 u (fun r2 u2 => r = r2 ∧ RelCM v u2)) := by
  obtain ⟨A, hW, hC, hM, hK⟩ := hR
  have h300 := hW.n
  have hp4 := hW.p
  have hpl := hW.pl
  by_cases hg : ∃ x, x < 401 ∧ x1 = nI x ∧ A 0 9 = 0 ∧ A 0 1 < 4 ∧ (A 0 1 = 0 ∨ A 1 (A 0 1 - 1) < x)
  · obtain ⟨x, hx, e1, h9, hp, hlast⟩ := hg
    subst e1
    have hl := hpl (A 0 1 - 1)
    -- the new state
    have main : ∀ (s1 s2 : St) (t1 t2 t3 : SM), s1 = st_up σ 3 (A 0 1) (nI x) → s2 = st_up s1 2 1 (nI (A 0 1 + 1)) → t1 = (st_up u.1 0 0 0, u.2) → t2 = (st_up t1.1 1 (A 0 1) (nI x), t1.2) → t3 = (st_up t2.1 0 1 (nI (A 0 1 + 1)), t2.2) → RelCM s2 t3 := by
      intro s1 s2 t1 t2 t3 hs1 hs2 ht1 ht2 ht3
      refine ⟨ap (ap A 1 (A 0 1) x) 0 1 (A 0 1 + 1), ?_⟩
      generalize hB : ap (ap A 1 (A 0 1) x) 0 1 (A 0 1 + 1) = B
      have b01 : B 0 1 = A 0 1 + 1 := by rw [← hB, ap_s]
      have b0 : ∀ j, j ≠ 1 → B 0 j = A 0 j := fun j hj => by rw [← hB, ap_j _ _ _ hj, ap_k _ _ _ (by decide)]
      have b1 : B 1 (A 0 1) = x := by rw [← hB, ap_k _ _ _ (by decide), ap_s]
      have b1o : ∀ j, j ≠ A 0 1 → B 1 j = A 1 j := fun j hj => by rw [← hB, ap_k _ _ _ (by decide), ap_j _ _ _ hj]
      have bk : ∀ k, k ≠ 0 → k ≠ 1 → B k = A k := fun k h0 h1 => by rw [← hB, ap_k _ _ _ h0, ap_k _ _ _ h1]
      have b9 : B 0 9 = 0 := by rw [b0 9 (by decide)]; exact h9
      have kk : ∀ k, k ≠ 2 → k ≠ 3 → s2 k = σ k := fun k a b => by rw [hs2, su_k _ _ _ a, hs1, su_k _ _ _ b]
      have eas : aAs B = aAs A := by unfold aAs; rw [b0 8 (by decide)]
      refine ⟨⟨by omega, ?_, ?_, ?_, ?_, by omega, ?_, fun t ht => by omega, fun s t _ ht => by omega, fun d p => ?_, ?_, ?_, fun q => ?_⟩, ?_, ?_, Cache_0 b9⟩
      · rw [b0 3 (by decide)]; exact hW.k1
      · rw [b0 3 (by decide)]; exact hW.k
      · rw [b0 7 (by decide)]; exact hW.now
      · rw [b0 7 (by decide), b0 8 (by decide)]; exact hW.asOf
      · rw [b0 3 (by decide), bk 2 (by decide) (by decide)]; exact hW.par
      · rw [ct_z _ b9]; omega
      · rw [bk 11 (by decide) (by decide)]; exact hW.off
      · rw [bk 12 (by decide) (by decide)]; exact hW.wd
      · by_cases a : q = A 0 1
        · subst a; rw [b1]; omega
        · rw [b1o q a]; exact hpl q
      · refine ⟨?_, ?_, ?_, ?_, ?_, ?_, fun i => ?_, ?_, ?_, ?_, fun k hk => ?_, ?_, ?_, fun t ht => by omega, ?_, ?_, ?_, ?_⟩
        · rw [kk 0 (by decide) (by decide), b0 7 (by decide)]; exact hC.now
        · rw [kk 0 (by decide) (by decide), eas]; exact hC.asOf
        · rw [hs2, su_s, b01]
        · rw [kk 4 (by decide) (by decide), b0 3 (by decide)]; exact hC.kinds
        · rw [kk 12 (by decide) (by decide), b0 9 (by decide)]; exact hC.num
        · rw [kk 12 (by decide) (by decide), sh_0 b9, ← sh_0 h9]; exact hC.shown
        · rw [hs2, su_k (k := 2) (q := 3) _ _ _ (by decide), hs1]
          by_cases a : i = A 0 1
          · subst a; rw [su_s, b1]
          · rw [su_j _ _ _ a, b1o i a]; exact hC.place i
        · rw [kk 5 (by decide) (by decide), bk 3 (by decide) (by decide)]; exact hC.slow
        · rw [kk 6 (by decide) (by decide), bk 4 (by decide) (by decide)]; exact hC.fast
        · rw [kk 7 (by decide) (by decide), b0 3 (by decide), un_cong (bk 2 (by decide) (by decide))]; exact hC.up
        · rw [b0 3 (by decide)] at hk
          have e : lf B k = lf A k := by unfold lf; rw [b0 3 (by decide), bk 2 (by decide) (by decide)]
          rw [kk 8 (by decide) (by decide), e]; exact hC.leaf k hk
        · rw [kk 10 (by decide) (by decide), bk 12 (by decide) (by decide)]; exact hC.wind
        · rw [kk 11 (by decide) (by decide), bk 11 (by decide) (by decide)]; exact hC.shut
        · rw [kk 14 (by decide) (by decide), bk 7 (by decide) (by decide)]; exact hC.min
        · rw [kk 15 (by decide) (by decide), bk 8 (by decide) (by decide)]; exact hC.post
        · rw [kk 16 (by decide) (by decide), bk 9 (by decide) (by decide)]; exact hC.kind
        · rw [kk 17 (by decide) (by decide), bk 10 (by decide) (by decide)]; exact hC.since
      · have m0 : ∀ j, j ≠ 0 → j ≠ 1 → t3.1 0 j = u.1 0 j := fun j a b => by rw [ht3, mk_j _ _ _ b, ht2, mk_k _ _ _ (by decide), ht1, mk_j _ _ _ a]
        have mk : ∀ k, k ≠ 0 → k ≠ 1 → t3.1 k = u.1 k := fun k a b => by rw [ht3, mk_k _ _ _ a, ht2, mk_k _ _ _ b, ht1, mk_k _ _ _ a]
        refine ⟨by rw [ht3, mk_s, b01], ?_, ?_, ?_, ?_, ?_, ?_, fun k hk i => ?_⟩
        · rw [m0 3 (by decide) (by decide), b0 3 (by decide)]; exact hM.kinds
        · rw [m0 7 (by decide) (by decide), b0 7 (by decide)]; exact hM.now
        · rw [m0 8 (by decide) (by decide), eas]; exact hM.asOf
        · rw [m0 9 (by decide) (by decide), b0 9 (by decide)]; exact hM.num
        · rw [mk 2 (by decide) (by decide)]; exact hM.root
        · rw [mk 2 (by decide) (by decide), bk 2 (by decide) (by decide)]; exact hM.par
        · by_cases e : k = 1
          · subst e
            rw [ht3, mk_k _ _ _ (by decide), ht2]
            by_cases a : i = A 0 1
            · subst a; rw [mk_s, b1]
            · rw [mk_j _ _ _ a, ht1, mk_k _ _ _ (by decide), b1o i a]; exact hM.row 1 (by omega) i
          · rw [mk k (by omega) e, bk k (by omega) e]; exact hM.row k hk i
    have mod : ∀ s1 s2 : St, s1 = st_up σ 3 (A 0 1) (nI x) → s2 = st_up s1 2 1 (nI (A 0 1 + 1)) → pX9_post (nI x) u (fun r2 u2 => nI (A 0 1) = r2 ∧ RelCM s2 u2) := by
      intro s1 s2 hs1 hs2
      unfold pX9_post
      intro t1 ht1
      have hM1 : RM t1 A := hM.eq (by rw [ht1]; exact MEq.t0 u 0)
      have go : qX9_post_55 (fun r2 u2 => nI (A 0 1) = r2 ∧ RelCM s2 u2) (nI x) t1 := by
        unfold qX9_post_55
        rw [hM1.posts]
        refine ⟨vp_in_nI hp (by decide), fun t2 ht2 t3 ht3 => ?_⟩
        rw [nI_clamp (n := A 0 1) (by omega)] at ht2
        have f1 : t2.1 0 1 = nI (A 0 1) := by rw [ht2, mk_k _ _ _ (by decide)]; exact hM1.posts
        rw [f1, nI_1] at ht3
        refine ⟨?_, main s1 s2 t1 t2 t3 hs1 hs2 ht1 ht2 ht3⟩
        rw [ht3, mk_s, nI_pred]
      refine ⟨fun h => absurd h (nI_pos (by omega)), fun _ => pk_lt 400 x (fun h => by omega) (fun _ => pk_eq (A 0 1) 4 (fun h => by omega) (fun _ => pk_lt 0 (A 0 9) (fun h => by omega) (fun _ => pk_le (A 0 1) 0 (fun _ => go) (fun h0 => ?_) (hx := hM1.posts)) (hy := hM1.num)) (hx := hM1.posts))⟩
      rw [hM1.posts, show nI (A 0 1) - 1 = nI (A 0 1 - 1) from pk_sub (a := A 0 1) (b := 1) (by omega), nI_clamp (n := A 0 1 - 1) (by omega), hM1.row 1 (by omega)]
      exact ⟨vp_in_nI (by omega) (by decide), pk_lt (A 1 (A 0 1 - 1)) x (fun _ => go) (fun h => by omega)⟩
    have go : qX6_add_45 (fun r2 s1 => pX9_post (nI x) u (fun r3 u2 => r2 = r3 ∧ RelCM s1 u2)) (nI x) σ := by
      unfold qX6_add_45
      rw [hC.posts]
      refine ⟨vp_in_nI hp (by decide), fun s1 hs1 s2 hs2 => ?_⟩
      rw [nI_clamp (n := A 0 1) (by omega)] at hs1
      have f1 : s1 2 1 = nI (A 0 1) := by rw [hs1, su_k (k := 3) (q := 2) _ _ _ (by decide)]; exact hC.posts
      rw [f1, nI_1] at hs2
      rw [show s2 2 1 - 1 = nI (A 0 1) by rw [hs2, su_s, nI_pred]]
      exact mod s1 s2 hs1 hs2
    unfold pX8_post pX6_add
    refine pk_le (A 0 9) 0 (fun _ => pk_le 4 (A 0 1) (fun h => by omega) (fun _ => ⟨fun h => absurd h (nI_pos (by omega)), fun _ => pk_le x 400 (fun _ => pk_le (A 0 1) 0 (fun _ => go) (fun h0 => ?_) (hx := hC.posts)) (fun h => by omega)⟩) (hy := hC.posts)) (fun h => by omega) (hx := hC.num)
    rw [hC.posts, show nI (A 0 1) - 1 = nI (A 0 1 - 1) from pk_sub (a := A 0 1) (b := 1) (by omega), nI_clamp (n := A 0 1 - 1) (by omega), hC.place]
    exact ⟨vp_in_nI (by omega) (by decide), pk_lt (A 1 (A 0 1 - 1)) x (fun _ => go) (fun h => by omega)⟩
  · have fin : pX9_post x1 u (fun r2 u2 => (-1 : Int32) = r2 ∧ RelCM σ u2) := by
      unfold pX9_post
      intro t1 ht1
      have hM1 : RM t1 A := hM.eq (by rw [ht1]; exact MEq.t0 u 0)
      have rk : (-1 : Int32) = -1 ∧ RelCM σ t1 := ⟨rfl, relK hW hC hM (CE.rf σ) hK (by rw [ht1]; exact MEq.t0 u 0)⟩
      refine ⟨fun _ => rk, fun h0 => ⟨fun _ => rk, fun h1 => ?_⟩⟩
      obtain ⟨x, hx, e⟩ := ix4 (n := 400) h0 h1 (by decide)
      subst e
      refine pk_eq (A 0 1) 4 (fun _ => rk) (fun c1 => pk_lt 0 (A 0 9) (fun _ => rk) (fun c2 => pk_le (A 0 1) 0 (fun c3 => absurd ⟨x, hx, rfl, by omega, by omega, by omega⟩ hg) (fun c3 => ?_) (hx := hM1.posts)) (hy := hM1.num)) (hx := hM1.posts)
      have hl := hpl (A 0 1 - 1)
      rw [hM1.posts, show nI (A 0 1) - 1 = nI (A 0 1 - 1) from pk_sub (a := A 0 1) (b := 1) (by omega), nI_clamp (n := A 0 1 - 1) (by omega), hM1.row 1 (by omega)]
      exact ⟨vp_in_nI (by omega) (by decide), pk_lt (A 1 (A 0 1 - 1)) x (fun c4 => absurd ⟨x, hx, rfl, by omega, by omega, by omega⟩ hg) (fun _ => rk)⟩
    unfold pX8_post pX6_add
    refine pk_le (A 0 9) 0 (fun c2 => pk_le 4 (A 0 1) (fun _ => fin) (fun c1 => ⟨fun _ => fin, fun h0 => ⟨fun h1 => ?_, fun _ => fin⟩⟩) (hy := hC.posts)) (fun _ => fin) (hx := hC.num)
    obtain ⟨x, hx, e⟩ := ix3 (n := 400) h0 h1 (by decide)
    subst e
    refine pk_le (A 0 1) 0 (fun c3 => absurd ⟨x, hx, rfl, by omega, by omega, by omega⟩ hg) (fun c3 => ?_) (hx := hC.posts)
    have hl := hpl (A 0 1 - 1)
    rw [hC.posts, show nI (A 0 1) - 1 = nI (A 0 1 - 1) from pk_sub (a := A 0 1) (b := 1) (by omega), nI_clamp (n := A 0 1 - 1) (by omega), hC.place]
    exact ⟨vp_in_nI (by omega) (by decide), pk_lt (A 1 (A 0 1 - 1)) x (fun c4 => absurd ⟨x, hx, rfl, by omega, by omega, by omega⟩ hg) (fun _ => fin)⟩
theorem unF_lt {A B : AS} {N : Nat} (h : ∀ q, 0 < q → q < N → A 2 q = B 2 q) (hp : ∀ q, 0 < q → q < N → A 2 q < q) : ∀ f k j, k < N → unF A f k j = unF B f k j := by
  intro f
  induction f with
  | zero => intro k j _; rfl
  | succ f ih =>
    intro k j hk
    show (decide (j = k) || (decide (k ≠ 0) && unF A f (A 2 k) j)) = (decide (j = k) || (decide (k ≠ 0) && unF B f (B 2 k) j))
    by_cases e : k = 0
    · subst e; simp
    · rw [← h k (by omega) hk, ih (A 2 k) j (by have := hp k (by omega) hk; omega)]
theorem c_has {A : AS} {σ : St} {Q : Int32 → St → Prop} {x : Int32} (hC : RC σ A) (hW : WF A) (h0 : (∀ k, k < A 0 3 → x ≠ nI k) → Q 0 σ) (h1 : ∀ k, k < A 0 3 → x = nI k → Q 1 σ) : pX1_has x σ Q := by
  have hk20 := hW.k
  unfold pX1_has
  rw [hC.kinds]
  refine ⟨fun h => h0 (fun t ht e => ?_), fun h => ⟨fun h2 => h0 (fun t ht e => ?_), fun h2 => ?_⟩⟩
  · rw [e] at h; exact nI_pos (by omega) h
  · rw [e] at h2; exact nI_ge ht (by omega) h2
  · obtain ⟨t, ht, e⟩ := ix1 h h2 (by omega)
    exact h1 t ht e
theorem m_isKind {A : AS} {u : SM} {Q : Int32 → SM → Prop} {x : Int32} (hM : RM u A) (hW : WF A) (h0 : (∀ k, k < A 0 3 → x ≠ nI k) → Q 0 u) (h1 : ∀ k, k < A 0 3 → x = nI k → Q 1 u) : pX9_isKind x u Q := by
  have hk20 := hW.k
  unfold pX9_isKind
  rw [hM.kinds]
  refine ⟨fun h => h0 (fun t ht e => ?_), fun h => ⟨fun h2 => h0 (fun t ht e => ?_), fun h2 => ?_⟩⟩
  · rw [e] at h; exact nI_pos (by omega) h
  · rw [e] at h2; exact nI_ge ht (by omega) h2
  · obtain ⟨t, ht, e⟩ := ix1 h h2 (by omega)
    exact h1 t ht e
theorem sim_kind {σ : St} {u : SM} (hR : RelCM σ u) (x1 x2 x3 : Int32) : pX8_kind x1 x2 x3 σ (fun r v => pX9_kind x1 x2 x3 u (fun r2 u2 => r = r2 ∧ RelCM v u2)) := by
  obtain ⟨A, hW, hC, hM, hK⟩ := hR
  have h300 := hW.n
  have hk20 := hW.k
  have hk1 := hW.k1
  by_cases hg : ∃ o s f, o < A 0 3 ∧ x1 = nI o ∧ x2 = nI s ∧ x3 = nI f ∧ 1 ≤ s ∧ s ≤ f ∧ f ≤ 400 ∧ A 0 9 = 0 ∧ A 0 3 < 20
  · obtain ⟨o, s, f, ho, e1, e2, e3, hs1, hsf, hf, h9, hk⟩ := hg
    subst e1 e2 e3
    have main : ∀ (s3 s4 s5 s6 s7 s8 : St) (t1 t4 t5 t6 t7 : SM), s3 = st_up σ 5 (A 0 3) (nI s) → s4 = st_up s3 6 (A 0 3) (nI f) → s5 = st_up s4 7 (A 0 3) ((σ 7 o) ||| ((1 : Int32) <<< (nI (A 0 3) &&& 31))) → s6 = st_up s5 8 (A 0 3) 1 → s7 = st_up s6 8 o 0 → s8 = st_up s7 4 4 (nI (A 0 3 + 1)) → t1 = (st_up u.1 0 0 0, u.2) → t4 = (st_up t1.1 2 (A 0 3) (nI o), t1.2) → t5 = (st_up t4.1 3 (A 0 3) (nI s), t4.2) → t6 = (st_up t5.1 4 (A 0 3) (nI f), t5.2) → t7 = (st_up t6.1 0 3 (nI (A 0 3 + 1)), t6.2) → RelCM s8 t7 := by
      intro s3 s4 s5 s6 s7 s8 t1 t4 t5 t6 t7 hs3 hs4 hs5 hs6 hs7 hs8 ht1 ht4 ht5 ht6 ht7
      refine ⟨ap (ap (ap (ap A 2 (A 0 3) o) 3 (A 0 3) s) 4 (A 0 3) f) 0 3 (A 0 3 + 1), ?_⟩
      generalize hB : ap (ap (ap (ap A 2 (A 0 3) o) 3 (A 0 3) s) 4 (A 0 3) f) 0 3 (A 0 3 + 1) = B
      have b03 : B 0 3 = A 0 3 + 1 := by rw [← hB, ap_s]
      have b0 : ∀ j, j ≠ 3 → B 0 j = A 0 j := fun j hj => by rw [← hB, ap_j _ _ _ hj, ap_k _ _ _ (by decide), ap_k _ _ _ (by decide), ap_k _ _ _ (by decide)]
      have b2 : B 2 (A 0 3) = o := by rw [← hB, ap_k _ _ _ (by decide), ap_k _ _ _ (by decide), ap_k _ _ _ (by decide), ap_s]
      have b2o : ∀ j, j ≠ A 0 3 → B 2 j = A 2 j := fun j hj => by rw [← hB, ap_k _ _ _ (by decide), ap_k _ _ _ (by decide), ap_k _ _ _ (by decide), ap_j _ _ _ hj]
      have b3 : B 3 (A 0 3) = s := by rw [← hB, ap_k _ _ _ (by decide), ap_k _ _ _ (by decide), ap_s]
      have b3o : ∀ j, j ≠ A 0 3 → B 3 j = A 3 j := fun j hj => by rw [← hB, ap_k _ _ _ (by decide), ap_k _ _ _ (by decide), ap_j _ _ _ hj, ap_k _ _ _ (by decide)]
      have b4 : B 4 (A 0 3) = f := by rw [← hB, ap_k _ _ _ (by decide), ap_s]
      have b4o : ∀ j, j ≠ A 0 3 → B 4 j = A 4 j := fun j hj => by rw [← hB, ap_k _ _ _ (by decide), ap_j _ _ _ hj, ap_k _ _ _ (by decide), ap_k _ _ _ (by decide)]
      have bk : ∀ k, k ≠ 0 → k ≠ 2 → k ≠ 3 → k ≠ 4 → B k = A k := fun k h0 h2 h3 h4 => by rw [← hB, ap_k _ _ _ h0, ap_k _ _ _ h4, ap_k _ _ _ h3, ap_k _ _ _ h2]
      have b9 : B 0 9 = 0 := by rw [b0 9 (by decide)]; exact h9
      have kk : ∀ k, k ≠ 4 → k ≠ 5 → k ≠ 6 → k ≠ 7 → k ≠ 8 → s8 k = σ k := fun k a b c d e => by rw [hs8, su_k _ _ _ a, hs7, su_k _ _ _ e, hs6, su_k _ _ _ e, hs5, su_k _ _ _ d, hs4, su_k _ _ _ c, hs3, su_k _ _ _ b]
      have eas : aAs B = aAs A := by unfold aAs; rw [b0 8 (by decide)]
      have hWB : WF B := by
        refine ⟨?_, by omega, by omega, ?_, ?_, by omega, fun q h0 hq => ?_, fun t ht => by omega, fun s t _ ht => by omega, fun d p => ?_, ?_, ?_, ?_⟩
        · rw [b0 1 (by decide)]; exact hW.p
        · rw [b0 7 (by decide)]; exact hW.now
        · rw [b0 7 (by decide), b0 8 (by decide)]; exact hW.asOf
        · by_cases a : q = A 0 3
          · subst a; rw [b2]; exact ho
          · rw [b2o q a]; exact hW.par q h0 (by omega)
        · rw [ct_z _ b9]; omega
        · rw [bk 11 (by decide) (by decide) (by decide) (by decide)]; exact hW.off
        · rw [bk 12 (by decide) (by decide) (by decide) (by decide)]; exact hW.wd
        · rw [bk 1 (by decide) (by decide) (by decide) (by decide)]; exact hW.pl
      have unB : ∀ k, k < A 0 3 → ∀ j, un A k j = un B k j := fun k hk j => unF_lt (N := A 0 3) (fun q _ hq => (b2o q (by omega)).symm) hW.par 20 k j hk
      refine ⟨hWB, ?_, ?_, Cache_0 b9⟩
      · refine ⟨?_, ?_, ?_, ?_, ?_, ?_, ?_, fun i => ?_, fun i => ?_, fun k hk2 j hj => ?_, fun k hk2 => ?_, ?_, ?_, fun t ht => by omega, ?_, ?_, ?_, ?_⟩
        · rw [kk 0 (by decide) (by decide) (by decide) (by decide) (by decide), b0 7 (by decide)]; exact hC.now
        · rw [kk 0 (by decide) (by decide) (by decide) (by decide) (by decide), eas]; exact hC.asOf
        · rw [kk 2 (by decide) (by decide) (by decide) (by decide) (by decide), b0 1 (by decide)]; exact hC.posts
        · rw [hs8, su_s, b03]
        · rw [kk 12 (by decide) (by decide) (by decide) (by decide) (by decide), b0 9 (by decide)]; exact hC.num
        · rw [kk 12 (by decide) (by decide) (by decide) (by decide) (by decide), sh_0 b9, ← sh_0 h9]; exact hC.shown
        · rw [kk 3 (by decide) (by decide) (by decide) (by decide) (by decide), bk 1 (by decide) (by decide) (by decide) (by decide)]; exact hC.place
        · rw [hs8, su_k (k := 4) (q := 5) _ _ _ (by decide), hs7, su_k (k := 8) (q := 5) _ _ _ (by decide), hs6, su_k (k := 8) (q := 5) _ _ _ (by decide), hs5, su_k (k := 7) (q := 5) _ _ _ (by decide), hs4, su_k (k := 6) (q := 5) _ _ _ (by decide), hs3]
          by_cases a : i = A 0 3
          · subst a; rw [su_s, b3]
          · rw [su_j _ _ _ a, b3o i a]; exact hC.slow i
        · rw [hs8, su_k (k := 4) (q := 6) _ _ _ (by decide), hs7, su_k (k := 8) (q := 6) _ _ _ (by decide), hs6, su_k (k := 8) (q := 6) _ _ _ (by decide), hs5, su_k (k := 7) (q := 6) _ _ _ (by decide), hs4]
          by_cases a : i = A 0 3
          · subst a; rw [su_s, b4]
          · rw [su_j _ _ _ a, b4o i a, hs3, su_k (k := 5) (q := 6) _ _ _ (by decide)]; exact hC.fast i
        · rw [hs8, su_k (k := 4) (q := 7) _ _ _ (by decide), hs7, su_k (k := 8) (q := 7) _ _ _ (by decide), hs6, su_k (k := 8) (q := 7) _ _ _ (by decide), hs5]
          by_cases a : k = A 0 3
          · subst a
            rw [su_s, bt_or_sh (by omega) hj, hC.up o ho j hj, un_step hWB (by omega) (by omega), b2, ← unB o ho, Bool.or_comm]
          · rw [su_j _ _ _ a, hs4, su_k (k := 6) (q := 7) _ _ _ (by decide), hs3, su_k (k := 5) (q := 7) _ _ _ (by decide), ← unB k (by omega)]
            exact hC.up k (by omega) j hj
        · have el : lf B k = decide (fb_ct (fun q => decide (0 < q ∧ A 2 q = k)) (A 0 3) + (if decide (0 < A 0 3 ∧ o = k) = true then 1 else 0) = 0) := by
            unfold lf
            rw [b03, fb_ct_succ, b2]
            rw [fb_ct_cong (p := fun q => decide (0 < q ∧ B 2 q = k)) (q := fun q => decide (0 < q ∧ A 2 q = k)) (fun q hq => by rw [b2o q (by omega)])]
          rw [hs8, su_k (k := 4) (q := 8) _ _ _ (by decide), hs7]
          by_cases a : k = o
          · subst a
            rw [su_s, el, if_pos (decide_eq_true ⟨by omega, rfl⟩), decide_eq_false (by omega)]
            rfl
          · rw [su_j _ _ _ a, hs6, el, if_neg (fun h => a ((of_decide_eq_true h).2).symm), Nat.add_zero]
            by_cases b : k = A 0 3
            · subst b
              rw [su_s, decide_eq_true (fb_ct_zero.mpr (fun q hq => decide_eq_false (fun h => by have := hW.par q h.1 hq; omega)))]
              rfl
            · rw [su_j _ _ _ b, hs5, su_k (k := 7) (q := 8) _ _ _ (by decide), hs4, su_k (k := 6) (q := 8) _ _ _ (by decide), hs3, su_k (k := 5) (q := 8) _ _ _ (by decide)]
              exact hC.leaf k (by omega)
        · rw [kk 10 (by decide) (by decide) (by decide) (by decide) (by decide), bk 12 (by decide) (by decide) (by decide) (by decide)]; exact hC.wind
        · rw [kk 11 (by decide) (by decide) (by decide) (by decide) (by decide), bk 11 (by decide) (by decide) (by decide) (by decide)]; exact hC.shut
        · rw [kk 14 (by decide) (by decide) (by decide) (by decide) (by decide), bk 7 (by decide) (by decide) (by decide) (by decide)]; exact hC.min
        · rw [kk 15 (by decide) (by decide) (by decide) (by decide) (by decide), bk 8 (by decide) (by decide) (by decide) (by decide)]; exact hC.post
        · rw [kk 16 (by decide) (by decide) (by decide) (by decide) (by decide), bk 9 (by decide) (by decide) (by decide) (by decide)]; exact hC.kind
        · rw [kk 17 (by decide) (by decide) (by decide) (by decide) (by decide), bk 10 (by decide) (by decide) (by decide) (by decide)]; exact hC.since
      · have m0 : ∀ j, j ≠ 0 → j ≠ 3 → t7.1 0 j = u.1 0 j := fun j a b => by rw [ht7, mk_j _ _ _ b, ht6, mk_k _ _ _ (by decide), ht5, mk_k _ _ _ (by decide), ht4, mk_k _ _ _ (by decide), ht1, mk_j _ _ _ a]
        have mk : ∀ k, k ≠ 0 → k ≠ 2 → k ≠ 3 → k ≠ 4 → t7.1 k = u.1 k := fun k a b c d => by rw [ht7, mk_k _ _ _ a, ht6, mk_k _ _ _ d, ht5, mk_k _ _ _ c, ht4, mk_k _ _ _ b, ht1, mk_k _ _ _ a]
        have m2 : t7.1 2 = t4.1 2 := by rw [ht7, mk_k _ _ _ (by decide), ht6, mk_k _ _ _ (by decide), ht5, mk_k _ _ _ (by decide)]
        refine ⟨?_, by rw [ht7, mk_s, b03], ?_, ?_, ?_, ?_, fun k hk0 => ?_, fun k hk2 i => ?_⟩
        · rw [m0 1 (by decide) (by decide), b0 1 (by decide)]; exact hM.posts
        · rw [m0 7 (by decide) (by decide), b0 7 (by decide)]; exact hM.now
        · rw [m0 8 (by decide) (by decide), eas]; exact hM.asOf
        · rw [m0 9 (by decide) (by decide), b0 9 (by decide)]; exact hM.num
        · rw [m2, ht4, mk_j _ _ _ (by omega), ht1, mk_k _ _ _ (by decide)]; exact hM.root
        · rw [m2, ht4]
          by_cases a : k = A 0 3
          · subst a; rw [mk_s, b2]
          · rw [mk_j _ _ _ a, ht1, mk_k _ _ _ (by decide), b2o k a]; exact hM.par k hk0
        · by_cases e3 : k = 3
          · subst e3
            rw [ht7, mk_k _ _ _ (by decide), ht6, mk_k _ _ _ (by decide), ht5]
            by_cases a : i = A 0 3
            · subst a; rw [mk_s, b3]
            · rw [mk_j _ _ _ a, ht4, mk_k _ _ _ (by decide), ht1, mk_k _ _ _ (by decide), b3o i a]; exact hM.row 3 (by omega) i
          · by_cases e4 : k = 4
            · subst e4
              rw [ht7, mk_k _ _ _ (by decide), ht6]
              by_cases a : i = A 0 3
              · subst a; rw [mk_s, b4]
              · rw [mk_j _ _ _ a, ht5, mk_k _ _ _ (by decide), ht4, mk_k _ _ _ (by decide), ht1, mk_k _ _ _ (by decide), b4o i a]; exact hM.row 4 (by omega) i
            · rw [mk k (by omega) (by omega) e3 e4, bk k (by omega) (by omega) e3 e4]; exact hM.row k hk2 i
    have mod : ∀ (s3 s4 s5 s6 s7 s8 : St), s3 = st_up σ 5 (A 0 3) (nI s) → s4 = st_up s3 6 (A 0 3) (nI f) → s5 = st_up s4 7 (A 0 3) ((σ 7 o) ||| ((1 : Int32) <<< (nI (A 0 3) &&& 31))) → s6 = st_up s5 8 (A 0 3) 1 → s7 = st_up s6 8 o 0 → s8 = st_up s7 4 4 (nI (A 0 3 + 1)) → pX9_kind (nI o) (nI s) (nI f) u (fun r2 u2 => nI (A 0 3) = r2 ∧ RelCM s8 u2) := by
      intro s3 s4 s5 s6 s7 s8 hs3 hs4 hs5 hs6 hs7 hs8
      unfold pX9_kind
      intro t1 ht1
      have hM1 : RM t1 A := hM.eq (by rw [ht1]; exact MEq.t0 u 0)
      refine m_isKind hM1 hW (fun h => absurd rfl (h o ho)) (fun _ _ _ => ⟨fun h => absurd h (by decide), fun _ => pk_lt s 1 (fun h => by omega) (fun _ => pk_lt 400 f (fun h => by omega) (fun _ => pk_lt f s (fun h => by omega) (fun _ => pk_eq (A 0 3) 20 (fun h => by omega) (fun _ => pk_le (A 0 9) 0 (fun _ => ?_) (fun h => by omega) (hx := hM1.num)) (hx := hM1.kinds))))⟩)
      have hin : vp_in (nI (A 0 3)) 20 := vp_in_nI hk (by decide)
      rw [hM1.kinds, nI_clamp (n := A 0 3) (by omega)]
      refine ⟨hin, fun t4 ht4 => ?_⟩
      have f4 : t4.1 0 3 = nI (A 0 3) := by rw [ht4, mk_k _ _ _ (by decide)]; exact hM1.kinds
      rw [f4, nI_clamp (n := A 0 3) (by omega)]
      refine ⟨hin, fun t5 ht5 => ?_⟩
      have f5 : t5.1 0 3 = nI (A 0 3) := by rw [ht5, mk_k _ _ _ (by decide)]; exact f4
      rw [f5, nI_clamp (n := A 0 3) (by omega)]
      refine ⟨hin, fun t6 ht6 t7 ht7 => ?_⟩
      have f6 : t6.1 0 3 = nI (A 0 3) := by rw [ht6, mk_k _ _ _ (by decide)]; exact f5
      rw [f6, nI_1] at ht7
      refine ⟨?_, main s3 s4 s5 s6 s7 s8 t1 t4 t5 t6 t7 hs3 hs4 hs5 hs6 hs7 hs8 ht1 ht4 ht5 ht6 ht7⟩
      rw [ht7, mk_s, nI_pred]
    unfold pX8_kind pX1_add
    refine pk_le (A 0 9) 0 (fun _ => c_has hC hW (fun h => absurd rfl (h o ho)) (fun _ _ _ => ⟨fun h => absurd h (by decide), fun _ => pk_lt (A 0 3) 20 (fun _ => pk_lt s 1 (fun h => by omega) (fun _ => pk_lt f s (fun h => by omega) (fun _ => pk_le f 400 (fun _ => ?_) (fun h => by omega)))) (fun h => by omega) (hx := hC.kinds)⟩)) (fun h => by omega) (hx := hC.num)
    have hin : vp_in (nI (A 0 3)) 20 := vp_in_nI hk (by decide)
    have hino : vp_in (nI o) 20 := vp_in_nI (by omega) (by decide)
    rw [hC.kinds, nI_clamp (n := A 0 3) (by omega), nI_clamp (n := o) (by omega), nar_1, nar_0]
    refine ⟨hin, fun s3 hs3 => ?_⟩
    have f3 : s3 4 4 = nI (A 0 3) := by rw [hs3, su_k (k := 5) (q := 4) _ _ _ (by decide)]; exact hC.kinds
    rw [f3, nI_clamp (n := A 0 3) (by omega)]
    refine ⟨hin, fun s4 hs4 => ⟨hino, ?_⟩⟩
    have f4 : s4 4 4 = nI (A 0 3) := by rw [hs4, su_k (k := 6) (q := 4) _ _ _ (by decide)]; exact f3
    have f7 : s4 7 = σ 7 := by rw [hs4, su_k (k := 6) (q := 7) _ _ _ (by decide), hs3, su_k (k := 5) (q := 7) _ _ _ (by decide)]
    rw [f4, f7, nI_clamp (n := A 0 3) (by omega)]
    refine ⟨hin, fun s5 hs5 => ?_⟩
    have f5 : s5 4 4 = nI (A 0 3) := by rw [hs5, su_k (k := 7) (q := 4) _ _ _ (by decide)]; exact f4
    rw [f5, nI_clamp (n := A 0 3) (by omega)]
    refine ⟨hin, fun s6 hs6 => ⟨hino, fun s7 hs7 s8 hs8 => ?_⟩⟩
    have f8 : s7 4 4 = nI (A 0 3) := by rw [hs7, su_k (k := 8) (q := 4) _ _ _ (by decide), hs6, su_k (k := 8) (q := 4) _ _ _ (by decide)]; exact f5
    rw [f8, nI_1] at hs8
    rw [show s8 4 4 - 1 = nI (A 0 3) by rw [hs8, su_s, nI_pred]]
    exact mod s3 s4 s5 s6 s7 s8 hs3 hs4 hs5 hs6 hs7 hs8
  · have num : ∀ o, o < A 0 3 → x1 = nI o → ¬ x2 < 1 → ¬ x3 < x2 → x3 ≤ 400 → A 0 9 = 0 → A 0 3 < 20 → False := by
      intro o ho e1 h1 h2 h3 h9 hk
      have c1 : ((1 : Int32)).toInt = 1 := by decide
      have c4 : ((400 : Int32)).toInt = 400 := by decide
      have c0 : ((0 : Int32)).toInt = 0 := by decide
      rw [fa_lt, c1] at h1
      rw [fa_lt] at h2
      rw [fa_le, c4] at h3
      obtain ⟨s, hs, e2⟩ := ix3 (x := x2) (n := 400) (by rw [fa_lt, c0]; omega) (by rw [fa_le, show (nI 400).toInt = 400 from c4]; omega) (by decide)
      obtain ⟨f, hf, e3⟩ := ix3 (x := x3) (n := 400) (by rw [fa_lt, c0]; omega) (by rw [fa_le, show (nI 400).toInt = 400 from c4]; omega) (by decide)
      rw [e2, nI_toInt (by omega)] at h1
      rw [e2, e3, nI_toInt (by omega), nI_toInt (by omega)] at h2
      exact hg ⟨o, s, f, ho, e1, e2, e3, by omega, by omega, by omega, h9, hk⟩
    have fin : pX9_kind x1 x2 x3 u (fun r2 u2 => (-1 : Int32) = r2 ∧ RelCM σ u2) := by
      unfold pX9_kind
      intro t1 ht1
      have hM1 : RM t1 A := hM.eq (by rw [ht1]; exact MEq.t0 u 0)
      have rk : (-1 : Int32) = -1 ∧ RelCM σ t1 := ⟨rfl, relK hW hC hM (CE.rf σ) hK (by rw [ht1]; exact MEq.t0 u 0)⟩
      exact m_isKind hM1 hW (fun _ => ⟨fun _ => rk, fun h => absurd rfl h⟩) (fun o ho e1 => ⟨fun _ => rk, fun _ => ⟨fun _ => rk, fun h1 => ⟨fun _ => rk, fun h2 => ⟨fun _ => rk, fun h3 => pk_eq (A 0 3) 20 (fun _ => rk) (fun h4 => pk_le (A 0 9) 0 (fun h5 => absurd (num o ho e1 h1 h3 (fa_of_nlt h2) (by omega) (by omega)) id) (fun _ => rk) (hx := hM1.num)) (hx := hM1.kinds)⟩⟩⟩⟩)
    unfold pX8_kind pX1_add
    exact pk_le (A 0 9) 0 (fun h5 => c_has hC hW (fun _ => ⟨fun _ => fin, fun h => absurd rfl h⟩) (fun o ho e1 => ⟨fun _ => fin, fun _ => pk_lt (A 0 3) 20 (fun h4 => ⟨fun _ => fin, fun h1 => ⟨fun _ => fin, fun h3 => ⟨fun h2 => absurd (num o ho e1 h1 h3 h2 (by omega) h4) id, fun _ => fin⟩⟩⟩) (fun _ => fin) (hx := hC.kinds)⟩)) (fun _ => fin) (hx := hC.num)
