/-! the model's most(): as many pairs as can be, of the lefts from b0 on, without the rights of T -/
theorem szT_none {m : Nat} {T : Sn} {h : Hs} (hn : ∀ j, j < m → h j = none) : szT m T h = 0 := by
  refine fb_ct_zero.mpr (fun k hk => ?_)
  rw [hn k hk]
  simp
theorem uns_le (m : Nat) (s : Sn) : uns m s ≤ m := fb_ct_le _ _
set_option maxHeartbeats 2000000 in
theorem most_ok {m n b0 : Nat} {met : Nat → Nat → Bool} {T : Sn} {u0 : SM} {Q : Int32 → SM → Prop} (hM0 : FMet m n u0 met) (h20 : u0.1 0 20 = nI n) (hb : b0 ≤ n) (hset : ∀ i, i < n → (u0.1 19 i = 0 ↔ b0 ≤ i)) (hT : ∀ j, j < m → (T j = false ↔ u0.1 20 j = 0))
    (hQ : ∀ v k, FEq u0 v → IsMax met n m b0 T k → Q (nI k) v) : pX9_most u0 Q := by
  have hm12 := hM0.2.1
  have hn12 := hM0.2.2.1
  have lp27 : ∀ (r i : Nat) (u : SM) (h : Hs) (Z : Sn), i + r = n → FEq u0 u → (∀ j, j < m → u.1 18 j = enc (h j)) → (∀ j l, j < m → h j = some l → l < n) → PassI met m b0 T (max i b0) h Z → qX9_most_l27 Q (r + 1) (nI (szT m T h)) (nI i) u := by
    intro r
    induction r with
    | zero =>
      intro i u h Z hir hE h18 hl hp
      show qX9_most_27 (qX9_most_l27 Q 0) Q _ _ _
      unfold qX9_most_27
      refine pk_le n i (fun _ => ?_) (fun hc => by omega) (hx := by rw [hE.2 0 (by decide) (by decide)]; exact h20) (ha := by omega) (hb := by omega)
      have e : max i b0 = n := by omega
      rw [e] at hp
      exact hQ u _ hE (pass_max hp)
    | succ r ihr =>
      intro i u h Z hir hE h18 hl hp
      have hi : i < n := by omega
      show qX9_most_27 (qX9_most_l27 Q (r + 1)) Q _ _ _
      unfold qX9_most_27
      refine pk_le n i (fun hc => by omega) (fun _ => ?_) (hx := by rw [hE.2 0 (by decide) (by decide)]; exact h20) (ha := by omega) (hb := by omega)
      have hi1 : Int32.toNatClampNeg (nI i) = i := nI_clamp (by omega)
      have hin : vp_in (nI i) 12 := vp_in_nI (by omega) (by decide)
      have tail : ∀ (k : Nat) (v : SM) (h2 : Hs) (Z2 : Sn), FEq u0 v → (∀ j, j < m → v.1 18 j = enc (h2 j)) → (∀ j l, j < m → h2 j = some l → l < n) → PassI met m b0 T (max (i + 1) b0) h2 Z2 → szT m T h2 = szT m T h + k → qX9_most_81 (qX9_most_l27 Q (r + 1)) Q (nI i) (nI k) (nI (szT m T h)) v := by
        intro k v h2 Z2 hEv hv hl2 hp2 hk
        unfold qX9_most_81
        intro x hx y hy
        rw [hx, hy, nI_1, nI_add, ← hk]
        exact ihr (i + 1) v h2 Z2 (by omega) hEv hv hl2 hp2
      -- the inner loop: nothing is seen
      have lp37 : ∀ (r2 j : Nat) (v : SM), j + r2 = m → FEq u0 v → v.1 18 = u.1 18 → (∀ q, q < j → v.1 21 q = 0) → qX9_most_l37 (qX9_most_l27 Q (r + 1)) Q (r2 + 1) (nI (szT m T h)) (nI i) (nI j) v := by
        intro r2
        induction r2 with
        | zero =>
          intro j v hjr hEv hv18 hv21
          have hM := hM0.eq hEv
          have ej : j = m := by omega
          subst ej
          show qX9_most_37 (qX9_most_l27 Q (r + 1)) (qX9_most_l37 (qX9_most_l27 Q (r + 1)) Q 0) Q _ _ _ _
          unfold qX9_most_37
          refine pk_le j j (fun _ => ⟨hin, ?_⟩) (fun hc => by omega) (hx := hM.1) (ha := by omega) (hb := by omega)
          have hv18a : ∀ q, q < j → v.1 18 q = enc (h q) := fun q hq => by rw [hv18]; exact h18 q hq
          rw [hi1, hEv.2 19 (by decide) (by decide)]
          refine ⟨fun hz => ?_, fun hz => ?_⟩
          · have hib : i < b0 := by
              rcases Nat.lt_or_ge i b0 with c | c
              · exact c
              · exact absurd ((hset i hi).mpr c) hz
            have e1 : max (i + 1) b0 = max i b0 := by omega
            unfold qX9_most_80
            exact tail 0 v h Z hEv hv18a hl (by rw [e1]; exact hp) rfl
          · have hib : b0 ≤ i := (hset i hi).mp hz
            have e0 : max i b0 = i := by omega
            have e1 : max (i + 1) b0 = i + 1 := by omega
            rw [e0] at hp
            have hu : uns j T < 14 := by have := uns_le j T; omega
            obtain ⟨s1, s2⟩ := pass_step (d := 14) (s := T) hp hib (fun q => Iff.rfl) hu
            refine finds_ok 14 i v h T _ hM ⟨hv18a, fun q hq => ?_, hl⟩ hi hu (fun w hw hRw => ?_)
            · rw [hT q hq, hEv.2 20 (by decide) (by decide)]
              exact ⟨fun e => ⟨e, hv21 q hq⟩, fun e => e.1⟩
            · cases hr : srch met j 14 i h T with
              | mk b hs2 =>
                obtain ⟨h2, sn2⟩ := hs2
                rw [hr] at hRw s1 s2
                cases b with
                | true =>
                  obtain ⟨p1, p2⟩ := s2 rfl
                  refine ⟨fun e => absurd e (show ¬ (1 : Int32) = 0 by decide), fun _ => ?_⟩
                  exact tail 1 w h2 Z (hEv.tr hw) hRw.1 hRw.2.2 (by rw [e1]; exact p1) p2
                | false =>
                  obtain ⟨p1, Z2, p2⟩ := s1 rfl
                  refine ⟨fun _ => ?_, fun e => absurd rfl e⟩
                  have p3 : h2 = h := p1
                  subst p3
                  unfold qX9_most_80
                  exact tail 0 w h2 Z2 (hEv.tr hw) hRw.1 hRw.2.2 (by rw [e1]; exact p2) rfl
        | succ r2 ih2 =>
          intro j v hjr hEv hv18 hv21
          have hM := hM0.eq hEv
          show qX9_most_37 (qX9_most_l27 Q (r + 1)) (qX9_most_l37 (qX9_most_l27 Q (r + 1)) Q (r2 + 1)) Q _ _ _ _
          unfold qX9_most_37
          have hj1 : Int32.toNatClampNeg (nI j) = j := nI_clamp (by omega)
          refine pk_le m j (fun hc => by omega) (fun _ => ⟨vp_in_nI (by omega) (by decide), fun s5 hs5 x hx => ?_⟩) (hx := hM.1) (ha := by omega) (hb := by omega)
          rw [hj1, nar_0] at hs5
          rw [hx, nI_1]
          refine ih2 (j + 1) s5 (by omega) (by rw [hs5]; exact hEv.tr (FEq.s21 v j 0)) ?_ (fun q hq => ?_)
          · rw [hs5]
            show st_up v.1 21 j 0 18 = u.1 18
            rw [su_k (k := 21) (q := 18) _ _ _ (by decide)]
            exact hv18
          · rw [hs5]
            show st_up v.1 21 j 0 21 q = 0
            by_cases a : q = j
            · subst a; exact su_s _ _ _ _
            · rw [su_j _ _ _ a]; exact hv21 q (by omega)
      exact ⟨m + 1, lp37 m 0 u (by omega) hE rfl (fun q hq => absurd hq (Nat.not_lt_zero _))⟩
  have lp4 : ∀ (r j : Nat) (u : SM), j + r = m → FEq u0 u → (∀ q, q < j → u.1 18 q = -1) → qX9_most_l4 Q (r + 1) 0 (nI j) u := by
    intro r
    induction r with
    | zero =>
      intro j u hjr hE h18
      have ej : j = m := by omega
      subst ej
      show qX9_most_4 (qX9_most_l4 Q 0) Q _ _ _
      unfold qX9_most_4
      refine pk_le j j (fun _ => ?_) (fun hc => by omega) (hx := (hM0.eq hE).1) (ha := by omega) (hb := by omega)
      have hp : PassI met j b0 T (max 0 b0) (fun _ => none) (fun _ => false) := by
        rw [show max 0 b0 = b0 by omega]
        exact pass_0 (fun _ _ _ => rfl)
      have e := lp27 n 0 u (fun _ => none) (fun _ => false) (by omega) hE (fun q hq => h18 q hq) (fun q l _ e => by cases e) hp
      rw [szT_none (fun _ _ => rfl)] at e
      exact ⟨n + 1, e⟩
    | succ r ih =>
      intro j u hjr hE h18
      show qX9_most_4 (qX9_most_l4 Q (r + 1)) Q _ _ _
      unfold qX9_most_4
      have hj1 : Int32.toNatClampNeg (nI j) = j := nI_clamp (by omega)
      refine pk_le m j (fun hc => by omega) (fun _ => ⟨vp_in_nI (by omega) (by decide), fun s1 hs1 x hx => ?_⟩) (hx := (hM0.eq hE).1) (ha := by omega) (hb := by omega)
      rw [hj1] at hs1
      rw [hx, nI_1]
      refine ih (j + 1) s1 (by omega) (by rw [hs1]; exact hE.tr (FEq.s18 u j _)) (fun q hq => ?_)
      rw [hs1]
      show st_up u.1 18 j (-1) 18 q = -1
      by_cases a : q = j
      · subst a; exact su_s _ _ _ _
      · rw [su_j _ _ _ a]; exact h18 q (by omega)
  unfold pX9_most
  exact ⟨m + 1, lp4 m 0 u0 (by omega) (FEq.rf u0) (fun q hq => absurd hq (Nat.not_lt_zero _))⟩
