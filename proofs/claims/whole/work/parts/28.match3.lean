theorem uns_mono {m : Nat} {s s2 : Sn} (h : ∀ q, s q = true → s2 q = true) : uns m s2 ≤ uns m s := by
  refine fb_ct_sub (fun k _ hk => ?_)
  cases e : s k with
  | false => rfl
  | true => rw [h k e] at hk; cases hk
set_option maxHeartbeats 1000000 in
theorem srch_ok (met : Nat → Nat → Bool) (n m b0 : Nat) (T : Sn) : ∀ (d i : Nat) (h : Hs) (s : Sn), uns m s < d → (∀ q, T q = true → s q = true) → VT met n m b0 T h → b0 ≤ i ∧ i < n → ¬ mat m T h i →
    ((srch met m d i h s).1 = false → okF met m i h s (srch met m d i h s).2.2) ∧ ((srch met m d i h s).1 = true → okS met n m b0 T i h (srch met m d i h s).2.1) := by
  intro d
  induction d with
  | zero => intro i h s hu; exact absurd hu (Nat.not_lt_zero _)
  | succ d ih =>
    intro i h s0 hu hT0 hV hi hf
    have key : ∀ (r j : Nat) (s : Sn), j + r = m → (∀ q, s0 q = true → s q = true) → (∀ q, q < j → met i q = true → s q = true) → (∀ q, q < m → s q = true → s0 q = true ∨ ∃ l, h q = some l ∧ ∀ w, w < m → met l w = true → s w = true) →
        ((srl met (srch met m d) i r j h s).1 = false → okF met m i h s0 (srl met (srch met m d) i r j h s).2.2) ∧ ((srl met (srch met m d) i r j h s).1 = true → okS met n m b0 T i h (srl met (srch met m d) i r j h s).2.1) := by
      intro r
      induction r with
      | zero =>
        intro j s hjr hs hq hcl
        refine ⟨fun _ => ⟨fun q hqm => hq q (by omega), hcl⟩, (fun hb => by cases hb)⟩
      | succ r ihr =>
        intro j s hjr hs hq hcl
        have hjm : j < m := by omega
        by_cases hc : met i j = true ∧ s j = false
        · have hTj : T j = false := by
            cases e : T j with
            | false => rfl
            | true => rw [hs j (hT0 j e)] at hc; cases hc.2
          have hs1 : ∀ q, s q = true → va_up s j true q = true := by
            intro q hq
            by_cases a : q = j
            · subst a; exact up_s _ _ _
            · rw [up_n _ _ a]; exact hq
          cases hj : h j with
          | none =>
            have e0 : srl met (srch met m d) i (r + 1) j h s = (true, va_up h j (some i), va_up s j true) := by simp [srl, hc, hj]
            rw [e0]
            exact ⟨(fun hb => by cases hb), fun _ => okS_none hV hi hc.1 hjm hTj hj hf⟩
          | some l =>
            -- the same search, with the pair (l, j) laid aside
            have hil : ¬ i = l := fun e => hf ⟨j, hjm, hTj, by rw [hj, e]⟩
            have hgj : va_up (va_up h j none) j (some l) = h := by
              rw [bx_uu]
              exact up_id h hj
            have hVg : VT met n m b0 T (va_up h j none) := by
              refine ⟨fun q l2 hqm hTq e => ?_, fun q w l2 h1 h2 h3 h4 e1 e2 => ?_⟩
              · by_cases a : q = j
                · subst a; rw [up_s] at e; cases e
                · rw [up_n _ _ a] at e; exact hV.1 q l2 hqm hTq e
              · by_cases a : q = j
                · subst a; rw [up_s] at e1; cases e1
                · by_cases b : w = j
                  · subst b; rw [up_s] at e2; cases e2
                  · rw [up_n _ _ a] at e1
                    rw [up_n _ _ b] at e2
                    exact hV.2 q w l2 h1 h2 h3 h4 e1 e2
            have hgm : ∀ l2, mat m T h l2 ↔ mat m T (va_up h j none) l2 ∨ l2 = l := by
              intro l2
              constructor
              · rintro ⟨q, h1, h2, e⟩
                by_cases a : q = j
                · subst a; rw [hj] at e; cases e; exact Or.inr rfl
                · exact Or.inl ⟨q, h1, h2, by rw [up_n _ _ a]; exact e⟩
              · rintro (⟨q, h1, h2, e⟩ | rfl)
                · by_cases a : q = j
                  · subst a; rw [up_s] at e; cases e
                  · rw [up_n _ _ a] at e; exact ⟨q, h1, h2, e⟩
                · exact ⟨j, hjm, hTj, hj⟩
            have hgf : ¬ mat m T (va_up h j none) l := by
              rintro ⟨q, h1, h2, e⟩
              by_cases a : q = j
              · subst a; rw [up_s] at e; cases e
              · rw [up_n _ _ a] at e; exact a (hV.2 q j l h1 h2 hjm hTj e hj)
            have hu1 : uns m (va_up s j true) < d := by
              have e1 := uns_up hjm hc.2
              have e2 := uns_mono (m := m) hs
              omega
            have hT1 : ∀ q, T q = true → va_up s j true q = true := fun q e => hs1 q (hs q (hT0 q e))
            obtain ⟨i1, i2⟩ := ih l (va_up h j none) (va_up s j true) hu1 hT1 hVg ⟨(hV.1 j l hjm hTj hj).1, (hV.1 j l hjm hTj hj).2.1⟩ hgf
            obtain ⟨f1, f2, f3⟩ := srch_fr met m d l (va_up h j none) (va_up s j true)
            have f4 := f3 j (some l) (up_s _ _ _)
            rw [hgj] at f4
            have f5 := f2 j (up_s _ _ _)
            rw [up_s] at f5
            have fid := srch_fail met m d l (va_up h j none) (va_up s j true)
            cases hr : srch met m d l (va_up h j none) (va_up s j true) with
            | mk b hs2 =>
              obtain ⟨g2, s2⟩ := hs2
              rw [hr] at i1 i2 f1 f4 f5 fid
              cases b with
              | true =>
                have e0 : srl met (srch met m d) i (r + 1) j h s = (true, va_up (va_up g2 j (some l)) j (some i), s2) := by simp [srl, hc, hj, f4]
                rw [e0]
                refine ⟨(fun hb => by cases hb), fun _ => ?_⟩
                show okS met n m b0 T i h (va_up (va_up g2 j (some l)) j (some i))
                rw [bx_uu]
                obtain ⟨k1, k2, k3, k4, k5⟩ := i2 rfl
                have hfi : ¬ mat m T g2 i := by
                  intro e
                  rcases (k2 i).mp e with e | e
                  · exact hf ((hgm i).mpr (Or.inl e))
                  · exact hil e
                obtain ⟨o1, o2, o3, o4, o5⟩ := okS_none k1 hi hc.1 hjm hTj f5 hfi
                have hsz : szT m T h = szT m T (va_up h j none) + 1 := by
                  have e1 := szT_up (l := l) (h := va_up h j none) hjm hTj (up_s _ _ _)
                  rw [hgj] at e1
                  exact e1
                refine ⟨o1, fun l2 => ?_, by rw [o3, k3, hsz], fun q hqT => ?_, fun Z hZ q hqm hz => ?_⟩
                · rw [o2, k2, hgm]
                · rw [o4 q hqT, k4 q hqT, up_n]
                  intro a
                  rw [a] at hqT
                  rcases hqT with a2 | a2
                  · omega
                  · rw [hTj] at a2; cases a2
                · -- j isn't in Z: else the search of l had failed
                  have hZj : ¬ Z j = true := by
                    intro e
                    obtain ⟨-, l2, e2, hcl2⟩ := hZ j hjm e
                    rw [hj] at e2
                    cases e2
                    have hdead := srch_dead met m d l h (va_up s j true) hZ hcl2 hT1
                    rw [f4] at hdead
                    cases hdead
                  have hqj : q ≠ j := fun e => by subst e; exact hZj hz
                  have hZg : Zcl met m T (va_up h j none) Z := by
                    intro w hw hzw
                    have hwj : w ≠ j := fun e => by subst e; exact hZj hzw
                    rw [up_n _ _ hwj]
                    exact hZ w hw hzw
                  have e7 : g2 q = va_up h j none q := k5 Z hZg q hqm hz
                  rw [up_n _ _ hqj, e7, up_n _ _ hqj]
              | false =>
                have e9 : va_up g2 j (some l) = h := by
                  have e8 : g2 = va_up h j none := fid rfl
                  rw [e8]
                  exact hgj
                replace f4 : srch met m d l h (va_up s j true) = (false, va_up g2 j (some l), s2) := f4
                rw [e9] at f4
                have e0 : srl met (srch met m d) i (r + 1) j h s = srl met (srch met m d) i r (j + 1) h s2 := by simp [srl, hc, hj, f4]
                rw [e0]
                obtain ⟨k1, k2⟩ := i1 rfl
                refine ihr (j + 1) s2 (by omega) (fun q e => f1 q (hs1 q (hs q e))) (fun q hqj e => ?_) (fun q hqm e => ?_)
                · by_cases a : q = j
                  · subst a; exact f1 q (up_s _ _ _)
                  · exact f1 q (hs1 q (hq q (by omega) e))
                · rcases k2 q hqm e with e1 | ⟨l2, e1, e2⟩
                  · by_cases a : q = j
                    · subst a
                      exact Or.inr ⟨l, hj, k1⟩
                    · rw [up_n _ _ a] at e1
                      rcases hcl q hqm e1 with e3 | ⟨l2, e3, e4⟩
                      · exact Or.inl e3
                      · exact Or.inr ⟨l2, e3, fun w hw hm2 => f1 w (hs1 w (e4 w hw hm2))⟩
                  · by_cases a : q = j
                    · subst a; rw [up_s] at e1; cases e1
                    · rw [up_n _ _ a] at e1
                      exact Or.inr ⟨l2, e1, e2⟩
        · have e0 : srl met (srch met m d) i (r + 1) j h s = srl met (srch met m d) i r (j + 1) h s := by simp [srl, hc]
          rw [e0]
          refine ihr (j + 1) s (by omega) hs (fun q hqj e => ?_) hcl
          by_cases a : q = j
          · subst a
            cases e2 : s q with
            | true => rfl
            | false => exact absurd ⟨e, e2⟩ hc
          · exact hq q (by omega) e
    exact key m 0 s0 (by omega) (fun q e => e) (fun q hq => absurd hq (Nat.not_lt_zero _)) (fun q _ e => Or.inl e)
