/-! the search: what it leaves when it fails, what it makes when it succeeds -/
theorem srch_fail (met : Nat → Nat → Bool) (m : Nat) : ∀ (d i : Nat) (h : Hs) (s : Sn), (srch met m d i h s).1 = false → (srch met m d i h s).2.1 = h := by
  intro d
  induction d with
  | zero => intro i h s _; rfl
  | succ d ih =>
    intro i h s
    have key : ∀ (r j : Nat) (h : Hs) (s : Sn), (srl met (srch met m d) i r j h s).1 = false → (srl met (srch met m d) i r j h s).2.1 = h := by
      intro r
      induction r with
      | zero => intro j h s _; rfl
      | succ r ihr =>
        intro j h s
        by_cases hc : met i j = true ∧ s j = false
        · cases hj : h j with
          | none =>
            have e0 : srl met (srch met m d) i (r + 1) j h s = (true, va_up h j (some i), va_up s j true) := by simp [srl, hc, hj]
            rw [e0]
            intro hb
            cases hb
          | some l =>
            have i1 := ih l h (va_up s j true)
            cases hr : srch met m d l h (va_up s j true) with
            | mk b hs2 =>
              obtain ⟨h2, s2⟩ := hs2
              rw [hr] at i1
              cases b with
              | true =>
                have e0 : srl met (srch met m d) i (r + 1) j h s = (true, va_up h2 j (some i), s2) := by simp [srl, hc, hj, hr]
                rw [e0]
                intro hb
                cases hb
              | false =>
                have e0 : srl met (srch met m d) i (r + 1) j h s = srl met (srch met m d) i r (j + 1) h2 s2 := by simp [srl, hc, hj, hr]
                rw [e0]
                intro hb
                rw [ihr (j + 1) h2 s2 hb]
                exact i1 rfl
        · have e0 : srl met (srch met m d) i (r + 1) j h s = srl met (srch met m d) i r (j + 1) h s := by simp [srl, hc]
          rw [e0]
          exact ihr (j + 1) h s
    exact key m 0 h s
/-- rights that are taken, with lefts that know no others -/
def Zcl (met : Nat → Nat → Bool) (m : Nat) (T : Sn) (h : Hs) (Z : Sn) : Prop := ∀ j, j < m → Z j = true → T j = false ∧ ∃ l, h j = some l ∧ ∀ q, q < m → met l q = true → T q = true ∨ Z q = true
theorem srch_dead (met : Nat → Nat → Bool) (m : Nat) {T Z : Sn} : ∀ (d i : Nat) (h : Hs) (s : Sn), Zcl met m T h Z → (∀ q, q < m → met i q = true → T q = true ∨ Z q = true) → (∀ q, T q = true → s q = true) → (srch met m d i h s).1 = false := by
  intro d
  induction d with
  | zero => intro i h s _ _ _; rfl
  | succ d ih =>
    intro i h s hZ hi hT
    have key : ∀ (r j : Nat) (s : Sn), j + r = m → (∀ q, T q = true → s q = true) → (srl met (srch met m d) i r j h s).1 = false := by
      intro r
      induction r with
      | zero => intro j s _ _; rfl
      | succ r ihr =>
        intro j s hjr hTs
        by_cases hc : met i j = true ∧ s j = false
        · have hTj : T j = false := by
            cases e : T j with
            | false => rfl
            | true => rw [hTs j e] at hc; cases hc.2
          have hZj : Z j = true := (hi j (by omega) hc.1).elim (fun e => by rw [hTj] at e; cases e) id
          obtain ⟨-, l, hl, hcl⟩ := hZ j (by omega) hZj
          have hT1 : ∀ q, T q = true → va_up s j true q = true := by
            intro q hq
            by_cases a : q = j
            · subst a; exact up_s _ _ _
            · rw [up_n _ _ a]; exact hTs q hq
          have i1 := ih l h (va_up s j true) hZ hcl hT1
          have i2 := srch_fail met m d l h (va_up s j true) i1
          have i3 := (srch_fr met m d l h (va_up s j true)).1
          cases hr : srch met m d l h (va_up s j true) with
          | mk b hs2 =>
            obtain ⟨h2, s2⟩ := hs2
            rw [hr] at i1 i2 i3
            have e1 : b = false := i1
            have e2 : h2 = h := i2
            rw [e1, e2] at hr
            have e0 : srl met (srch met m d) i (r + 1) j h s = srl met (srch met m d) i r (j + 1) h s2 := by simp [srl, hc, hl, hr]
            rw [e0]
            exact ihr (j + 1) s2 (by omega) (fun q hq => i3 q (hT1 q hq))
        · have e0 : srl met (srch met m d) i (r + 1) j h s = srl met (srch met m d) i r (j + 1) h s := by simp [srl, hc]
          rw [e0]
          exact ihr (j + 1) s (by omega) hTs
    exact key m 0 s (by omega) hT
def VT (met : Nat → Nat → Bool) (n m b0 : Nat) (T : Sn) (h : Hs) : Prop := (∀ j l, j < m → T j = false → h j = some l → b0 ≤ l ∧ l < n ∧ met l j = true) ∧ ∀ j q l, j < m → T j = false → q < m → T q = false → h j = some l → h q = some l → j = q
def mat (m : Nat) (T : Sn) (h : Hs) (l : Nat) : Prop := ∃ j, j < m ∧ T j = false ∧ h j = some l
def szT (m : Nat) (T : Sn) (h : Hs) : Nat := fb_ct (fun j => !(T j) && (h j).isSome) m
theorem szT_up {m j l : Nat} {T : Sn} {h : Hs} (hj : j < m) (hT : T j = false) (hn : h j = none) : szT m T (va_up h j (some l)) = szT m T h + 1 := by
  have h1 := fb_ct_upd (fun q => !(T q) && (h q).isSome) true hj
  have e : (fun k => if k = j then true else (fun q => !(T q) && (h q).isSome) k) = (fun q => !(T q) && (va_up h j (some l) q).isSome) := by
    funext q
    by_cases a : q = j
    · subst a; simp [up_s, hT]
    · simp [a, up_n h (some l) a]
  rw [e] at h1
  simp [hn, hT] at h1
  exact h1
def okF (met : Nat → Nat → Bool) (m i : Nat) (h : Hs) (s s2 : Sn) : Prop := (∀ q, q < m → met i q = true → s2 q = true) ∧ ∀ q, q < m → s2 q = true → s q = true ∨ ∃ l, h q = some l ∧ ∀ w, w < m → met l w = true → s2 w = true
def okS (met : Nat → Nat → Bool) (n m b0 : Nat) (T : Sn) (i : Nat) (h h2 : Hs) : Prop := VT met n m b0 T h2 ∧ (∀ l, mat m T h2 l ↔ mat m T h l ∨ l = i) ∧ szT m T h2 = szT m T h + 1 ∧ (∀ q, (m ≤ q ∨ T q = true) → h2 q = h q) ∧ ∀ Z, Zcl met m T h Z → ∀ q, q < m → Z q = true → h2 q = h q
theorem okS_none {met : Nat → Nat → Bool} {n m b0 i j : Nat} {T : Sn} {h : Hs} (hV : VT met n m b0 T h) (hi : b0 ≤ i ∧ i < n) (hm : met i j = true) (hj : j < m) (hT : T j = false) (hn : h j = none) (hf : ¬ mat m T h i) : okS met n m b0 T i h (va_up h j (some i)) := by
  refine ⟨⟨fun q l hq hTq e => ?_, fun q w l hq hTq hw hTw e1 e2 => ?_⟩, fun l => ?_, szT_up hj hT hn, fun q hq => ?_, fun Z hZ q hq hz => ?_⟩
  · by_cases a : q = j
    · subst a
      rw [up_s] at e
      cases e
      exact ⟨hi.1, hi.2, hm⟩
    · rw [up_n _ _ a] at e
      exact hV.1 q l hq hTq e
  · by_cases a : q = j
    · subst a
      rw [up_s] at e1
      cases e1
      by_cases b : w = q
      · exact b.symm
      · rw [up_n _ _ b] at e2
        exact absurd ⟨w, hw, hTw, e2⟩ hf
    · rw [up_n _ _ a] at e1
      by_cases b : w = j
      · subst b
        rw [up_s] at e2
        cases e2
        exact absurd ⟨q, hq, hTq, e1⟩ hf
      · rw [up_n _ _ b] at e2
        exact hV.2 q w l hq hTq hw hTw e1 e2
  · constructor
    · rintro ⟨q, hq, hTq, e⟩
      by_cases a : q = j
      · subst a
        rw [up_s] at e
        cases e
        exact Or.inr rfl
      · rw [up_n _ _ a] at e
        exact Or.inl ⟨q, hq, hTq, e⟩
    · rintro (⟨q, hq, hTq, e⟩ | rfl)
      · refine ⟨q, hq, hTq, ?_⟩
        rw [up_n]
        · exact e
        · intro a; subst a; rw [hn] at e; cases e
      · exact ⟨j, hj, hT, up_s _ _ _⟩
  · rw [up_n]
    intro a
    subst a
    rcases hq with a | a
    · omega
    · rw [hT] at a; cases a
  · rw [up_n]
    intro a
    subst a
    obtain ⟨-, l, e, -⟩ := hZ q hq hz
    rw [hn] at e
    cases e
