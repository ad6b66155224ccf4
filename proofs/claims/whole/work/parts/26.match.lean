/-! MATCHINGS: the search for one more pair, as both programs do it; h: which left a right has; s: rights that were tried -/
abbrev Hs : Type := Nat → Option Nat
abbrev Sn : Type := Nat → Bool
def srl (met : Nat → Nat → Bool) (rec : Nat → Hs → Sn → Bool × Hs × Sn) (i : Nat) : Nat → Nat → Hs → Sn → Bool × Hs × Sn
  | 0, _, h, s => (false, h, s)
  | r + 1, j, h, s =>
    if met i j = true ∧ s j = false then
      match h j with
      | none => (true, va_up h j (some i), va_up s j true)
      | some l =>
        match rec l h (va_up s j true) with
        | (true, h2, s2) => (true, va_up h2 j (some i), s2)
        | (false, h2, s2) => srl met rec i r (j + 1) h2 s2
    else srl met rec i r (j + 1) h s
def srch (met : Nat → Nat → Bool) (m : Nat) : Nat → Nat → Hs → Sn → Bool × Hs × Sn
  | 0, _, h, s => (false, h, s)
  | d + 1, i, h, s => srl met (srch met m d) i m 0 h s
/-- how many rights are not tried -/
def uns (m : Nat) (s : Sn) : Nat := fb_ct (fun j => !(s j)) m
theorem up_s {α : Type} (f : Nat → α) (k : Nat) (v : α) : va_up f k v k = v := by simp [va_up]
theorem up_n {α : Type} (f : Nat → α) {k j : Nat} (v : α) (h : j ≠ k) : va_up f k v j = f j := by simp [va_up, h]
theorem up_c {α : Type} (f : Nat → α) {k j : Nat} (v w : α) (h : j ≠ k) : va_up (va_up f k v) j w = va_up (va_up f j w) k v := by
  funext q
  by_cases a : q = j
  · subst a
    rw [up_s, up_n _ _ h, up_s]
  · rw [up_n _ _ a]
    by_cases b : q = k
    · subst b; rw [up_s, up_s]
    · rw [up_n _ _ b, up_n _ _ b, up_n _ _ a]
theorem up_id {α : Type} (f : Nat → α) {k : Nat} {v : α} (h : f k = v) : va_up f k v = f := by
  funext q
  by_cases a : q = k
  · subst a; rw [up_s, h]
  · rw [up_n _ _ a]
theorem uns_up {m j : Nat} {s : Sn} (hj : j < m) (hs : s j = false) : uns m (va_up s j true) + 1 = uns m s := by
  have h := fb_ct_upd (fun q => !(s q)) false hj
  have e : (fun k => if k = j then false else (fun q => !(s q)) k) = (fun q => !(va_up s j true q)) := by
    funext q
    by_cases a : q = j
    · subst a; simp [up_s]
    · simp [a, up_n s true a]
  rw [e] at h
  simp [hs] at h
  exact h
/-- what is tried stays tried, and what was tried isn't touched: the search doesn't see it -/
theorem srch_fr (met : Nat → Nat → Bool) (m : Nat) : ∀ (d i : Nat) (h : Hs) (s : Sn),
    (∀ j, s j = true → (srch met m d i h s).2.2 j = true) ∧
    (∀ j, s j = true → (srch met m d i h s).2.1 j = h j) ∧
    (∀ (j0 : Nat) (v : Option Nat), s j0 = true → srch met m d i (va_up h j0 v) s = ((srch met m d i h s).1, va_up (srch met m d i h s).2.1 j0 v, (srch met m d i h s).2.2)) := by
  intro d
  induction d with
  | zero => intro i h s; exact ⟨fun j hj => hj, fun j _ => rfl, fun j0 v _ => rfl⟩
  | succ d ih =>
    intro i h s
    have key : ∀ (r j : Nat) (h : Hs) (s : Sn),
        (∀ q, s q = true → (srl met (srch met m d) i r j h s).2.2 q = true) ∧
        (∀ q, s q = true → (srl met (srch met m d) i r j h s).2.1 q = h q) ∧
        (∀ (j0 : Nat) (v : Option Nat), s j0 = true → srl met (srch met m d) i r j (va_up h j0 v) s = ((srl met (srch met m d) i r j h s).1, va_up (srl met (srch met m d) i r j h s).2.1 j0 v, (srl met (srch met m d) i r j h s).2.2)) := by
      intro r
      induction r with
      | zero => intro j h s; exact ⟨fun q hq => hq, fun q _ => rfl, fun j0 v _ => rfl⟩
      | succ r ihr =>
        intro j h s
        by_cases hc : met i j = true ∧ s j = false
        · have hsj : ∀ q, s q = true → va_up s j true q = true := by
            intro q hq
            by_cases a : q = j
            · subst a; exact up_s _ _ _
            · rw [up_n _ _ a]; exact hq
          have hne : ∀ q, s q = true → q ≠ j := fun q hq e => by subst e; rw [hc.2] at hq; cases hq
          cases hj : h j with
          | none =>
            have e0 : srl met (srch met m d) i (r + 1) j h s = (true, va_up h j (some i), va_up s j true) := by simp [srl, hc, hj]
            rw [e0]
            refine ⟨hsj, fun q hq => up_n _ _ (hne q hq), fun j0 v h0 => ?_⟩
            have e1 : va_up h j0 v j = none := by rw [up_n _ _ (Ne.symm (hne j0 h0))]; exact hj
            have e2 : srl met (srch met m d) i (r + 1) j (va_up h j0 v) s = (true, va_up (va_up h j0 v) j (some i), va_up s j true) := by simp [srl, hc, e1]
            rw [e2, up_c _ _ _ (Ne.symm (hne j0 h0))]
          | some l =>
            obtain ⟨i1, i2, i3⟩ := ih l h (va_up s j true)
            cases hr : srch met m d l h (va_up s j true) with
            | mk b hs2 =>
              obtain ⟨h2, s2⟩ := hs2
              rw [hr] at i1 i2 i3
              cases b with
              | true =>
                have e0 : srl met (srch met m d) i (r + 1) j h s = (true, va_up h2 j (some i), s2) := by simp [srl, hc, hj, hr]
                rw [e0]
                refine ⟨fun q hq => i1 q (hsj q hq), fun q hq => ?_, fun j0 v h0 => ?_⟩
                · show va_up h2 j (some i) q = h q
                  rw [up_n _ _ (hne q hq)]
                  exact i2 q (hsj q hq)
                · have e1 : va_up h j0 v j = some l := by rw [up_n _ _ (Ne.symm (hne j0 h0))]; exact hj
                  have e3 := i3 j0 v (hsj j0 h0)
                  have e2 : srl met (srch met m d) i (r + 1) j (va_up h j0 v) s = (true, va_up (va_up h2 j0 v) j (some i), s2) := by simp [srl, hc, e1, e3]
                  rw [e2, up_c _ _ _ (Ne.symm (hne j0 h0))]
              | false =>
                have e0 : srl met (srch met m d) i (r + 1) j h s = srl met (srch met m d) i r (j + 1) h2 s2 := by simp [srl, hc, hj, hr]
                rw [e0]
                obtain ⟨k1, k2, k3⟩ := ihr (j + 1) h2 s2
                refine ⟨fun q hq => k1 q (i1 q (hsj q hq)), fun q hq => (k2 q (i1 q (hsj q hq))).trans (i2 q (hsj q hq)), fun j0 v h0 => ?_⟩
                have e1 : va_up h j0 v j = some l := by rw [up_n _ _ (Ne.symm (hne j0 h0))]; exact hj
                have e3 := i3 j0 v (hsj j0 h0)
                have e2 : srl met (srch met m d) i (r + 1) j (va_up h j0 v) s = srl met (srch met m d) i r (j + 1) (va_up h2 j0 v) s2 := by simp [srl, hc, e1, e3]
                rw [e2]
                exact k3 j0 v (i1 j0 (hsj j0 h0))
        · have e0 : ∀ h : Hs, srl met (srch met m d) i (r + 1) j h s = srl met (srch met m d) i r (j + 1) h s := fun h => by simp [srl, hc]
          obtain ⟨k1, k2, k3⟩ := ihr (j + 1) h s
          rw [e0]
          refine ⟨k1, k2, fun j0 v h0 => ?_⟩
          rw [e0]
          exact k3 j0 v h0
    exact key m 0 h s
