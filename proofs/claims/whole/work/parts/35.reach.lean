/-! the class's search is 'srch' too -/
theorem bt_one : ∀ k, k < 32 → bt 1 k = decide (k = 0) := by decide +kernel
theorem bt_sh {j i : Nat} (hj : j < 32) (hi : i < 32) : bt ((1 : Int32) <<< (nI j &&& 31)) i = decide (i = j) := by
  rw [b_shl j hj 1 hi]
  by_cases h : j ≤ i
  · rw [bt_one (i - j) (by omega)]
    by_cases e : i = j
    · subst e; simp
    · have : ¬ (i - j = 0) := by omega
      simp [h, e, this]
  · have : ¬ (i = j) := by omega
    simp [h, this]
theorem bit_0 {x : Int32} {q : Nat} (hq : q < 32) : x &&& ((1 : Int32) <<< (nI q &&& 31)) = 0 ↔ bt x q = false := by
  constructor
  · intro h
    have h1 := b_and x ((1 : Int32) <<< (nI q &&& 31)) q
    rw [h, b_0, bt_sh hq hq] at h1
    simpa using h1.symm
  · intro h
    refine b_ext (fun i hi => ?_)
    rw [b_and, b_0, bt_sh hq hi]
    by_cases e : i = q
    · subst e; simp [h]
    · simp [e]
theorem bt_or_sh {x : Int32} {j q : Nat} (hj : j < 32) (hq : q < 32) : bt (x ||| ((1 : Int32) <<< (nI j &&& 31))) q = (bt x q || decide (q = j)) := by
  rw [b_or, bt_sh hj hq]
/-- lefts and rights of the class: n, m; bits of meets and of tried; mate and owner -/
def CMet (m n : Nat) (σ : St) (met : Nat → Nat → Bool) : Prop := σ 26 6 = nI m ∧ m ≤ 12 ∧ n ≤ 12 ∧ ∀ i j, i < n → j < m → bt (σ 27 i) j = met i j
/-- mate is owner turned round, for the lefts of P -/
def CRep (m n : Nat) (σ : St) (h : Hs) : Prop := (∀ j, j < m → σ 29 j = enc (h j)) ∧ ∀ j l, j < m → h j = some l → l < n
def CEq (σ v : St) : Prop := (∀ k, k ≠ 26 → k ≠ 28 → k ≠ 29 → v k = σ k) ∧ ∀ j, j ≠ 8 → v 26 j = σ 26 j
theorem CEq.rf (σ : St) : CEq σ σ := ⟨fun _ _ _ _ => rfl, fun _ _ => rfl⟩
theorem CEq.tr {σ v w : St} (h : CEq σ v) (h2 : CEq v w) : CEq σ w := ⟨fun k a b c => (h2.1 k a b c).trans (h.1 k a b c), fun j a => (h2.2 j a).trans (h.2 j a)⟩
theorem CEq.tried (σ : St) (x : Int32) : CEq σ (st_up σ 26 8 x) := ⟨fun k a _ _ => su_k σ 8 x a, fun j a => su_j σ 26 x a⟩
theorem CEq.up (σ : St) {k0 : Nat} (hk : k0 = 28 ∨ k0 = 29) (j : Nat) (x : Int32) : CEq σ (st_up σ k0 j x) := ⟨fun k a b c => su_k σ j x (by omega), fun q _ => by rw [su_k σ j x (by omega)]⟩
theorem CMet.eq {m n : Nat} {σ v : St} {met : Nat → Nat → Bool} (h : CMet m n σ met) (e : CEq σ v) : CMet m n v met := by
  obtain ⟨a1, a2, a3, a4⟩ := h
  refine ⟨by rw [e.2 6 (by decide)]; exact a1, a2, a3, fun i j hi hj => ?_⟩
  rw [e.1 27 (by decide) (by decide) (by decide)]
  exact a4 i j hi hj
