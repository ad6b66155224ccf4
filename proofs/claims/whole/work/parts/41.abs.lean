/-! THE ABSTRACT STATE: numbers, by the model's rows (1 place 2 kindOf 3 slowest 4 fastest 5 years 6 days 7 minutes 8 atPost 9 told 10 since 11 isOff 12 winds; 0: 1 posts 3 kinds 7 now 8 asOf + 1 9 tellings) -/
abbrev AS : Type := Nat → Nat → Nat
/-- the day up to which is known -/
def aKd (A : AS) : Nat := if A 0 8 = 0 then A 0 7 else A 0 8 - 1
def aAs (A : AS) : Int32 := if A 0 8 = 0 then -1 else nI (A 0 8 - 1)
def aDt (A : AS) (t : Nat) : Nat := 30 * A 5 t + A 6 t
/-- how many tellings are known: they are the first ones -/
def aSh (A : AS) : Nat := fb_ct (fun t => decide (A 10 t ≤ aKd A)) (A 0 9)
/-- kinds: j is k or above it -/
def unF (A : AS) : Nat → Nat → Nat → Bool
  | 0, k, j => decide (j = k)
  | f + 1, k, j => decide (j = k) || (decide (k ≠ 0) && unF A f (A 2 k) j)
def dpF (A : AS) : Nat → Nat → Nat
  | 0, _ => 0
  | f + 1, k => if k = 0 then 0 else dpF A f (A 2 k) + 1
def un (A : AS) (k j : Nat) : Bool := unF A 20 k j
def dp (A : AS) (k : Nat) : Nat := dpF A 20 k
def lf (A : AS) (k : Nat) : Bool := decide (fb_ct (fun q => decide (0 < q ∧ A 2 q = k)) (A 0 3) = 0)
/-- those told on a date at a post -/
def aAt (A : AS) (d p : Nat) : Nat → Bool := fun t => decide (aDt A t = d ∧ A 8 t = p)
def WF (A : AS) : Prop := A 0 1 ≤ 4 ∧ 1 ≤ A 0 3 ∧ A 0 3 ≤ 20 ∧ A 0 7 ≤ 1000 ∧ A 0 8 ≤ A 0 7 + 1 ∧ A 0 9 ≤ 300 ∧ (∀ k, 0 < k → k < A 0 3 → A 2 k < k) ∧ (∀ t, t < A 0 9 → A 5 t < 6 ∧ A 6 t < 30 ∧ A 7 t < 600 ∧ A 8 t < A 0 1 ∧ A 9 t < A 0 3 ∧ A 10 t ≤ A 0 7) ∧ (∀ s t, s < t → t < A 0 9 → A 10 s ≤ A 10 t) ∧ (∀ d p, fb_ct (aAt A d p) (A 0 9) ≤ 12) ∧ (∀ x, A 11 x ≤ 1) ∧ (∀ d, A 12 d < 4) ∧ ∀ p, A 1 p ≤ 400
theorem WF.p {A : AS} (h : WF A) : A 0 1 ≤ 4 := h.1
theorem WF.k1 {A : AS} (h : WF A) : 1 ≤ A 0 3 := h.2.1
theorem WF.k {A : AS} (h : WF A) : A 0 3 ≤ 20 := h.2.2.1
theorem WF.now {A : AS} (h : WF A) : A 0 7 ≤ 1000 := h.2.2.2.1
theorem WF.asOf {A : AS} (h : WF A) : A 0 8 ≤ A 0 7 + 1 := h.2.2.2.2.1
theorem WF.n {A : AS} (h : WF A) : A 0 9 ≤ 300 := h.2.2.2.2.2.1
theorem WF.par {A : AS} (h : WF A) : ∀ k, 0 < k → k < A 0 3 → A 2 k < k := h.2.2.2.2.2.2.1
theorem WF.tel {A : AS} (h : WF A) : ∀ t, t < A 0 9 → A 5 t < 6 ∧ A 6 t < 30 ∧ A 7 t < 600 ∧ A 8 t < A 0 1 ∧ A 9 t < A 0 3 ∧ A 10 t ≤ A 0 7 := h.2.2.2.2.2.2.2.1
theorem WF.mono {A : AS} (h : WF A) : ∀ s t, s < t → t < A 0 9 → A 10 s ≤ A 10 t := h.2.2.2.2.2.2.2.2.1
theorem WF.at12 {A : AS} (h : WF A) : ∀ d p, fb_ct (aAt A d p) (A 0 9) ≤ 12 := h.2.2.2.2.2.2.2.2.2.1
theorem WF.off {A : AS} (h : WF A) : ∀ x, A 11 x ≤ 1 := h.2.2.2.2.2.2.2.2.2.2.1
theorem WF.wd {A : AS} (h : WF A) : ∀ d, A 12 d < 4 := h.2.2.2.2.2.2.2.2.2.2.2.1
theorem WF.pl {A : AS} (h : WF A) : ∀ p, A 1 p ≤ 400 := h.2.2.2.2.2.2.2.2.2.2.2.2
/-! the model's rows -/
def RM (u : SM) (A : AS) : Prop := u.1 0 1 = nI (A 0 1) ∧ u.1 0 3 = nI (A 0 3) ∧ u.1 0 7 = nI (A 0 7) ∧ u.1 0 8 = aAs A ∧ u.1 0 9 = nI (A 0 9) ∧ u.1 2 0 = -1 ∧ (∀ k, k ≠ 0 → u.1 2 k = nI (A 2 k)) ∧ ∀ k, (k = 1 ∨ (3 ≤ k ∧ k ≤ 12)) → ∀ i, u.1 k i = nI (A k i)
theorem RM.posts {u : SM} {A : AS} (h : RM u A) : u.1 0 1 = nI (A 0 1) := h.1
theorem RM.kinds {u : SM} {A : AS} (h : RM u A) : u.1 0 3 = nI (A 0 3) := h.2.1
theorem RM.now {u : SM} {A : AS} (h : RM u A) : u.1 0 7 = nI (A 0 7) := h.2.2.1
theorem RM.asOf {u : SM} {A : AS} (h : RM u A) : u.1 0 8 = aAs A := h.2.2.2.1
theorem RM.num {u : SM} {A : AS} (h : RM u A) : u.1 0 9 = nI (A 0 9) := h.2.2.2.2.1
theorem RM.root {u : SM} {A : AS} (h : RM u A) : u.1 2 0 = -1 := h.2.2.2.2.2.1
theorem RM.par {u : SM} {A : AS} (h : RM u A) : ∀ k, k ≠ 0 → u.1 2 k = nI (A 2 k) := h.2.2.2.2.2.2.1
theorem RM.row {u : SM} {A : AS} (h : RM u A) (k : Nat) (hk : k = 1 ∨ (3 ≤ k ∧ k ≤ 12)) (i : Nat) : u.1 k i = nI (A k i) := h.2.2.2.2.2.2.2 k hk i
/-- scratch rows and the mark 'thrown' don't count -/
def MEq (u v : SM) : Prop := (∀ j, j ≠ 0 → j ≠ 20 → j ≠ 21 → v.1 0 j = u.1 0 j) ∧ ∀ k, 1 ≤ k → k ≤ 12 → v.1 k = u.1 k
theorem MEq.rf (u : SM) : MEq u u := ⟨fun _ _ _ _ => rfl, fun _ _ _ => rfl⟩
theorem MEq.tr {u v w : SM} (h : MEq u v) (h2 : MEq v w) : MEq u w := ⟨fun j a b c => (h2.1 j a b c).trans (h.1 j a b c), fun k a b => (h2.2 k a b).trans (h.2 k a b)⟩
theorem MEq.up (u : SM) {k0 : Nat} (hk : 13 ≤ k0) (j : Nat) (v : Int32) : MEq u (st_up u.1 k0 j v, u.2) := ⟨fun q _ _ _ => by show st_up u.1 k0 j v 0 q = u.1 0 q; rw [su_k u.1 j v (by omega)], fun k _ b => su_k u.1 j v (by omega)⟩
theorem MEq.up0 (u : SM) {j : Nat} (hj : j = 0 ∨ j = 20 ∨ j = 21) (v : Int32) : MEq u (st_up u.1 0 j v, u.2) := ⟨fun q a b c => su_j u.1 0 v (by omega), fun k a _ => su_k u.1 j v (by omega)⟩
theorem FEq2.M {u v : SM} (h : FEq2 u v) : MEq u v := ⟨fun j _ _ _ => by rw [h.2 0 (by decide) (by decide) (by decide) (by decide) (by decide) (by decide)], fun k _ b => h.2 k (by omega) (by omega) (by omega) (by omega) (by omega) (by omega)⟩
theorem RM.eq {u v : SM} {A : AS} (h : RM u A) (e : MEq u v) : RM v A := by
  obtain ⟨a1, a2, a3, a4, a5, a6, a7, a8⟩ := h
  refine ⟨by rw [e.1 1 (by decide) (by decide) (by decide)]; exact a1, by rw [e.1 3 (by decide) (by decide) (by decide)]; exact a2, by rw [e.1 7 (by decide) (by decide) (by decide)]; exact a3, by rw [e.1 8 (by decide) (by decide) (by decide)]; exact a4, by rw [e.1 9 (by decide) (by decide) (by decide)]; exact a5, by rw [e.2 2 (by decide) (by decide)]; exact a6, fun k hk => by rw [e.2 2 (by decide) (by decide)]; exact a7 k hk, fun k hk i => ?_⟩
  rw [e.2 k (by omega) (by omega)]
  exact a8 k hk i
/-! the class's rows, apart from what it keeps of pairs -/
def RC (σ : St) (A : AS) : Prop := σ 0 8 = nI (A 0 7) ∧ σ 0 9 = aAs A ∧ σ 2 1 = nI (A 0 1) ∧ σ 4 4 = nI (A 0 3) ∧ σ 12 5 = nI (A 0 9) ∧ σ 12 6 = nI (aSh A) ∧ (∀ i, σ 3 i = nI (A 1 i)) ∧ (∀ i, σ 5 i = nI (A 3 i)) ∧ (∀ i, σ 6 i = nI (A 4 i)) ∧ (∀ k, k < A 0 3 → ∀ j, j < 32 → bt (σ 7 k) j = un A k j) ∧ (∀ k, k < A 0 3 → σ 8 k = b2i (lf A k)) ∧ (∀ i, σ 10 i = nI (A 12 i)) ∧ (∀ d, d < 180 → ∀ x, x < 32 → bt (σ 11 d) x = (decide (x < 10) && decide (A 11 (10 * d + x) ≠ 0))) ∧ (∀ t, t < A 0 9 → σ 13 t = nI (aDt A t)) ∧ (∀ i, σ 14 i = nI (A 7 i)) ∧ (∀ i, σ 15 i = nI (A 8 i)) ∧ (∀ i, σ 16 i = nI (A 9 i)) ∧ (∀ i, σ 17 i = nI (A 10 i))
theorem RC.now {σ : St} {A : AS} (h : RC σ A) : σ 0 8 = nI (A 0 7) := h.1
theorem RC.asOf {σ : St} {A : AS} (h : RC σ A) : σ 0 9 = aAs A := h.2.1
theorem RC.posts {σ : St} {A : AS} (h : RC σ A) : σ 2 1 = nI (A 0 1) := h.2.2.1
theorem RC.kinds {σ : St} {A : AS} (h : RC σ A) : σ 4 4 = nI (A 0 3) := h.2.2.2.1
theorem RC.num {σ : St} {A : AS} (h : RC σ A) : σ 12 5 = nI (A 0 9) := h.2.2.2.2.1
theorem RC.shown {σ : St} {A : AS} (h : RC σ A) : σ 12 6 = nI (aSh A) := h.2.2.2.2.2.1
theorem RC.place {σ : St} {A : AS} (h : RC σ A) : ∀ i, σ 3 i = nI (A 1 i) := h.2.2.2.2.2.2.1
theorem RC.slow {σ : St} {A : AS} (h : RC σ A) : ∀ i, σ 5 i = nI (A 3 i) := h.2.2.2.2.2.2.2.1
theorem RC.fast {σ : St} {A : AS} (h : RC σ A) : ∀ i, σ 6 i = nI (A 4 i) := h.2.2.2.2.2.2.2.2.1
theorem RC.up {σ : St} {A : AS} (h : RC σ A) : ∀ k, k < A 0 3 → ∀ j, j < 32 → bt (σ 7 k) j = un A k j := h.2.2.2.2.2.2.2.2.2.1
theorem RC.leaf {σ : St} {A : AS} (h : RC σ A) : ∀ k, k < A 0 3 → σ 8 k = b2i (lf A k) := h.2.2.2.2.2.2.2.2.2.2.1
theorem RC.wind {σ : St} {A : AS} (h : RC σ A) : ∀ i, σ 10 i = nI (A 12 i) := h.2.2.2.2.2.2.2.2.2.2.2.1
theorem RC.shut {σ : St} {A : AS} (h : RC σ A) : ∀ d, d < 180 → ∀ x, x < 32 → bt (σ 11 d) x = (decide (x < 10) && decide (A 11 (10 * d + x) ≠ 0)) := h.2.2.2.2.2.2.2.2.2.2.2.2.1
theorem RC.date {σ : St} {A : AS} (h : RC σ A) : ∀ t, t < A 0 9 → σ 13 t = nI (aDt A t) := h.2.2.2.2.2.2.2.2.2.2.2.2.2.1
theorem RC.min {σ : St} {A : AS} (h : RC σ A) : ∀ i, σ 14 i = nI (A 7 i) := h.2.2.2.2.2.2.2.2.2.2.2.2.2.2.1
theorem RC.post {σ : St} {A : AS} (h : RC σ A) : ∀ i, σ 15 i = nI (A 8 i) := h.2.2.2.2.2.2.2.2.2.2.2.2.2.2.2.1
theorem RC.kind {σ : St} {A : AS} (h : RC σ A) : ∀ i, σ 16 i = nI (A 9 i) := h.2.2.2.2.2.2.2.2.2.2.2.2.2.2.2.2.1
theorem RC.since {σ : St} {A : AS} (h : RC σ A) : ∀ i, σ 17 i = nI (A 10 i) := h.2.2.2.2.2.2.2.2.2.2.2.2.2.2.2.2.2
def isW (k : Nat) : Bool := decide (k = 0 ∨ k = 2 ∨ k = 3 ∨ k = 4 ∨ k = 5 ∨ k = 6 ∨ k = 7 ∨ k = 8 ∨ k = 10 ∨ k = 11 ∨ (12 ≤ k ∧ k ≤ 17))
/-- the class's rows that hold what was told stay -/
def CE (σ v : St) : Prop := ∀ k, isW k = true → v k = σ k
theorem CE.rf (σ : St) : CE σ σ := fun _ _ => rfl
theorem CE.tr {σ v w : St} (h : CE σ v) (h2 : CE v w) : CE σ w := fun k a => (h2 k a).trans (h k a)
theorem CE.up (σ : St) {k0 : Nat} (hk : isW k0 = false) (j : Nat) (x : Int32) : CE σ (st_up σ k0 j x) := fun k a => su_k σ j x (fun e => by rw [e, hk] at a; cases a)
theorem RC.eq {σ v : St} {A : AS} (h : RC σ A) (e : CE σ v) : RC v A := by
  obtain ⟨a1, a2, a3, a4, a5, a6, a7, a8, a9, b1, b2, b3, b4, b5, b6, b7, b8, b9⟩ := h
  refine ⟨by rw [e 0 (by decide)]; exact a1, by rw [e 0 (by decide)]; exact a2, by rw [e 2 (by decide)]; exact a3, by rw [e 4 (by decide)]; exact a4, by rw [e 12 (by decide)]; exact a5, by rw [e 12 (by decide)]; exact a6, by rw [e 3 (by decide)]; exact a7, by rw [e 5 (by decide)]; exact a8, by rw [e 6 (by decide)]; exact a9, by rw [e 7 (by decide)]; exact b1, by rw [e 8 (by decide)]; exact b2, by rw [e 10 (by decide)]; exact b3, by rw [e 11 (by decide)]; exact b4, by rw [e 13 (by decide)]; exact b5, by rw [e 14 (by decide)]; exact b6, by rw [e 15 (by decide)]; exact b7, by rw [e 16 (by decide)]; exact b8, by rw [e 17 (by decide)]; exact b9⟩
theorem SEq.C {σ v : St} (h : SEq σ v) : CE σ v := fun k a => by
  have a2 : k ≠ 26 ∧ k ≠ 28 ∧ k ≠ 29 ∧ k ≠ 30 ∧ k ≠ 31 := by
    unfold isW at a
    have := of_decide_eq_true a
    omega
  exact h.1 k a2.1 a2.2.1 a2.2.2.1 a2.2.2.2.1 a2.2.2.2.2
/-! known: the first ones -/
theorem sh_le (A : AS) : aSh A ≤ A 0 9 := fb_ct_le _ _
theorem kn_iff {A : AS} (hW : WF A) {t : Nat} (ht : t < A 0 9) : A 10 t ≤ aKd A ↔ t < aSh A := by
  have key : ∀ n, n ≤ A 0 9 → ∀ t, t < n → (A 10 t ≤ aKd A ↔ t < fb_ct (fun t => decide (A 10 t ≤ aKd A)) n) := by
    intro n
    induction n with
    | zero => intro _ t ht; omega
    | succ n ih =>
      intro hn t ht
      rw [fb_ct_succ]
      have hle := fb_ct_le (fun t => decide (A 10 t ≤ aKd A)) n
      by_cases hk : A 10 n ≤ aKd A
      · rw [if_pos (decide_eq_true hk)]
        have hall : fb_ct (fun t => decide (A 10 t ≤ aKd A)) n = n := by
          refine fb_ct_all.mpr (fun q hq => decide_eq_true ?_)
          exact Nat.le_trans (hW.mono q n hq (by omega)) hk
        rw [hall]
        refine ⟨fun _ => by omega, fun _ => ?_⟩
        by_cases e : t = n
        · subst e; exact hk
        · exact Nat.le_trans (hW.mono t n (by omega) (by omega)) hk
      · rw [if_neg (by simp [hk])]
        by_cases e : t = n
        · subst e
          refine ⟨fun a => absurd a hk, fun a => by omega⟩
        · rw [Nat.add_zero]
          exact ih (by omega) t (by omega)
  exact key (A 0 9) (Nat.le_refl _) t ht
theorem kd_le {A : AS} (hW : WF A) : aKd A ≤ 1000 := by
  have h1 := hW.now
  have h2 := hW.asOf
  unfold aKd
  split <;> omega
/-! kinds -/
theorem un_fuel {A : AS} (hW : WF A) : ∀ (f k j : Nat), k ≤ f → k < A 0 3 → unF A (f + 1) k j = unF A f k j := by
  intro f
  induction f with
  | zero =>
    intro k j hk _
    have : k = 0 := by omega
    subst this
    simp [unF]
  | succ f ih =>
    intro k j hk hk2
    by_cases e : k = 0
    · subst e; simp [unF]
    · have hp := hW.par k (by omega) hk2
      show (decide (j = k) || (decide (k ≠ 0) && unF A (f + 1) (A 2 k) j)) = (decide (j = k) || (decide (k ≠ 0) && unF A f (A 2 k) j))
      rw [ih (A 2 k) j (by omega) (by omega)]
theorem un_step {A : AS} (hW : WF A) {k : Nat} (hk : k < A 0 3) (hk0 : k ≠ 0) (j : Nat) : un A k j = (decide (j = k) || un A (A 2 k) j) := by
  have hp := hW.par k (by omega) hk
  have h20 := hW.k
  have e : unF A 20 (A 2 k) j = unF A 19 (A 2 k) j := un_fuel hW 19 (A 2 k) j (by omega) (by omega)
  show (decide (j = k) || (decide (k ≠ 0) && unF A 19 (A 2 k) j)) = (decide (j = k) || unF A 20 (A 2 k) j)
  rw [e]
  simp [hk0]
theorem un_0 (A : AS) (j : Nat) : un A 0 j = decide (j = 0) := by simp [un, unF]
theorem un_self (A : AS) (k : Nat) : un A k k = true := by simp [un, unF]
theorem dp_fuel {A : AS} (hW : WF A) : ∀ (f k : Nat), k ≤ f → k < A 0 3 → dpF A (f + 1) k = dpF A f k := by
  intro f
  induction f with
  | zero =>
    intro k hk _
    have : k = 0 := by omega
    subst this
    simp [dpF]
  | succ f ih =>
    intro k hk hk2
    by_cases e : k = 0
    · subst e; simp [dpF]
    · have hp := hW.par k (by omega) hk2
      show (if k = 0 then 0 else dpF A (f + 1) (A 2 k) + 1) = (if k = 0 then 0 else dpF A f (A 2 k) + 1)
      rw [ih (A 2 k) (by omega) (by omega)]
theorem dp_step {A : AS} (hW : WF A) {k : Nat} (hk : k < A 0 3) (hk0 : k ≠ 0) : dp A k = dp A (A 2 k) + 1 := by
  have hp := hW.par k (by omega) hk
  have h20 := hW.k
  have e : dpF A 20 (A 2 k) = dpF A 19 (A 2 k) := dp_fuel hW 19 (A 2 k) (by omega) (by omega)
  show (if k = 0 then 0 else dpF A 19 (A 2 k) + 1) = dpF A 20 (A 2 k) + 1
  rw [e, if_neg hk0]
theorem dp_0 (A : AS) : dp A 0 = 0 := by simp [dp, dpF]
/-- above: no greater, and less deep -/
theorem un_le {A : AS} (hW : WF A) : ∀ (k : Nat), k < A 0 3 → ∀ j, un A k j = true → j ≤ k ∧ dp A j ≤ dp A k ∧ (j ≠ k → dp A j < dp A k) := by
  intro k
  induction k using Nat.strongRecOn with
  | _ k ih =>
    intro hk j hj
    by_cases e : k = 0
    · subst e
      rw [un_0] at hj
      have : j = 0 := of_decide_eq_true hj
      subst this
      exact ⟨Nat.le_refl _, Nat.le_refl _, fun h => absurd rfl h⟩
    · have hp := hW.par k (by omega) hk
      rw [un_step hW hk e] at hj
      by_cases ej : j = k
      · subst ej; exact ⟨Nat.le_refl _, Nat.le_refl _, fun h => absurd rfl h⟩
      · simp [ej] at hj
        obtain ⟨a, b, c⟩ := ih (A 2 k) hp (by omega) j hj
        have d := dp_step hW hk e
        exact ⟨by omega, by omega, fun _ => by omega⟩
theorem un_ct {A : AS} (hW : WF A) : ∀ (k : Nat), k < A 0 3 → fb_ct (un A k) 24 = dp A k + 1 := by
  have h20 := hW.k
  have one : ∀ k, k < 24 → fb_ct (fun j => decide (j = k)) 24 = 1 := by decide +kernel
  intro k
  induction k using Nat.strongRecOn with
  | _ k ih =>
    intro hk
    by_cases e : k = 0
    · subst e
      rw [dp_0, ← one 0 (by decide)]
      exact fb_ct_cong (fun j _ => un_0 A j)
    · have hp := hW.par k (by omega) hk
      have d := dp_step hW hk e
      have e1 : fb_ct (un A k) 24 = fb_ct (fun j => decide (j = k) || un A (A 2 k) j) 24 := fb_ct_cong (fun j _ => un_step hW hk e j)
      have e2 := fb_ct_or (p := fun j => decide (j = k)) (q := un A (A 2 k)) (n := 24) (fun j _ hb => by
        have c1 : j = k := of_decide_eq_true hb.1
        have c2 := (un_le hW (A 2 k) (by omega) j hb.2).1
        omega)
      rw [e1, e2, one k (by omega), ih (A 2 k) hp (by omega), d]
      omega
/-! kinds: the class's calls -/
theorem c_isUnder {A : AS} {σ : St} {Q : Int32 → St → Prop} {k j : Nat} (hC : RC σ A) (hW : WF A) (hk : k < A 0 3) (hj : j < 32) (hQ : Q (b2i (un A k j)) σ) : pX1_isUnder (nI k) (nI j) σ Q := by
  have h20 := hW.k
  unfold pX1_isUnder
  rw [nI_clamp (by omega)]
  refine ⟨vp_in_nI (by omega) (by decide), fun h => ?_, fun h => ?_⟩
  · rw [bit_0 hj, hC.up k hk j hj] at h
    rw [h] at hQ
    exact hQ
  · rw [bit_0 hj, hC.up k hk j hj] at h
    have h2 : un A k j = true := by
      cases e : un A k j with
      | true => rfl
      | false => exact absurd e h
    rw [h2] at hQ
    exact hQ
theorem c_depth {A : AS} {σ : St} {Q : Int32 → St → Prop} {k : Nat} (hC : RC σ A) (hW : WF A) (hk : k < A 0 3) (hQ : Q (nI (dp A k)) σ) : pX1_depth (nI k) σ Q := by
  have h20 := hW.k
  unfold pX1_depth
  rw [nI_clamp (by omega)]
  refine ⟨vp_in_nI (by omega) (by decide), ?_⟩
  refine bitc_ok (fun i h1 h2 => ?_) ?_
  · rw [hC.up k hk i h2]
    cases e : un A k i with
    | false => rfl
    | true => have := (un_le hW k hk i e).1; omega
  · have e : fb_ct (bt (σ 7 k)) 24 = dp A k + 1 := by
      rw [← un_ct hW k hk]
      exact fb_ct_cong (fun j hj => hC.up k hk j (by omega))
    show Q (nI (fb_ct (bt (σ 7 k)) 24) - 1) σ
    rw [e, nI_pred]
    exact hQ
theorem c_isLeafUnder {A : AS} {σ : St} {Q : Int32 → St → Prop} {k j : Nat} (hC : RC σ A) (hW : WF A) (hk : k < A 0 3) (hj : j < 32) (hQ : Q (b2i (lf A k && un A k j)) σ) : pX1_isLeafUnder (nI k) (nI j) σ Q := by
  have h20 := hW.k
  unfold pX1_isLeafUnder
  rw [nI_clamp (by omega), hC.leaf k hk]
  refine ⟨vp_in_nI (by omega) (by decide), ?_⟩
  cases e : lf A k with
  | false =>
    rw [e] at hQ
    exact ⟨fun _ => hQ, fun h => absurd rfl h⟩
  | true =>
    rw [e] at hQ
    refine ⟨fun h => absurd h (show ¬ (1 : Int32) = 0 by decide), fun _ => c_isUnder hC hW hk hj ?_⟩
    cases e2 : un A k j with
    | false =>
      rw [e2] at hQ
      exact ⟨fun _ => hQ, fun h => absurd rfl h⟩
    | true =>
      rw [e2] at hQ
      exact ⟨fun h => absurd h (show ¬ (1 : Int32) = 0 by decide), fun _ => hQ⟩
