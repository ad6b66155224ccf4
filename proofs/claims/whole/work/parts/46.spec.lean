/-! THE PAIRS: who is whose partner above and below -/
noncomputable def cA (A : AS) (d p : Nat) : Nat → Option Nat := @dite _ (∃ c, LexS (met A d p) (cn A d p) (cn A d (p + 1)) c) (Classical.propDecidable _) (fun e => Classical.choose e) (fun _ => fun _ => none)
theorem cA_eq {A : AS} {d p : Nat} {c : Nat → Option Nat} (hc : LexS (met A d p) (cn A d p) (cn A d (p + 1)) c) : ∀ i, i < cn A d p → c i = cA A d p i := by
  have e : ∃ c, LexS (met A d p) (cn A d p) (cn A d (p + 1)) c := ⟨c, hc⟩
  have e2 : cA A d p = Classical.choose e := by
    unfold cA
    exact dif_pos e
  rw [e2]
  exact LexS_one hc (Classical.choose_spec e)
theorem cA_or (A : AS) (d p : Nat) : LexS (met A d p) (cn A d p) (cn A d (p + 1)) (cA A d p) ∨ ∀ i, cA A d p i = none := by
  by_cases e : ∃ c, LexS (met A d p) (cn A d p) (cn A d (p + 1)) c
  · left
    have e2 : cA A d p = Classical.choose e := by
      unfold cA
      exact dif_pos e
    rw [e2]
    exact Classical.choose_spec e
  · right
    intro i
    have e2 : cA A d p = fun _ => none := by
      unfold cA
      exact dif_neg e
    rw [e2]
theorem Tk_in {c : Nat → Option Nat} : ∀ {n i j : Nat}, i < n → c i = some j → Tk c n j = true := by
  intro n
  induction n with
  | zero => intro i j h; omega
  | succ n ih =>
    intro i j h e
    simp only [Tk]
    by_cases a : i = n
    · subst a
      rw [e]
      exact up_s _ _ _
    · have := ih (by omega) e
      cases c n with
      | none => exact this
      | some q =>
        show va_up (Tk c n) q true j = true
        by_cases b : j = q
        · subst b; exact up_s _ _ _
        · rw [up_n _ _ b]; exact this
theorem cA_lt {A : AS} {d p i j : Nat} (hi : i < cn A d p) (e : cA A d p i = some j) : j < cn A d (p + 1) := by
  rcases cA_or A d p with a | a
  · have h1 := a i hi
    rw [e] at h1
    obtain ⟨kk, a1, j1, j2⟩ := h1
    exact j1
  · rw [a i] at e; cases e
theorem cA_inj {A : AS} {d p i i2 j : Nat} (hi : i < cn A d p) (hi2 : i2 < cn A d p) (e : cA A d p i = some j) (e2 : cA A d p i2 = some j) : i = i2 := by
  rcases cA_or A d p with a | a
  · have key : ∀ x y, x < y → y < cn A d p → cA A d p x = some j → cA A d p y = some j → False := by
      intro x y hxy hy ex ey
      have h1 := a y hy
      rw [ey] at h1
      obtain ⟨kk, a1, j1, j2, j3, j4⟩ := h1
      rw [Tk_in hxy ex] at j3
      cases j3
    rcases Nat.lt_trichotomy i i2 with b | b | b
    · exact absurd (key i i2 b hi2 e e2) id
    · exact b
    · exact absurd (key i2 i b hi e2 e) id
  · rw [a i] at e; cases e
noncomputable def UPo (A : AS) (t : Nat) : Option Nat := if t < aSh A ∧ A 8 t + 1 < A 0 1 then (cA A (aDt A t) (A 8 t) (fb_ct (aAt A (aDt A t) (A 8 t)) t)).map (ls A (aDt A t) (A 8 t + 1)) else none
theorem UPo_ls {A : AS} {d p i : Nat} (hi : i < cn A d p) (hp : p + 1 < A 0 1) : UPo A (ls A d p i) = (cA A d p i).map (ls A d (p + 1)) := by
  obtain ⟨a, b, c⟩ := ls_in hi
  have e : fb_ct (aAt A d p) (ls A d p i) = i := (nth_in hi).2.2
  unfold UPo
  rw [b, c, e, if_pos ⟨a, hp⟩]
theorem UP_ls {A : AS} {s t : Nat} (h : UPo A s = some t) : s < aSh A ∧ A 8 s + 1 < A 0 1 ∧ ∃ i j, i < cn A (aDt A s) (A 8 s) ∧ j < cn A (aDt A s) (A 8 s + 1) ∧ ls A (aDt A s) (A 8 s) i = s ∧ ls A (aDt A s) (A 8 s + 1) j = t ∧ cA A (aDt A s) (A 8 s) i = some j := by
  by_cases hs : s < aSh A ∧ A 8 s + 1 < A 0 1
  · obtain ⟨i, h1, h2⟩ := ls_on hs.1 rfl rfl
    have e := UPo_ls h1 hs.2
    rw [h2, h] at e
    cases ec : cA A (aDt A s) (A 8 s) i with
    | none => rw [ec] at e; cases e
    | some j =>
      rw [ec] at e
      have e2 : t = ls A (aDt A s) (A 8 s + 1) j := Option.some.inj e
      exact ⟨hs.1, hs.2, i, j, h1, cA_lt h1 ec, h2, e2.symm, ec⟩
  · unfold UPo at h
    rw [if_neg hs] at h
    cases h
theorem UP_in {A : AS} {s t : Nat} (h : UPo A s = some t) : s < aSh A ∧ t < aSh A ∧ aDt A t = aDt A s ∧ A 8 t = A 8 s + 1 ∧ A 8 t < A 0 1 := by
  obtain ⟨a, b, i, j, h1, h2, h3, h4, h5⟩ := UP_ls h
  obtain ⟨c1, c2, c3⟩ := ls_in h2
  rw [h4] at c1 c2 c3
  exact ⟨a, c1, c2, c3, by omega⟩
theorem UP_inj {A : AS} {s s2 t : Nat} (h : UPo A s = some t) (h2 : UPo A s2 = some t) : s = s2 := by
  obtain ⟨_, _, d1, d2, _⟩ := UP_in h
  obtain ⟨_, _, e1, e2, _⟩ := UP_in h2
  have f1 : aDt A s = aDt A s2 := by omega
  have f2 : A 8 s = A 8 s2 := by omega
  obtain ⟨a, b, i, j, h1, h3, h4, h5, h6⟩ := UP_ls h
  obtain ⟨a2, b2, i2, j2, k1, k3, k4, k5, k6⟩ := UP_ls h2
  rw [← f1, ← f2] at k1 k3 k4 k5 k6
  have ej : j = j2 := ls_inj h3 k3 (by rw [h5, k5])
  subst ej
  have ei : i = i2 := cA_inj h1 k1 h6 k6
  rw [← h4, ← k4, ei]
noncomputable def LOo (A : AS) (t : Nat) : Option Nat := if fa_first (fun s => decide (UPo A s = some t)) (aSh A) < aSh A then some (fa_first (fun s => decide (UPo A s = some t)) (aSh A)) else none
theorem LO_iff {A : AS} {s t : Nat} : LOo A t = some s ↔ UPo A s = some t := by
  have yes := fa_first_yes (fun s => decide (UPo A s = some t)) (aSh A)
  have no := fa_first_no (fun s => decide (UPo A s = some t)) (aSh A)
  constructor
  · intro h
    unfold LOo at h
    by_cases a : fa_first (fun s => decide (UPo A s = some t)) (aSh A) < aSh A
    · rw [if_pos a] at h
      have e := Option.some.inj h
      have y := of_decide_eq_true (yes a)
      rw [e] at y
      exact y
    · rw [if_neg a] at h
      cases h
  · intro h
    unfold LOo
    by_cases a : fa_first (fun s => decide (UPo A s = some t)) (aSh A) < aSh A
    · rw [if_pos a]
      have y := of_decide_eq_true (yes a)
      rw [UP_inj y h]
    · have hs := (UP_in h).1
      have := no s (by omega)
      exact absurd h (of_decide_eq_false this)
theorem LO_none {A : AS} {t : Nat} (h : LOo A t = none) (s : Nat) : UPo A s ≠ some t := fun e => by
  rw [LO_iff.mpr e] at h
  cases h
/-! what the rows hold behind a date's posts -/
theorem uUp_out {on tw : Nat → Nat} {c : Nat → Option Nat} {f : Nat → Int32} {t : Nat} : ∀ {n : Nat}, (∀ i, i < n → on i ≠ t) → uUp on tw c f n t = f t := by
  intro n
  induction n with
  | zero => intro _; rfl
  | succ n ih =>
    intro h
    have r := ih (fun i hi => h i (by omega))
    simp only [uUp]
    cases c n with
    | none => exact r
    | some j => exact (pk_un (fun e => h n (by omega) e.symm)).trans r
theorem uUp_at {on tw : Nat → Nat} {c : Nat → Option Nat} {f : Nat → Int32} : ∀ {n : Nat}, (∀ i j, i < n → j < n → on i = on j → i = j) → ∀ i, i < n → uUp on tw c f n (on i) = match c i with
    | none => f (on i)
    | some j => nI (tw j) := by
  intro n
  induction n with
  | zero => intro _ i hi; omega
  | succ n ih =>
    intro h i hi
    by_cases a : i = n
    · subst a
      have r := uUp_out (on := on) (tw := tw) (c := c) (f := f) (t := on i) (n := i) (fun q hq e => by have := h q i (by omega) (by omega) e; omega)
      simp only [uUp]
      cases c i with
      | none => exact r
      | some j => exact pk_us
    · have r := ih (fun x y hx hy => h x y (by omega) (by omega)) i (by omega)
      rw [← r]
      simp only [uUp]
      cases c n with
      | none => rfl
      | some j => exact pk_un (fun e => a (h i n (by omega) (by omega) e))
theorem uLo_out {on tw : Nat → Nat} {c : Nat → Option Nat} {f : Nat → Int32} {t : Nat} : ∀ {n : Nat}, (∀ i j, i < n → c i = some j → tw j ≠ t) → uLo on tw c f n t = f t := by
  intro n
  induction n with
  | zero => intro _; rfl
  | succ n ih =>
    intro h
    have r := ih (fun i j hi => h i j (by omega))
    simp only [uLo]
    cases ec : c n with
    | none => exact r
    | some j => exact (pk_un (fun e => h n j (by omega) ec e.symm)).trans r
theorem uLo_at {on tw : Nat → Nat} {c : Nat → Option Nat} {f : Nat → Int32} : ∀ {n : Nat}, (∀ i i2 j j2, i < n → i2 < n → c i = some j → c i2 = some j2 → tw j = tw j2 → i = i2) → ∀ i j, i < n → c i = some j → uLo on tw c f n (tw j) = nI (on i) := by
  intro n
  induction n with
  | zero => intro _ i j hi; omega
  | succ n ih =>
    intro h i j hi e
    simp only [uLo]
    by_cases a : i = n
    · subst a
      rw [e]
      exact pk_us
    · have r := ih (fun x y u v hx hy => h x y u v (by omega) (by omega)) i j (by omega) e
      cases ec : c n with
      | none => exact r
      | some q => exact (pk_un (fun e2 => a (h i n j q (by omega) (by omega) e ec e2))).trans r
def DU (A : AS) (d q : Nat) (f0 F : Nat → Int32) : Prop := ∀ t, F t = if t < aSh A ∧ aDt A t = d ∧ A 8 t < q then enc (UPo A t) else f0 t
def DL (A : AS) (d q : Nat) (g0 G : Nat → Int32) : Prop := ∀ t, G t = if t < aSh A ∧ aDt A t = d ∧ A 8 t ≤ q then enc (LOo A t) else g0 t
theorem if_iff {α : Type} {p q : Prop} [Decidable p] [Decidable q] (h : p ↔ q) (x y : α) : (if p then x else y) = if q then x else y := by
  by_cases a : p
  · rw [if_pos a, if_pos (h.mp a)]
  · rw [if_neg a, if_neg (fun b => a (h.mpr b))]
theorem DU_step {A : AS} {d q : Nat} {f0 F : Nat → Int32} {c : Nat → Option Nat} (hf0 : ∀ t, t < aSh A → aDt A t = d → f0 t = -1) (hq : q + 1 < A 0 1) (hc : LexS (met A d q) (cn A d q) (cn A d (q + 1)) c) (h : DU A d q f0 F) : DU A d (q + 1) f0 (uUp (ls A d q) (ls A d (q + 1)) c F (cn A d q)) := by
  intro t
  rw [uUp_cong (cA_eq hc)]
  by_cases ht : t < aSh A ∧ aDt A t = d ∧ A 8 t = q
  · obtain ⟨i, hi, ei⟩ := ls_on ht.1 ht.2.1 ht.2.2
    rw [if_pos ⟨ht.1, ht.2.1, by omega⟩, ← ei, uUp_at (fun x y hx hy => ls_inj hx hy) i hi, UPo_ls hi hq]
    cases cA A d q i with
    | none =>
      show F (ls A d q i) = -1
      rw [ei, h t, if_neg (by omega)]
      exact hf0 t ht.1 ht.2.1
    | some j => rfl
  · rw [uUp_out (fun i hi e => ht (by rw [← e]; exact ls_in hi)), h t]
    exact if_iff (by omega) _ _
theorem DL_step {A : AS} {d q : Nat} {g0 G : Nat → Int32} {c : Nat → Option Nat} (hg0 : ∀ t, t < aSh A → aDt A t = d → g0 t = -1) (hq : q + 1 < A 0 1) (hc : LexS (met A d q) (cn A d q) (cn A d (q + 1)) c) (h : DL A d q g0 G) : DL A d (q + 1) g0 (uLo (ls A d q) (ls A d (q + 1)) c G (cn A d q)) := by
  intro t
  rw [uLo_cong (cA_eq hc)]
  by_cases ht : t < aSh A ∧ aDt A t = d ∧ A 8 t = q + 1
  · rw [if_pos ⟨ht.1, ht.2.1, by omega⟩]
    cases el : LOo A t with
    | none =>
      rw [uLo_out (fun i j hi e e2 => LO_none el (ls A d q i) (by rw [UPo_ls hi hq, e, ← e2]; rfl)), h t, if_neg (by omega)]
      exact hg0 t ht.1 ht.2.1
    | some s =>
      have eu := LO_iff.mp el
      obtain ⟨u1, u2, u3, u4, u5⟩ := UP_in eu
      obtain ⟨i, hi, ei⟩ := ls_on (d := d) (p := q) u1 (by omega) (by omega)
      have e := UPo_ls hi hq
      rw [ei, eu] at e
      cases ec : cA A d q i with
      | none => rw [ec] at e; cases e
      | some j =>
        rw [ec] at e
        have e2 : t = ls A d (q + 1) j := Option.some.inj e
        rw [e2, uLo_at (fun x y u v hx hy ex ey exy => ?_) i j hi ec, ei]
        · rfl
        · have := ls_inj (cA_lt hx ex) (cA_lt hy ey) exy
          subst this
          exact cA_inj hx hy ex ey
  · rw [uLo_out (fun i j hi e e2 => ht (by rw [← e2]; exact ls_in (cA_lt hi e))), h t]
    exact if_iff (by omega) _ _
theorem DU_0 (A : AS) (d : Nat) (f0 : Nat → Int32) : DU A d 0 f0 f0 := fun t => by rw [if_neg (by omega)]
theorem DL_0 {A : AS} {d : Nat} {g0 : Nat → Int32} (hg0 : ∀ t, t < aSh A → aDt A t = d → g0 t = -1) : DL A d 0 g0 g0 := fun t => by
  by_cases a : t < aSh A ∧ aDt A t = d ∧ A 8 t ≤ 0
  · rw [if_pos a]
    cases el : LOo A t with
    | none => exact hg0 t a.1 a.2.1
    | some s =>
      have := (UP_in (LO_iff.mp el)).2.2.2.1
      omega
  · rw [if_neg a]
theorem DU_end {A : AS} {d q : Nat} {f0 F : Nat → Int32} (hf0 : ∀ t, t < aSh A → aDt A t = d → f0 t = -1) (hq : A 0 1 ≤ q + 1) (h : DU A d q f0 F) (t : Nat) : F t = if t < aSh A ∧ aDt A t = d then enc (UPo A t) else f0 t := by
  rw [h t]
  by_cases a : t < aSh A ∧ aDt A t = d
  · rw [if_pos a]
    by_cases b : A 8 t < q
    · rw [if_pos ⟨a.1, a.2, b⟩]
    · rw [if_neg (by omega), hf0 t a.1 a.2]
      have e : UPo A t = none := by
        unfold UPo
        rw [if_neg (by omega)]
      rw [e]
      rfl
  · rw [if_neg a, if_neg (fun e => a ⟨e.1, e.2.1⟩)]
theorem DL_end {A : AS} (hW : WF A) {d q : Nat} {g0 G : Nat → Int32} (hq : A 0 1 ≤ q + 1) (h : DL A d q g0 G) (t : Nat) : G t = if t < aSh A ∧ aDt A t = d then enc (LOo A t) else g0 t := by
  rw [h t]
  by_cases a : t < aSh A ∧ aDt A t = d
  · have hsh := sh_le A
    have := (hW.tel t (by omega)).2.2.2.1
    rw [if_pos a, if_pos ⟨a.1, a.2, by omega⟩]
  · rw [if_neg a, if_neg (fun e => a ⟨e.1, e.2.1⟩)]
/-! birds: the first telling, the kind -/
noncomputable def fsF (A : AS) : Nat → Nat → Nat
  | 0, t => t
  | f + 1, t => match LOo A t with
    | none => t
    | some s => fsF A f s
noncomputable def fs (A : AS) (t : Nat) : Nat := fsF A 4 t
def dk (A : AS) (k j : Nat) : Nat := if dp A k < dp A j then j else k
noncomputable def kbF (A : AS) : Nat → Nat → Nat → Nat
  | 0, k, _ => k
  | f + 1, k, t => match UPo A t with
    | none => k
    | some s => kbF A f (dk A k (A 9 s)) s
noncomputable def kb (A : AS) (k t : Nat) : Nat := kbF A 4 k t
noncomputable def bkd (A : AS) (t : Nat) : Nat := kb A (A 9 t) t
theorem fsF_fuel {A : AS} : ∀ (f t : Nat), A 8 t ≤ f → fsF A (f + 1) t = fsF A f t := by
  intro f
  induction f with
  | zero =>
    intro t h
    show (match LOo A t with
      | none => t
      | some s => fsF A 0 s) = t
    cases el : LOo A t with
    | none => rfl
    | some s =>
      have := (UP_in (LO_iff.mp el)).2.2.2.1
      omega
  | succ f ih =>
    intro t h
    show (match LOo A t with
      | none => t
      | some s => fsF A (f + 1) s) = (match LOo A t with
      | none => t
      | some s => fsF A f s)
    cases el : LOo A t with
    | none => rfl
    | some s =>
      have := (UP_in (LO_iff.mp el)).2.2.2.1
      exact ih s (by omega)
theorem fs_none {A : AS} {t : Nat} (h : LOo A t = none) : fs A t = t := by
  show (match LOo A t with
    | none => t
    | some s => fsF A 3 s) = t
  rw [h]
theorem fs_some {A : AS} (hW : WF A) {s t : Nat} (h : LOo A t = some s) : fs A t = fs A s := by
  have h4 := hW.p
  have u := UP_in (LO_iff.mp h)
  have e : fsF A 4 s = fsF A 3 s := fsF_fuel 3 s (by omega)
  show (match LOo A t with
    | none => t
    | some s => fsF A 3 s) = fsF A 4 s
  rw [h, e]
theorem kbF_fuel {A : AS} : ∀ (f k t : Nat), A 0 1 ≤ A 8 t + 1 + f → kbF A (f + 1) k t = kbF A f k t := by
  intro f
  induction f with
  | zero =>
    intro k t h
    show (match UPo A t with
      | none => k
      | some s => kbF A 0 (dk A k (A 9 s)) s) = k
    cases el : UPo A t with
    | none => rfl
    | some s =>
      have := (UP_in el).2.2.2
      omega
  | succ f ih =>
    intro k t h
    show (match UPo A t with
      | none => k
      | some s => kbF A (f + 1) (dk A k (A 9 s)) s) = (match UPo A t with
      | none => k
      | some s => kbF A f (dk A k (A 9 s)) s)
    cases el : UPo A t with
    | none => rfl
    | some s =>
      have := (UP_in el).2.2.2
      exact ih _ s (by omega)
theorem kb_none {A : AS} {k t : Nat} (h : UPo A t = none) : kb A k t = k := by
  show (match UPo A t with
    | none => k
    | some s => kbF A 3 (dk A k (A 9 s)) s) = k
  rw [h]
theorem kb_some {A : AS} (hW : WF A) {k s t : Nat} (h : UPo A t = some s) : kb A k t = kb A (dk A k (A 9 s)) s := by
  have h4 := hW.p
  have u := UP_in h
  have e : kbF A 4 (dk A k (A 9 s)) s = kbF A 3 (dk A k (A 9 s)) s := kbF_fuel 3 _ s (by omega)
  show (match UPo A t with
    | none => k
    | some s => kbF A 3 (dk A k (A 9 s)) s) = kbF A 4 (dk A k (A 9 s)) s
  rw [h, e]
/-- the first telling lies no higher, is shown, and of the same date -/
theorem fs_in {A : AS} (hW : WF A) : ∀ (n t : Nat), A 8 t ≤ n → t < aSh A → fs A t < aSh A ∧ aDt A (fs A t) = aDt A t ∧ A 8 (fs A t) ≤ A 8 t ∧ LOo A (fs A t) = none ∧ (LOo A t ≠ none → A 8 (fs A t) < A 8 t) := by
  intro n
  induction n with
  | zero =>
    intro t hn ht
    cases el : LOo A t with
    | none => rw [fs_none el]; exact ⟨ht, rfl, Nat.le_refl _, el, fun h => absurd rfl h⟩
    | some s => have := (UP_in (LO_iff.mp el)).2.2.2.1; omega
  | succ n ih =>
    intro t hn ht
    cases el : LOo A t with
    | none => rw [fs_none el]; exact ⟨ht, rfl, Nat.le_refl _, el, fun h => absurd rfl h⟩
    | some s =>
      obtain ⟨u1, u2, u3, u4, u5⟩ := UP_in (LO_iff.mp el)
      obtain ⟨a, b, c, e, f⟩ := ih s (by omega) u1
      rw [fs_some hW el]
      exact ⟨a, by omega, by omega, e, fun _ => by omega⟩
theorem fs_self {A : AS} (hW : WF A) {t : Nat} (ht : t < aSh A) : fs A t = t ↔ LOo A t = none := by
  constructor
  · intro h
    have := (fs_in hW (A 8 t) t (Nat.le_refl _) ht).2.2.2.1
    rw [h] at this
    exact this
  · exact fs_none
/-- a bird is at a post once -/
theorem fs_one {A : AS} (hW : WF A) : ∀ (n s t : Nat), A 8 t ≤ n → s < aSh A → t < aSh A → A 8 s = A 8 t → fs A s = fs A t → s = t := by
  intro n
  induction n with
  | zero =>
    intro s t hn hs ht hp h
    cases es : LOo A s with
    | none =>
      cases et : LOo A t with
      | none => rw [fs_none es, fs_none et] at h; exact h
      | some q => have := (UP_in (LO_iff.mp et)).2.2.2.1; omega
    | some q => have := (UP_in (LO_iff.mp es)).2.2.2.1; omega
  | succ n ih =>
    intro s t hn hs ht hp h
    have is := fs_in hW (A 8 s) s (Nat.le_refl _) hs
    have it := fs_in hW (A 8 t) t (Nat.le_refl _) ht
    cases es : LOo A s with
    | none =>
      cases et : LOo A t with
      | none => rw [fs_none es, fs_none et] at h; exact h
      | some q =>
        have := it.2.2.2.2 (by rw [et]; exact fun e => by cases e)
        rw [fs_none es] at h
        rw [← h] at this
        omega
    | some q =>
      cases et : LOo A t with
      | none =>
        have := is.2.2.2.2 (by rw [es]; exact fun e => by cases e)
        rw [fs_none et] at h
        rw [h] at this
        omega
      | some w =>
        obtain ⟨u1, u2, u3, u4, u5⟩ := UP_in (LO_iff.mp es)
        obtain ⟨v1, v2, v3, v4, v5⟩ := UP_in (LO_iff.mp et)
        have e := ih q w (by omega) u1 v1 (by omega) (by rw [← fs_some hW es, ← fs_some hW et]; exact h)
        subst e
        have e2 := (LO_iff.mp es).symm.trans (LO_iff.mp et)
        exact Option.some.inj e2
/-- lower tellings of a bird lead upward to the higher ones -/
theorem fs_up {A : AS} (hW : WF A) : ∀ (n s t : Nat), A 8 t ≤ n → s < aSh A → t < aSh A → A 8 s < A 8 t → fs A s = fs A t → ∃ w, UPo A s = some w ∧ A 8 w ≤ A 8 t ∧ fs A w = fs A t := by
  intro n
  induction n with
  | zero => intro s t hn hs ht hp h; omega
  | succ n ih =>
    intro s t hn hs ht hp h
    have is := fs_in hW (A 8 s) s (Nat.le_refl _) hs
    cases et : LOo A t with
    | none => rw [fs_none et] at h; rw [h] at is; omega
    | some q =>
      obtain ⟨v1, v2, v3, v4, v5⟩ := UP_in (LO_iff.mp et)
      have e := fs_some hW et
      by_cases a : A 8 s = A 8 q
      · have e2 := fs_one hW (A 8 q) s q (Nat.le_refl _) hs v1 a (h.trans e)
        subst e2
        exact ⟨t, LO_iff.mp et, Nat.le_refl _, rfl⟩
      · obtain ⟨w, w1, w2, w3⟩ := ih s q (by omega) hs v1 (by omega) (h.trans e)
        exact ⟨w, w1, by omega, w3.trans e.symm⟩
/-- every bird has a highest telling -/
theorem top_of {A : AS} (hW : WF A) : ∀ (n t : Nat), A 0 1 ≤ A 8 t + n → t < aSh A → ∃ w, w < aSh A ∧ fs A w = fs A t ∧ aDt A w = aDt A t ∧ UPo A w = none := by
  intro n
  induction n with
  | zero =>
    intro t hn ht
    cases eu : UPo A t with
    | none => exact ⟨t, ht, rfl, rfl, eu⟩
    | some s => have := (UP_in eu).2.2.2; omega
  | succ n ih =>
    intro t hn ht
    cases eu : UPo A t with
    | none => exact ⟨t, ht, rfl, rfl, eu⟩
    | some s =>
      obtain ⟨u1, u2, u3, u4, u5⟩ := UP_in eu
      obtain ⟨w, w1, w2, w3, w4⟩ := ih s (by omega) u2
      exact ⟨w, w1, w2.trans (fs_some hW (LO_iff.mpr eu)), by omega, w4⟩
theorem dk_lt {A : AS} {k j : Nat} (hk : k < A 0 3) (hj : j < A 0 3) : dk A k j < A 0 3 := by
  unfold dk
  split <;> omega
theorem kb_lt {A : AS} (hW : WF A) {t : Nat} (ht : t < aSh A) {k : Nat} (hk : k < A 0 3) : kb A k t < A 0 3 := by
  have hsh := sh_le A
  have key : ∀ (f k t : Nat), k < A 0 3 → kbF A f k t < A 0 3 := by
    intro f
    induction f with
    | zero => intro k t hk; exact hk
    | succ f ih =>
      intro k t hk
      show (match UPo A t with
        | none => k
        | some s => kbF A f (dk A k (A 9 s)) s) < A 0 3
      cases eu : UPo A t with
      | none => exact hk
      | some s =>
        have u := UP_in eu
        exact ih _ s (dk_lt hk (hW.tel s (by omega)).2.2.2.2.1)
  exact key 4 k t hk
theorem bkd_lt {A : AS} (hW : WF A) {t : Nat} (ht : t < aSh A) : bkd A t < A 0 3 := by
  have hsh := sh_le A
  exact kb_lt hW ht (hW.tel t (by omega)).2.2.2.2.1
