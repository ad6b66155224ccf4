/-! the first of all ways with the most pairs -/
theorem szT_blk {m j : Nat} {T : Sn} {h : Hs} (hj : j < m) (hT : T j = false) (hs : (h j).isSome = true) : szT m T h = szT m (va_up T j true) h + 1 := by
  have h1 := fb_ct_upd (fun q => !(T q) && (h q).isSome) false hj
  have e : (fun k => if k = j then false else (fun q => !(T q) && (h q).isSome) k) = (fun q => !(va_up T j true q) && (h q).isSome) := by
    funext q
    by_cases a : q = j
    · subst a; simp [up_s]
    · simp [a, up_n T true a]
  rw [e] at h1
  simp [hs, hT] at h1
  exact h1.symm
theorem szT_cong {m : Nat} {T : Sn} {h h2 : Hs} (e : ∀ q, q < m → T q = false → h q = h2 q) : szT m T h = szT m T h2 := by
  refine fb_ct_cong (fun k hk => ?_)
  cases a : T k with
  | true => simp
  | false => simp [e k hk a]
theorem un_pair {met : Nat → Nat → Bool} {n m i j : Nat} {T : Sn} {g : Hs} (hV : VT met n m i T g) (hj : j < m) (hT : T j = false) (hg : g j = some i) : VT met n m (i + 1) (va_up T j true) g ∧ szT m T g = szT m (va_up T j true) g + 1 := by
  have hq : ∀ q, va_up T j true q = false → q ≠ j ∧ T q = false := by
    intro q e
    by_cases a : q = j
    · subst a; rw [up_s] at e; cases e
    · rw [up_n _ _ a] at e; exact ⟨a, e⟩
  refine ⟨⟨fun q l h1 h2 h3 => ?_, fun q w l h1 h2 h3 h4 => hV.2 q w l h1 (hq q h2).2 h3 (hq w h4).2⟩, szT_blk hj hT (by rw [hg]; rfl)⟩
  obtain ⟨a1, a2⟩ := hq q h2
  obtain ⟨b1, b2, b3⟩ := hV.1 q l h1 a2 h3
  refine ⟨?_, b2, b3⟩
  rcases Nat.lt_or_ge i l with c | c
  · exact c
  · have : l = i := by omega
    subst this
    exact absurd (hV.2 q j l h1 a2 hj hT h3 hg) a1
theorem mk_pair {met : Nat → Nat → Bool} {n m i j : Nat} {T : Sn} {g : Hs} (hV : VT met n m (i + 1) (va_up T j true) g) (hi : i < n) (hj : j < m) (hT : T j = false) (hm : met i j = true) : VT met n m i T (va_up g j (some i)) ∧ szT m T (va_up g j (some i)) = szT m (va_up T j true) g + 1 := by
  have hq : ∀ q, q ≠ j → T q = false → va_up T j true q = false := fun q a e => by rw [up_n _ _ a]; exact e
  refine ⟨⟨fun q l h1 h2 h3 => ?_, fun q w l h1 h2 h3 h4 h5 h6 => ?_⟩, ?_⟩
  · by_cases a : q = j
    · subst a; rw [up_s] at h3; cases h3; exact ⟨Nat.le_refl _, hi, hm⟩
    · rw [up_n _ _ a] at h3
      obtain ⟨b1, b2, b3⟩ := hV.1 q l h1 (hq q a h2) h3
      exact ⟨by omega, b2, b3⟩
  · by_cases a : q = j
    · subst a
      rw [up_s] at h5
      cases h5
      by_cases b : w = q
      · exact b.symm
      · rw [up_n _ _ b] at h6
        have := (hV.1 w i h3 (hq w b h4) h6).1
        omega
    · rw [up_n _ _ a] at h5
      by_cases b : w = j
      · subst b
        rw [up_s] at h6
        cases h6
        have := (hV.1 q i h1 (hq q a h2) h5).1
        omega
      · rw [up_n _ _ b] at h6
        exact hV.2 q w l h1 (hq q a h2) h3 (hq w b h4) h5 h6
  · rw [szT_blk hj hT (by rw [up_s]; rfl)]
    congr 1
    refine szT_cong (fun q hqm e => ?_)
    by_cases a : q = j
    · subst a; rw [up_s] at e; cases e
    · rw [up_n _ _ a]
/-- with a pair of its first left laid aside, the rest is as many as can be -/
theorem isMax_pair {met : Nat → Nat → Bool} {n m i j k : Nat} {T : Sn} {g : Hs} (hM : IsMax met n m i T k) (hi : i < n) (hj : j < m) (hT : T j = false) (hm : met i j = true) (hV : VT met n m (i + 1) (va_up T j true) g) (hs : szT m (va_up T j true) g + 1 = k) : IsMax met n m (i + 1) (va_up T j true) (k - 1) := by
  refine ⟨⟨g, hV, by omega⟩, fun g2 h2 => ?_⟩
  obtain ⟨a1, a2⟩ := mk_pair h2 hi hj hT hm
  have := hM.2 _ a1
  omega
theorem isMax_skip {met : Nat → Nat → Bool} {n m i k : Nat} {T : Sn} (hM : IsMax met n m i T k) (hi : i < n) (hno : ∀ q, q < m → met i q = true → T q = false → 0 < k → ¬ IsMax met n m (i + 1) (va_up T q true) (k - 1)) : IsMax met n m (i + 1) T k := by
  obtain ⟨g, hV, hs⟩ := hM.1
  have hf : ∀ j, j < m → T j = false → g j ≠ some i := by
    intro j hj hT hg
    obtain ⟨b1, b2, b3⟩ := hV.1 j i hj hT hg
    obtain ⟨a1, a2⟩ := un_pair hV hj hT hg
    exact hno j hj b3 hT (by omega) (isMax_pair hM hi hj hT b3 a1 (by omega))
  refine ⟨⟨g, ⟨fun j l h1 h2 h3 => ?_, hV.2⟩, hs⟩, fun g2 h2 => hM.2 g2 ⟨fun j l h1 h3 h4 => ?_, h2.2⟩⟩
  · obtain ⟨b1, b2, b3⟩ := hV.1 j l h1 h2 h3
    have : l ≠ i := fun e => hf j h1 h2 (by rw [h3, e])
    exact ⟨by omega, b2, b3⟩
  · obtain ⟨b1, b2, b3⟩ := h2.1 j l h1 h3 h4
    exact ⟨by omega, b2, b3⟩
def Tk (c : Nat → Option Nat) : Nat → Sn
  | 0 => fun _ => false
  | i + 1 => match c i with
    | none => Tk c i
    | some j => va_up (Tk c i) j true
/-- what is right for one left: k pairs at most from here on; the least partner with which that many remain -/
def Lex1 (met : Nat → Nat → Bool) (n m i : Nat) (T : Sn) (x : Option Nat) : Prop := ∃ k, IsMax met n m i T k ∧ match x with
  | some j => j < m ∧ met i j = true ∧ T j = false ∧ 0 < k ∧ IsMax met n m (i + 1) (va_up T j true) (k - 1) ∧ ∀ q, q < j → met i q = true → T q = false → ¬ IsMax met n m (i + 1) (va_up T q true) (k - 1)
  | none => ∀ q, q < m → met i q = true → T q = false → 0 < k → ¬ IsMax met n m (i + 1) (va_up T q true) (k - 1)
theorem Lex1_one {met : Nat → Nat → Bool} {n m i : Nat} {T : Sn} {x y : Option Nat} (hx : Lex1 met n m i T x) (hy : Lex1 met n m i T y) : x = y := by
  obtain ⟨k, a1, a2⟩ := hx
  obtain ⟨k2, b1, b2⟩ := hy
  have e := isMax_one a1 b1
  subst e
  cases x with
  | none =>
    cases y with
    | none => rfl
    | some j => exact absurd b2.2.2.2.2.1 (a2 j b2.1 b2.2.1 b2.2.2.1 b2.2.2.2.1)
  | some i1 =>
    cases y with
    | none => exact absurd a2.2.2.2.2.1 (b2 i1 a2.1 a2.2.1 a2.2.2.1 a2.2.2.2.1)
    | some j =>
      rcases Nat.lt_trichotomy i1 j with c | c | c
      · exact absurd a2.2.2.2.2.1 (b2.2.2.2.2.2 i1 c a2.2.1 a2.2.2.1)
      · rw [c]
      · exact absurd b2.2.2.2.2.1 (a2.2.2.2.2.2 j c b2.2.1 b2.2.2.1)
def LexS (met : Nat → Nat → Bool) (n m : Nat) (c : Nat → Option Nat) : Prop := ∀ i, i < n → Lex1 met n m i (Tk c i) (c i)
theorem LexS_one {met : Nat → Nat → Bool} {n m : Nat} {c c2 : Nat → Option Nat} (h : LexS met n m c) (h2 : LexS met n m c2) : ∀ i, i < n → c i = c2 i := by
  have key : ∀ i, i ≤ n → Tk c i = Tk c2 i ∧ ∀ q, q < i → c q = c2 q := by
    intro i
    induction i with
    | zero => intro _; exact ⟨rfl, fun q hq => absurd hq (Nat.not_lt_zero _)⟩
    | succ i ih =>
      intro hi
      obtain ⟨a1, a2⟩ := ih (by omega)
      have h3 := h2 i (by omega)
      rw [← a1] at h3
      have e := Lex1_one (h i (by omega)) h3
      refine ⟨by simp only [Tk]; rw [a1, e], fun q hq => ?_⟩
      by_cases b : q = i
      · subst b; exact e
      · exact a2 q (by omega)
  exact fun i hi => (key n (Nat.le_refl n)).2 i hi
/-- and with it, the number of pairs goes on -/
theorem Lex1_next {met : Nat → Nat → Bool} {n m i k : Nat} {T : Sn} (hM : IsMax met n m i T k) (hi : i < n) {x : Option Nat} (hx : Lex1 met n m i T x) : match x with
  | some j => IsMax met n m (i + 1) (va_up T j true) (k - 1)
  | none => IsMax met n m (i + 1) T k := by
  obtain ⟨k2, a1, a2⟩ := hx
  have e := isMax_one a1 hM
  subst e
  cases x with
  | some j => exact a2.2.2.2.2.1
  | none => exact isMax_skip a1 hi a2
