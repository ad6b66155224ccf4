/-! how many pairs there can be at most -/
theorem ct_inj {p : Nat → Bool} {m : Nat} (φ : Nat → Nat) : ∀ (n : Nat) (q : Nat → Bool), (∀ j, j < n → p j = true → φ j < m ∧ q (φ j) = true) → (∀ i j, i < n → j < n → p i = true → p j = true → φ i = φ j → i = j) → fb_ct p n ≤ fb_ct q m := by
  intro n
  induction n with
  | zero => intro q _ _; exact Nat.zero_le _
  | succ n ih =>
    intro q h1 h2
    rw [fb_ct_succ]
    cases e : p n with
    | false =>
      have h3 := ih q (fun j hj => h1 j (by omega)) (fun i j hi hj => h2 i j (by omega) (by omega))
      simpa using h3
    | true =>
      obtain ⟨a1, a2⟩ := h1 n (by omega) e
      have h3 := ih (fun k => if k = φ n then false else q k) (fun j hj hp => by
        obtain ⟨b1, b2⟩ := h1 j (by omega) hp
        have hne : φ j ≠ φ n := fun ee => by
          have := h2 j n (by omega) (by omega) hp e ee
          omega
        exact ⟨b1, by simp [hne, b2]⟩) (fun i j hi hj => h2 i j (by omega) (by omega))
      have h4 := fb_ct_upd q false a1
      rw [if_pos a2, if_neg (by decide)] at h4
      rw [if_pos rfl]
      omega
def IsMax (met : Nat → Nat → Bool) (n m b0 : Nat) (T : Sn) (k : Nat) : Prop := (∃ g, VT met n m b0 T g ∧ szT m T g = k) ∧ ∀ g, VT met n m b0 T g → szT m T g ≤ k
theorem isMax_one {met : Nat → Nat → Bool} {n m b0 : Nat} {T : Sn} {k k2 : Nat} (h : IsMax met n m b0 T k) (h2 : IsMax met n m b0 T k2) : k = k2 := by
  obtain ⟨⟨g, a1, a2⟩, a3⟩ := h
  obtain ⟨⟨g2, b1, b2⟩, b3⟩ := h2
  have c1 := a3 g2 b1
  have c2 := b3 g a1
  omega
theorem cover {met : Nat → Nat → Bool} {n m b0 : Nat} {T Z : Sn} {h : Hs} (hZ : Zcl met m T h Z) (hL : ∀ l, b0 ≤ l → l < n → mat m T h l ∨ ∀ q, q < m → met l q = true → T q = true ∨ Z q = true) : ∀ g, VT met n m b0 T g → szT m T g ≤ szT m T h := by
  intro g hg
  have key : ∀ j : Nat, ∃ x : Nat, j < m → T j = false → (g j).isSome = true → x < m ∧ T x = false ∧ (h x).isSome = true ∧ ((Z j = true ∧ x = j) ∨ (Z j = false ∧ Z x = false ∧ ∃ l, g j = some l ∧ h x = some l)) := by
    intro j
    by_cases hj : j < m ∧ T j = false ∧ (g j).isSome = true
    · obtain ⟨hj, hT, hs⟩ := hj
      obtain ⟨l, hl⟩ := Option.isSome_iff_exists.mp hs
      obtain ⟨v1, v2, v3⟩ := hg.1 j l hj hT hl
      cases hz : Z j with
      | true =>
        obtain ⟨z1, l2, z2, z3⟩ := hZ j hj hz
        exact ⟨j, fun _ _ _ => ⟨hj, hT, by rw [z2]; rfl, Or.inl ⟨rfl, rfl⟩⟩⟩
      | false =>
        rcases hL l v1 v2 with ⟨x, x1, x2, x3⟩ | hc
        · refine ⟨x, fun _ _ _ => ⟨x1, x2, by rw [x3]; rfl, Or.inr ⟨rfl, ?_, l, hl, x3⟩⟩⟩
          cases hzx : Z x with
          | false => rfl
          | true =>
            obtain ⟨z1, l2, z2, z3⟩ := hZ x x1 hzx
            rw [x3] at z2
            cases z2
            rcases z3 j hj v3 with e | e
            · rw [hT] at e; cases e
            · rw [hz] at e; cases e
        · rcases hc j hj v3 with e | e
          · rw [hT] at e; cases e
          · rw [hz] at e; cases e
    · exact ⟨0, fun a b c => absurd ⟨a, b, c⟩ hj⟩
  obtain ⟨φ, hφ⟩ := Classical.axiomOfChoice key
  have un : ∀ j, (!(T j) && (g j).isSome) = true → T j = false ∧ (g j).isSome = true := by
    intro j e
    cases a : T j with
    | false => rw [a] at e; exact ⟨rfl, by simpa using e⟩
    | true => rw [a] at e; cases e
  refine ct_inj φ m _ (fun j hj hp => ?_) (fun i j hi hj hpi hpj e => ?_)
  · obtain ⟨p1, p2⟩ := un j hp
    obtain ⟨a1, a2, a3, -⟩ := hφ j hj p1 p2
    exact ⟨a1, by simp [a2, a3]⟩
  · obtain ⟨p1, p2⟩ := un i hpi
    obtain ⟨r1, r2⟩ := un j hpj
    obtain ⟨-, -, -, hi4⟩ := hφ i hi p1 p2
    obtain ⟨-, -, -, hj4⟩ := hφ j hj r1 r2
    rcases hi4 with ⟨zi, ei⟩ | ⟨zi, zi2, l, gi, hi5⟩
    · rcases hj4 with ⟨zj, ej⟩ | ⟨zj, zj2, l2, gj, hj5⟩
      · omega
      · rw [← e, ei, zi] at zj2; cases zj2
    · rcases hj4 with ⟨zj, ej⟩ | ⟨zj, zj2, l2, gj, hj5⟩
      · rw [e, ej, zj] at zi2; cases zi2
      · rw [e] at hi5
        rw [hi5] at hj5
        cases hj5
        exact hg.2 i j l hi p1 hj r1 gi gj
/-- a pass over the lefts b0 .. i-1 -/
def PassI (met : Nat → Nat → Bool) (m b0 : Nat) (T : Sn) (i : Nat) (h : Hs) (Z : Sn) : Prop := VT met i m b0 T h ∧ Zcl met m T h Z ∧ ∀ l, b0 ≤ l → l < i → mat m T h l ∨ ∀ q, q < m → met l q = true → T q = true ∨ Z q = true
theorem VT_mono {met : Nat → Nat → Bool} {n n2 m b0 : Nat} {T : Sn} {h : Hs} (hn : n ≤ n2) (hV : VT met n m b0 T h) : VT met n2 m b0 T h := ⟨fun j l h1 h2 h3 => ⟨(hV.1 j l h1 h2 h3).1, by have := (hV.1 j l h1 h2 h3).2.1; omega, (hV.1 j l h1 h2 h3).2.2⟩, hV.2⟩
theorem pass_max {met : Nat → Nat → Bool} {m b0 n : Nat} {T : Sn} {h : Hs} {Z : Sn} (hp : PassI met m b0 T n h Z) : IsMax met n m b0 T (szT m T h) := ⟨⟨h, hp.1, rfl⟩, cover hp.2.1 hp.2.2⟩
/-- the dead rights grow by what a search that failed has tried -/
theorem dead_grow {met : Nat → Nat → Bool} {m i : Nat} {T Z s s2 : Sn} {h : Hs} (hZ : Zcl met m T h Z) (hs : ∀ q, s q = true → T q = true) (hF : okF met m i h s s2) : ∃ Z2 : Sn, Zcl met m T h Z2 ∧ (∀ q, Z q = true → Z2 q = true) ∧ ∀ q, q < m → met i q = true → T q = true ∨ Z2 q = true := by
  have hw : ∀ w, s2 w = true → T w = true ∨ (Z w || (s2 w && !(T w))) = true := by
    intro w e
    cases a : T w with
    | true => exact Or.inl rfl
    | false => exact Or.inr (by simp [e])
  refine ⟨fun q => Z q || (s2 q && !(T q)), fun j hj hz => ?_, fun q e => by simp [e], fun q hq e => hw q (hF.1 q hq e)⟩
  cases hzj : Z j with
  | true =>
    obtain ⟨a1, l, a2, a3⟩ := hZ j hj hzj
    exact ⟨a1, l, a2, fun q hq e => (a3 q hq e).elim Or.inl (fun x => Or.inr (by simp [x]))⟩
  | false =>
    replace hz : (Z j || s2 j && !(T j)) = true := hz
    rw [hzj] at hz
    have hz2 : s2 j = true ∧ T j = false := by
      cases a : T j with
      | true => rw [a] at hz; simp at hz
      | false => rw [a] at hz; exact ⟨by simpa using hz, rfl⟩
    rcases hF.2 j hj hz2.1 with e | ⟨l, e1, e2⟩
    · rw [hs j e] at hz2; cases hz2.2
    · exact ⟨hz2.2, l, e1, fun q hq e => hw q (e2 q hq e)⟩
theorem pass_step {met : Nat → Nat → Bool} {m b0 i d : Nat} {T s : Sn} {h : Hs} {Z : Sn} (hp : PassI met m b0 T i h Z) (hb : b0 ≤ i) (hs : ∀ q, s q = true ↔ T q = true) (hd : uns m s < d) :
    ((srch met m d i h s).1 = false → (srch met m d i h s).2.1 = h ∧ ∃ Z2, PassI met m b0 T (i + 1) h Z2) ∧ ((srch met m d i h s).1 = true → PassI met m b0 T (i + 1) (srch met m d i h s).2.1 Z ∧ szT m T (srch met m d i h s).2.1 = szT m T h + 1) := by
  obtain ⟨hV, hZ, hL⟩ := hp
  have hf : ¬ mat m T h i := by
    rintro ⟨j, h1, h2, h3⟩
    have := (hV.1 j i h1 h2 h3).2.1
    omega
  obtain ⟨k1, k2⟩ := srch_ok met (i + 1) m b0 T d i h s hd (fun q e => (hs q).mpr e) (VT_mono (Nat.le_succ i) hV) ⟨hb, Nat.lt_succ_self i⟩ hf
  refine ⟨fun e => ⟨srch_fail met m d i h s e, ?_⟩, fun e => ?_⟩
  · obtain ⟨Z2, a1, a2, a3⟩ := dead_grow hZ (fun q e => (hs q).mp e) (k1 e)
    refine ⟨Z2, VT_mono (Nat.le_succ i) hV, a1, fun l hl1 hl2 => ?_⟩
    by_cases el : l = i
    · subst el; exact Or.inr a3
    · rcases hL l hl1 (by omega) with x | x
      · exact Or.inl x
      · exact Or.inr (fun q hq e => (x q hq e).elim Or.inl (fun y => Or.inr (a2 q y)))
  · obtain ⟨o1, o2, o3, o4, o5⟩ := k2 e
    refine ⟨⟨o1, fun j hj hz => ?_, fun l hl1 hl2 => ?_⟩, o3⟩
    · rw [o5 Z hZ j hj hz]
      exact hZ j hj hz
    · by_cases el : l = i
      · exact Or.inl ((o2 l).mpr (Or.inr el))
      · rcases hL l hl1 (by omega) with x | x
        · exact Or.inl ((o2 l).mpr (Or.inl x))
        · exact Or.inr x
theorem pass_0 {met : Nat → Nat → Bool} {m b0 : Nat} {T : Sn} {h : Hs} (hn : ∀ j, j < m → T j = false → h j = none) : PassI met m b0 T b0 h (fun _ => false) := by
  refine ⟨⟨(fun j l h1 h2 h3 => by rw [hn j h1 h2] at h3; cases h3), (fun j q l h1 h2 h3 h4 h5 => by rw [hn j h1 h2] at h5; cases h5)⟩, (fun j hj hz => by cases hz), (fun l h1 h2 => by omega)⟩
