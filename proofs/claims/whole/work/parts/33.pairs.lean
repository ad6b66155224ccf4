/-! the model's pairs(): the first way of all with the most pairs, written into upper and lower -/
def uUp (on tw : Nat → Nat) (c : Nat → Option Nat) (f : Nat → Int32) : Nat → Nat → Int32
  | 0 => f
  | i + 1 => match c i with
    | none => uUp on tw c f i
    | some j => upd (uUp on tw c f i) (on i) (nI (tw j))
def uLo (on tw : Nat → Nat) (c : Nat → Option Nat) (f : Nat → Int32) : Nat → Nat → Int32
  | 0 => f
  | i + 1 => match c i with
    | none => uLo on tw c f i
    | some j => upd (uLo on tw c f i) (tw j) (nI (on i))
theorem Tk_cong {c c2 : Nat → Option Nat} : ∀ {i : Nat}, (∀ q, q < i → c q = c2 q) → Tk c i = Tk c2 i := by
  intro i
  induction i with
  | zero => intro _; rfl
  | succ i ih =>
    intro h
    simp only [Tk]
    rw [ih (fun q hq => h q (by omega)), h i (by omega)]
theorem uUp_cong {on tw : Nat → Nat} {c c2 : Nat → Option Nat} {f : Nat → Int32} : ∀ {i : Nat}, (∀ q, q < i → c q = c2 q) → uUp on tw c f i = uUp on tw c2 f i := by
  intro i
  induction i with
  | zero => intro _; rfl
  | succ i ih =>
    intro h
    simp only [uUp]
    rw [ih (fun q hq => h q (by omega)), h i (by omega)]
theorem uLo_cong {on tw : Nat → Nat} {c c2 : Nat → Option Nat} {f : Nat → Int32} : ∀ {i : Nat}, (∀ q, q < i → c q = c2 q) → uLo on tw c f i = uLo on tw c2 f i := by
  intro i
  induction i with
  | zero => intro _; rfl
  | succ i ih =>
    intro h
    simp only [uLo]
    rw [ih (fun q hq => h q (by omega)), h i (by omega)]
def FEq2 (u v : SM) : Prop := v.2 = u.2 ∧ ∀ k, k ≠ 13 → k ≠ 14 → k ≠ 18 → k ≠ 19 → k ≠ 20 → k ≠ 21 → v.1 k = u.1 k
theorem FEq2.rf (u : SM) : FEq2 u u := ⟨rfl, fun _ _ _ _ _ _ _ => rfl⟩
theorem FEq2.tr {u v w : SM} (h : FEq2 u v) (h2 : FEq2 v w) : FEq2 u w := ⟨h2.1.trans h.1, fun k a b c d e f => (h2.2 k a b c d e f).trans (h.2 k a b c d e f)⟩
theorem FEq.two {u v : SM} (h : FEq u v) : FEq2 u v := ⟨h.1, fun k _ _ a _ _ b => h.2 k a b⟩
theorem FEq2.up (u : SM) {k0 : Nat} (hk : k0 = 13 ∨ k0 = 14 ∨ k0 = 18 ∨ k0 = 19 ∨ k0 = 20 ∨ k0 = 21) (j : Nat) (v : Int32) : FEq2 u (st_up u.1 k0 j v, u.2) := ⟨rfl, fun k a b c d e f => su_k u.1 j v (by omega)⟩
theorem FMet.eq2 {m n : Nat} {u v : SM} {met : Nat → Nat → Bool} (h : FMet m n u met) (e : FEq2 u v) : FMet m n v met := by
  obtain ⟨a1, a2, a3, a4⟩ := h
  refine ⟨?_, a2, a3, fun i j hi hj => ?_⟩
  · rw [e.2 0 (by decide) (by decide) (by decide) (by decide) (by decide) (by decide)]; exact a1
  · rw [e.2 17 (by decide) (by decide) (by decide) (by decide) (by decide) (by decide)]; exact a4 i j hi hj
theorem neg1_lt : (-1 : Int32) < 0 := by decide
def PSt (m n : Nat) (met : Nat → Nat → Bool) (on tw : Nat → Nat) (u0 : SM) (i : Nat) (u : SM) (c : Nat → Option Nat) (k : Nat) : Prop := FEq2 u0 u ∧ (∀ q, q < n → (u.1 19 q = 0 ↔ i ≤ q)) ∧ (∀ j, j < m → (Tk c i j = false ↔ u.1 20 j = 0)) ∧ u.1 13 = uUp on tw c (u0.1 13) i ∧ u.1 14 = uLo on tw c (u0.1 14) i ∧ IsMax met n m i (Tk c i) k ∧ ∀ q, q < i → Lex1 met n m q (Tk c q) (c q)
set_option maxHeartbeats 4000000 in
theorem pairs_loop {m n : Nat} {met : Nat → Nat → Bool} {on tw : Nat → Nat} {u0 : SM} {Q : SM → Prop} (hM0 : FMet m n u0 met) (h20 : u0.1 0 20 = nI n) (hon : ∀ q, q < n → on q < 300 ∧ u0.1 15 q = nI (on q)) (htw : ∀ j, j < m → tw j < 300 ∧ u0.1 16 j = nI (tw j))
    (hQ : ∀ v c, FEq2 u0 v → LexS met n m c → v.1 13 = uUp on tw c (u0.1 13) n → v.1 14 = uLo on tw c (u0.1 14) n → Q v) :
    ∀ (r i : Nat) (u : SM) (c : Nat → Option Nat) (k : Nat), i + r = n → PSt m n met on tw u0 i u c k → qX9_pairs_l16 Q (r + 1) (nI k) (nI i) u := by
  have hm12 := hM0.2.1
  have hn12 := hM0.2.2.1
  have k12 : ∀ {i : Nat} {T : Sn} {k : Nat}, IsMax met n m i T k → k ≤ 12 := by
    intro i T k h
    obtain ⟨⟨g, -, e⟩, -⟩ := h
    have := fb_ct_le (fun j => !(T j) && (g j).isSome) m
    have e2 : szT m T g = k := e
    unfold szT at e2
    omega
  intro r
  induction r with
  | zero =>
    intro i u c k hir hP
    obtain ⟨p1, p2, p3, p4, p5, p6, p7⟩ := hP
    have hei : i = n := by omega
    subst hei
    show qX9_pairs_16 (qX9_pairs_l16 Q 0) Q _ _ _
    unfold qX9_pairs_16
    refine pk_le i i (fun _ => hQ u c p1 p7 p4 p5) (fun hc => by omega) (hx := by rw [p1.2 0 (by decide) (by decide) (by decide) (by decide) (by decide) (by decide)]; exact h20) (ha := by omega) (hb := by omega)
  | succ r ihr =>
    intro i u c k hir hP
    obtain ⟨p1, p2, p3, p4, p5, p6, p7⟩ := hP
    have hi : i < n := by omega
    have hk12 := k12 p6
    show qX9_pairs_16 (qX9_pairs_l16 Q (r + 1)) Q _ _ _
    unfold qX9_pairs_16
    have hi1 : Int32.toNatClampNeg (nI i) = i := nI_clamp (by omega)
    have hini : vp_in (nI i) 12 := vp_in_nI (by omega) (by decide)
    refine pk_le n i (fun hc => by omega) (fun _ => ⟨hini, fun s5 hs5 => ?_⟩) (hx := by rw [p1.2 0 (by decide) (by decide) (by decide) (by decide) (by decide) (by decide)]; exact h20) (ha := by omega) (hb := by omega)
    rw [hi1, nar_1] at hs5
    have hE5 : FEq2 u0 s5 := by rw [hs5]; exact p1.tr (FEq2.up u (by omega) i 1)
    have t19 : ∀ q, q < n → (s5.1 19 q = 0 ↔ i + 1 ≤ q) := by
      intro q hq
      rw [hs5]
      show st_up u.1 19 i 1 19 q = 0 ↔ i + 1 ≤ q
      by_cases a : q = i
      · subst a
        rw [su_s]
        constructor
        · intro e; exact absurd e (by decide)
        · intro e; omega
      · rw [su_j _ _ _ a, p2 q hq]
        omega
    have o13 : s5.1 13 = u.1 13 := by rw [hs5]; exact su_k (k := 19) (q := 13) u.1 i 1 (by decide)
    have o14 : s5.1 14 = u.1 14 := by rw [hs5]; exact su_k (k := 19) (q := 14) u.1 i 1 (by decide)
    have o20 : s5.1 20 = u.1 20 := by rw [hs5]; exact su_k (k := 19) (q := 20) u.1 i 1 (by decide)
    -- the end of the inner loop
    have fin : ∀ (v : SM) (x : Option Nat), FEq2 u0 v → (∀ q, q < n → (v.1 19 q = 0 ↔ i + 1 ≤ q)) → v.1 13 = u.1 13 → v.1 14 = u.1 14 → Lex1 met n m i (Tk c i) x → (∀ j, j < m → (Tk (va_up c i x) (i + 1) j = false ↔ v.1 20 j = 0)) → qX9_pairs_134 (qX9_pairs_l16 Q (r + 1)) Q (nI k) (nI i) (enc x) v := by
      intro v x hEv v19 v13 v14 hx v20
      have hcc : ∀ q, q < i → c q = va_up c i x q := fun q hq => (up_n c x (by omega)).symm
      have nx := Lex1_next p6 hi hx
      have hlex : ∀ q, q < i + 1 → Lex1 met n m q (Tk (va_up c i x) q) (va_up c i x q) := by
        intro q hq
        by_cases a : q = i
        · subst a
          rw [up_s, ← Tk_cong hcc]
          exact hx
        · rw [up_n _ _ a, ← Tk_cong (fun w hw => hcc w (by omega))]
          exact p7 q (by omega)
      unfold qX9_pairs_134
      cases x with
      | none =>
        refine ⟨fun _ => ?_, fun e => absurd neg1_lt e⟩
        unfold qX9_pairs_180
        intro y hy
        rw [hy, nI_1]
        refine ihr (i + 1) v (va_up c i none) k (by omega) ⟨hEv, v19, v20, ?_, ?_, ?_, hlex⟩
        · rw [v13, p4]
          simp only [uUp, up_s]
          exact uUp_cong hcc
        · rw [v14, p5]
          simp only [uLo, up_s]
          exact uLo_cong hcc
        · simp only [Tk, up_s]
          rw [← Tk_cong hcc]
          exact nx
      | some j =>
        obtain ⟨kk, a1, j1, j2, j3, j4, j5, j6⟩ := hx
        have ek : kk = k := isMax_one a1 p6
        subst ek
        refine ⟨fun e => absurd e (nI_pos (by omega)), fun _ => ?_⟩
        have hj1 : Int32.toNatClampNeg (nI j) = j := nI_clamp (by omega)
        have hinj : vp_in (nI j) 12 := vp_in_nI (by omega) (by decide)
        have e15 : v.1 15 = u0.1 15 := hEv.2 15 (by decide) (by decide) (by decide) (by decide) (by decide) (by decide)
        have e16 : v.1 16 = u0.1 16 := hEv.2 16 (by decide) (by decide) (by decide) (by decide) (by decide) (by decide)
        obtain ⟨on1, on2⟩ := hon i hi
        obtain ⟨tw1, tw2⟩ := htw j j1
        have c1 : Int32.toNatClampNeg (nI (on i)) = on i := nI_clamp (by omega)
        have c2 : Int32.toNatClampNeg (nI (tw j)) = tw j := nI_clamp (by omega)
        simp only [enc, hi1, hj1, e15, e16, on2, tw2, c1]
        refine ⟨hini, hinj, vp_in_nI on1 (by decide), fun s9 hs9 => ⟨hinj, hini, ?_, fun s10 hs10 y hy => ?_⟩⟩
        · have e9 : s9.1 16 j = nI (tw j) := by
            rw [hs9]
            show st_up v.1 13 (on i) (nI (tw j)) 16 j = nI (tw j)
            rw [su_k (k := 13) (q := 16) _ _ _ (by decide), e16, tw2]
          rw [e9]
          exact vp_in_nI tw1 (by decide)
        · have e9 : s9.1 16 j = nI (tw j) := by
            rw [hs9]
            show st_up v.1 13 (on i) (nI (tw j)) 16 j = nI (tw j)
            rw [su_k (k := 13) (q := 16) _ _ _ (by decide), e16, tw2]
          have e9b : s9.1 15 i = nI (on i) := by
            rw [hs9]
            show st_up v.1 13 (on i) (nI (tw j)) 15 i = nI (on i)
            rw [su_k (k := 13) (q := 15) _ _ _ (by decide), e15, on2]
          rw [e9, e9b, c2] at hs10
          have hE9 : FEq2 u0 s9 := by rw [hs9]; exact hEv.tr (FEq2.up v (by omega) _ _)
          have hE10 : FEq2 u0 s10 := by rw [hs10]; exact hE9.tr (FEq2.up s9 (by omega) _ _)
          unfold qX9_pairs_180
          intro z hz
          rw [hz, nI_1, hy]
          have ekm : nI kk + (-1) = nI (kk - 1) := sb_m1 j4
          rw [ekm]
          have f13 : s10.1 13 = upd (v.1 13) (on i) (nI (tw j)) := by
            rw [hs10]
            show st_up s9.1 14 (tw j) (nI (on i)) 13 = _
            rw [su_k (k := 14) (q := 13) _ _ _ (by decide), hs9]
            show st_up v.1 13 (on i) (nI (tw j)) 13 = _
            simp [st_up]
          have f14 : s10.1 14 = upd (v.1 14) (tw j) (nI (on i)) := by
            rw [hs10]
            show st_up s9.1 14 (tw j) (nI (on i)) 14 = _
            have g9 : s9.1 14 = v.1 14 := by rw [hs9]; exact su_k (k := 13) (q := 14) v.1 (on i) (nI (tw j)) (by decide)
            simp [st_up, g9]
          have f19 : s10.1 19 = v.1 19 := by
            rw [hs10]
            show st_up s9.1 14 (tw j) (nI (on i)) 19 = _
            rw [su_k (k := 14) (q := 19) _ _ _ (by decide), hs9]
            exact su_k (k := 13) (q := 19) v.1 (on i) (nI (tw j)) (by decide)
          have f20 : s10.1 20 = v.1 20 := by
            rw [hs10]
            show st_up s9.1 14 (tw j) (nI (on i)) 20 = _
            rw [su_k (k := 14) (q := 20) _ _ _ (by decide), hs9]
            exact su_k (k := 13) (q := 20) v.1 (on i) (nI (tw j)) (by decide)
          refine ihr (i + 1) s10 (va_up c i (some j)) (kk - 1) (by omega) ⟨hE10, by rw [f19]; exact v19, by rw [f20]; exact v20, ?_, ?_, ?_, hlex⟩
          · rw [f13, v13, p4]
            simp only [uUp, up_s]
            rw [uUp_cong hcc]
          · rw [f14, v14, p5]
            simp only [uLo, up_s]
            rw [uLo_cong hcc]
          · simp only [Tk, up_s]
            rw [← Tk_cong hcc]
            exact nx
    have hTk1 : ∀ x : Option Nat, Tk (va_up c i x) (i + 1) = match x with
        | none => Tk c i
        | some j => va_up (Tk c i) j true := by
      intro x
      have hcc : ∀ q, q < i → c q = va_up c i x q := fun q hq => (up_n c x (by omega)).symm
      simp only [Tk, up_s]
      rw [← Tk_cong hcc]
      cases x <;> rfl
    -- the inner loop, with nothing found
    have lp39 : ∀ (r2 j : Nat) (v : SM), j + r2 = m → FEq2 u0 v → (∀ q, q < n → (v.1 19 q = 0 ↔ i + 1 ≤ q)) → v.1 13 = u.1 13 → v.1 14 = u.1 14 → (∀ q, q < m → (Tk c i q = false ↔ v.1 20 q = 0)) → (∀ q, q < j → met i q = true → Tk c i q = false → 0 < k → ¬ IsMax met n m (i + 1) (va_up (Tk c i) q true) (k - 1)) → qX9_pairs_l39 (qX9_pairs_l16 Q (r + 1)) Q (r2 + 2) (nI k) (nI i) (-1) (nI j) v := by
      intro r2
      induction r2 with
      | zero =>
        intro j v hjr hEv v19 v13 v14 v20 hno
        have ej : j = m := by omega
        subst ej
        show qX9_pairs_39 (qX9_pairs_l16 Q (r + 1)) (qX9_pairs_l39 (qX9_pairs_l16 Q (r + 1)) Q 1) Q _ _ _ _ _
        unfold qX9_pairs_39
        refine pk_le j j (fun _ => ?_) (fun hc => by omega) (hx := (hM0.eq2 hEv).1) (ha := by omega) (hb := by omega)
        exact fin v none hEv v19 v13 v14 ⟨k, p6, hno⟩ (by rw [hTk1]; exact v20)
      | succ r2 ih2 =>
        intro j v hjr hEv v19 v13 v14 v20 hno
        have hjm : j < m := by omega
        have hM := hM0.eq2 hEv
        have hj1 : Int32.toNatClampNeg (nI j) = j := nI_clamp (by omega)
        have hinj : vp_in (nI j) 12 := vp_in_nI (by omega) (by decide)
        have e12 : (12 : Int32) * nI i + nI j = nI (12 * i + j) := by
          rw [show (12 : Int32) = nI 12 from rfl, pk_mul, nI_add]
        have hj2 : Int32.toNatClampNeg (nI (12 * i + j)) = 12 * i + j := nI_clamp (by omega)
        show qX9_pairs_39 (qX9_pairs_l16 Q (r + 1)) (qX9_pairs_l39 (qX9_pairs_l16 Q (r + 1)) Q (r2 + 2)) Q _ _ _ _ _
        unfold qX9_pairs_39
        simp only [e12, hj1, hj2]
        refine pk_le m j (fun hc => by omega) (fun _ => ?_) (hx := hM.1) (ha := by omega) (hb := by omega)
        refine ⟨fun e => absurd e (by decide), fun _ => ?_⟩
        refine pk_le k 0 (fun hk0 => ?_) (fun hk0 => ?_) (ha := by omega)
        · exact fin v none hEv v19 v13 v14 ⟨k, p6, fun q _ _ _ h0 => by omega⟩ (by rw [hTk1]; exact v20)
        have go : (met i j = true → Tk c i j = false → ¬ IsMax met n m (i + 1) (va_up (Tk c i) j true) (k - 1)) → ∀ w : SM, FEq2 u0 w → (∀ q, q < n → (w.1 19 q = 0 ↔ i + 1 ≤ q)) → w.1 13 = u.1 13 → w.1 14 = u.1 14 → (∀ q, q < m → (Tk c i q = false ↔ w.1 20 q = 0)) → qX9_pairs_128 (qX9_pairs_l16 Q (r + 1)) (qX9_pairs_l39 (qX9_pairs_l16 Q (r + 1)) Q (r2 + 2)) Q (nI k) (nI i) (-1) (nI j) w := by
          intro hnj w hEw w19 w13 w14 w20
          unfold qX9_pairs_128
          intro x hx
          rw [hx, nI_1]
          refine ih2 (j + 1) w (by omega) hEw w19 w13 w14 w20 (fun q hq hm2 hT2 h0 => ?_)
          by_cases a : q = j
          · subst a; exact hnj hm2 hT2
          · exact hno q (by omega) hm2 hT2 h0
        refine ⟨vp_in_nI (by omega) (by decide), fun hz => ?_, fun hz => ⟨hinj, fun hz2 => ?_, fun hz2 => ⟨hinj, fun s6 hs6 => ?_⟩⟩⟩
        · exact go (fun hm2 => by rw [(hM.2.2.2 i j hi hjm).mp hz] at hm2; cases hm2) v hEv v19 v13 v14 v20
        · exact go (fun _ hT2 => absurd ((v20 j hjm).mp hT2) hz2) v hEv v19 v13 v14 v20
        rw [nar_1] at hs6
        have hmet : met i j = true := by
          cases e : met i j with
          | true => rfl
          | false => exact absurd ((hM.2.2.2 i j hi hjm).mpr e) hz
        have hTj : Tk c i j = false := (v20 j hjm).mpr hz2
        have hE6 : FEq2 u0 s6 := by rw [hs6]; exact hEv.tr (FEq2.up v (by omega) _ _)
        have s20 : ∀ q, q < m → (va_up (Tk c i) j true q = false ↔ s6.1 20 q = 0) := by
          intro q hq
          rw [hs6]
          show va_up (Tk c i) j true q = false ↔ st_up v.1 20 j 1 20 q = 0
          by_cases a : q = j
          · subst a
            rw [up_s, su_s]
            constructor
            · intro e; cases e
            · intro e; exact absurd e (by decide)
          · rw [up_n _ _ a, su_j _ _ _ a]
            exact v20 q hq
        have s19 : s6.1 19 = v.1 19 := by rw [hs6]; exact su_k (k := 20) (q := 19) v.1 j 1 (by decide)
        have s13 : s6.1 13 = v.1 13 := by rw [hs6]; exact su_k (k := 20) (q := 13) v.1 j 1 (by decide)
        have s14 : s6.1 14 = v.1 14 := by rw [hs6]; exact su_k (k := 20) (q := 14) v.1 j 1 (by decide)
        refine most_ok (b0 := i + 1) (T := va_up (Tk c i) j true) (hM0.eq2 hE6) (by rw [hE6.2 0 (by decide) (by decide) (by decide) (by decide) (by decide) (by decide)]; exact h20) (by omega) (fun q hq => by rw [s19]; exact v19 q hq) s20 (fun w k2 hEw hmx => ?_)
        have hk2 := k12 hmx
        have ekm : nI k - 1 = nI (k - 1) := pk_sub (a := k) (b := 1) (by omega)
        rw [ekm]
        have w19 : w.1 19 = v.1 19 := (hEw.2 19 (by decide) (by decide)).trans s19
        have w13 : w.1 13 = v.1 13 := (hEw.2 13 (by decide) (by decide)).trans s13
        have w14 : w.1 14 = v.1 14 := (hEw.2 14 (by decide) (by decide)).trans s14
        have w20 : w.1 20 = s6.1 20 := hEw.2 20 (by decide) (by decide)
        have hEw0 : FEq2 u0 w := hE6.tr hEw.two
        have hsw := pk_eq (x := nI k2) (y := nI (k - 1)) (A := qX9_pairs_109 (qX9_pairs_l16 Q (r + 1)) (qX9_pairs_l39 (qX9_pairs_l16 Q (r + 1)) Q (r2 + 2)) Q (nI k) (nI i) (nI j) (nI j) w) (B := qX9_pairs_109 (qX9_pairs_l16 Q (r + 1)) (qX9_pairs_l39 (qX9_pairs_l16 Q (r + 1)) Q (r2 + 2)) Q (nI k) (nI i) (nI j) (-1) w) k2 (k - 1) (fun ek => ?_) (fun ek => ?_) (ha := by omega) (hb := by omega)
        · exact ⟨hsw.2, hsw.1⟩
        · -- found
          subst ek
          unfold qX9_pairs_109
          refine ⟨fun e => absurd e (nI_pos (by omega)), fun _ => ?_⟩
          unfold qX9_pairs_127
          refine ⟨hinj, fun s14b hs14 => ?_⟩
          rw [hj1, nar_1] at hs14
          have hE14 : FEq2 u0 s14b := by rw [hs14]; exact hEw0.tr (FEq2.up w (by omega) _ _)
          have hlx : Lex1 met n m i (Tk c i) (some j) := ⟨k, p6, hjm, hmet, hTj, hk0, hmx, fun q hq h1 h2 => hno q hq h1 h2 hk0⟩
          have hend : qX9_pairs_134 (qX9_pairs_l16 Q (r + 1)) Q (nI k) (nI i) (nI j) s14b := by
            refine fin s14b (some j) hE14 (fun q hq => ?_) ?_ ?_ hlx (fun q hq => ?_)
            · rw [hs14]
              show st_up w.1 20 j 1 19 q = 0 ↔ _
              rw [su_k (k := 20) (q := 19) _ _ _ (by decide), w19]
              exact v19 q hq
            · rw [hs14]
              show st_up w.1 20 j 1 13 = _
              rw [su_k (k := 20) (q := 13) _ _ _ (by decide), w13]
              exact v13
            · rw [hs14]
              show st_up w.1 20 j 1 14 = _
              rw [su_k (k := 20) (q := 14) _ _ _ (by decide), w14]
              exact v14
            · rw [hTk1]
              show va_up (Tk c i) j true q = false ↔ _
              rw [hs14]
              show _ ↔ st_up w.1 20 j 1 20 q = 0
              by_cases a : q = j
              · subst a
                rw [up_s, su_s]
                constructor
                · intro e; cases e
                · intro e; exact absurd e (by decide)
              · rw [su_j _ _ _ a, w20]
                exact s20 q hq
          unfold qX9_pairs_128
          intro x hx
          rw [hx, nI_1]
          show qX9_pairs_39 (qX9_pairs_l16 Q (r + 1)) (qX9_pairs_l39 (qX9_pairs_l16 Q (r + 1)) Q (r2 + 1)) Q _ _ _ _ _
          unfold qX9_pairs_39
          exact ⟨fun _ => hend, fun _ => ⟨fun _ => hend, fun e => absurd (nI_pos' (by omega)) e⟩⟩
        · -- not found
          unfold qX9_pairs_109
          refine ⟨fun _ => ?_, fun e => absurd neg1_lt e⟩
          unfold qX9_pairs_127
          refine ⟨hinj, fun s14b hs14 => ?_⟩
          rw [hj1, nar_0] at hs14
          have hE14 : FEq2 u0 s14b := by rw [hs14]; exact hEw0.tr (FEq2.up w (by omega) _ _)
          refine go (fun _ _ hmx2 => ek (isMax_one hmx hmx2)) s14b hE14 (fun q hq => ?_) ?_ ?_ (fun q hq => ?_)
          · rw [hs14]
            show st_up w.1 20 j 0 19 q = 0 ↔ _
            rw [su_k (k := 20) (q := 19) _ _ _ (by decide), w19]
            exact v19 q hq
          · rw [hs14]
            show st_up w.1 20 j 0 13 = _
            rw [su_k (k := 20) (q := 13) _ _ _ (by decide), w13]
            exact v13
          · rw [hs14]
            show st_up w.1 20 j 0 14 = _
            rw [su_k (k := 20) (q := 14) _ _ _ (by decide), w14]
            exact v14
          · rw [hs14]
            show _ ↔ st_up w.1 20 j 0 20 q = 0
            by_cases a : q = j
            · subst a
              rw [su_s]
              exact ⟨fun _ => rfl, fun _ => hTj⟩
            · rw [su_j _ _ _ a, w20]
              have := s20 q hq
              rw [up_n _ _ a] at this
              exact this
    exact ⟨m + 2, lp39 m 0 s5 (by omega) hE5 t19 o13 o14 (fun q hq => by rw [o20]; exact p3 q hq) (fun q hq => absurd hq (Nat.not_lt_zero _))⟩
