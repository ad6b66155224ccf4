/-! solve(): the first way of all with the most pairs -/
def S2 (m n : Nat) (met : Nat → Nat → Bool) (σ0 : St) (i : Nat) (σ : St) (c : Nat → Option Nat) (h : Hs) : Prop := (SEq σ0 σ) ∧ (∀ q, q < m → bt (σ 26 7) q = Tk c i q) ∧ (∀ q, m ≤ q → Tk c i q = false) ∧ (CF m n σ h) ∧ (VT met n m i (Tk c i) h) ∧ (∀ q l, q < m → Tk c i q = true → h q = some l → l < i) ∧ (IsMax met n m i (Tk c i) (szT m (Tk c i) h)) ∧ (∀ q, q < i → Lex1 met n m q (Tk c q) (c q)) ∧ (∀ q, q < i → ∀ r, r < m → (h r = some q ↔ c q = some r)) ∧ (∀ q r, q < i → c q = some r → r < m)
theorem S2.eq {m n : Nat} {met : Nat → Nat → Bool} {σ0 : St} {i : Nat} {σ : St} {c : Nat → Option Nat} {h : Hs} (s : S2 m n met σ0 i σ c h) : SEq σ0 σ := s.1
theorem S2.bits {m n : Nat} {met : Nat → Nat → Bool} {σ0 : St} {i : Nat} {σ : St} {c : Nat → Option Nat} {h : Hs} (s : S2 m n met σ0 i σ c h) : ∀ q, q < m → bt (σ 26 7) q = Tk c i q := s.2.1
theorem S2.tm {m n : Nat} {met : Nat → Nat → Bool} {σ0 : St} {i : Nat} {σ : St} {c : Nat → Option Nat} {h : Hs} (s : S2 m n met σ0 i σ c h) : ∀ q, m ≤ q → Tk c i q = false := s.2.2.1
theorem S2.cf {m n : Nat} {met : Nat → Nat → Bool} {σ0 : St} {i : Nat} {σ : St} {c : Nat → Option Nat} {h : Hs} (s : S2 m n met σ0 i σ c h) : CF m n σ h := s.2.2.2.1
theorem S2.vt {m n : Nat} {met : Nat → Nat → Bool} {σ0 : St} {i : Nat} {σ : St} {c : Nat → Option Nat} {h : Hs} (s : S2 m n met σ0 i σ c h) : VT met n m i (Tk c i) h := s.2.2.2.2.1
theorem S2.tb {m n : Nat} {met : Nat → Nat → Bool} {σ0 : St} {i : Nat} {σ : St} {c : Nat → Option Nat} {h : Hs} (s : S2 m n met σ0 i σ c h) : ∀ q l, q < m → Tk c i q = true → h q = some l → l < i := s.2.2.2.2.2.1
theorem S2.mx {m n : Nat} {met : Nat → Nat → Bool} {σ0 : St} {i : Nat} {σ : St} {c : Nat → Option Nat} {h : Hs} (s : S2 m n met σ0 i σ c h) : IsMax met n m i (Tk c i) (szT m (Tk c i) h) := s.2.2.2.2.2.2.1
theorem S2.lex {m n : Nat} {met : Nat → Nat → Bool} {σ0 : St} {i : Nat} {σ : St} {c : Nat → Option Nat} {h : Hs} (s : S2 m n met σ0 i σ c h) : ∀ q, q < i → Lex1 met n m q (Tk c q) (c q) := s.2.2.2.2.2.2.2.1
theorem S2.fix {m n : Nat} {met : Nat → Nat → Bool} {σ0 : St} {i : Nat} {σ : St} {c : Nat → Option Nat} {h : Hs} (s : S2 m n met σ0 i σ c h) : ∀ q, q < i → ∀ r, r < m → (h r = some q ↔ c q = some r) := s.2.2.2.2.2.2.2.2.1
theorem S2.fm {m n : Nat} {met : Nat → Nat → Bool} {σ0 : St} {i : Nat} {σ : St} {c : Nat → Option Nat} {h : Hs} (s : S2 m n met σ0 i σ c h) : ∀ q r, q < i → c q = some r → r < m := s.2.2.2.2.2.2.2.2.2
theorem S2.un {m n : Nat} {met : Nat → Nat → Bool} {σ0 : St} {i : Nat} {σ : St} {c : Nat → Option Nat} {h : Hs} (s : S2 m n met σ0 i σ c h) : ∀ q w l, q < m → w < m → h q = some l → h w = some l → q = w := by
  intro q w l hq hw e1 e2
  rcases Nat.lt_or_ge l i with a | a
  · have e3 := (s.fix l a q hq).mp e1
    have e4 := (s.fix l a w hw).mp e2
    rw [e3] at e4
    cases e4
    rfl
  · have t : ∀ r, r < m → h r = some l → Tk c i r = false := by
      intro r hr e
      cases b : Tk c i r with
      | false => rfl
      | true => have := s.tb r l hr b e; omega
    exact s.vt.2 q w l hq (t q hq e1) hw (t w hw e2) e1 e2
theorem S2.skip {m n : Nat} {met : Nat → Nat → Bool} {σ0 : St} {i : Nat} {σ v : St} {c : Nat → Option Nat} {h : Hs} (s : S2 m n met σ0 i σ c h) (hi : i < n) (hE : SEq σ0 v) (h7 : v 26 7 = σ 26 7) (hC : CF m n v h) (hno : ∀ q, q < m → met i q = true → Tk c i q = false → 0 < szT m (Tk c i) h → ¬ IsMax met n m (i + 1) (va_up (Tk c i) q true) (szT m (Tk c i) h - 1)) : S2 m n met σ0 (i + 1) v (va_up c i none) h := by
  have hcc : ∀ q, q < i → c q = va_up c i none q := fun q hq => (up_n c none (by omega)).symm
  have eT : Tk (va_up c i none) (i + 1) = Tk c i := by
    simp only [Tk, up_s]
    exact (Tk_cong hcc).symm
  have hfr : ∀ r, r < m → h r ≠ some i := by
    intro r hr e
    have t : Tk c i r = false := by
      cases b : Tk c i r with
      | false => rfl
      | true => have := s.tb r i hr b e; omega
    obtain ⟨a1, a2⟩ := un_pair s.vt hr t e
    have a3 := (s.vt.1 r i hr t e).2.2
    exact hno r hr a3 t (by omega) (isMax_pair s.mx hi hr t a3 a1 a2.symm)
  refine ⟨hE, fun q hq => ?_, fun q hq => ?_, hC, ?_, fun q l hq e1 e2 => ?_, ?_, fun q hq => ?_, fun q hq r hr => ?_, fun q r hq e => ?_⟩
  · rw [eT, h7]; exact s.bits q hq
  · rw [eT]; exact s.tm q hq
  · rw [eT]
    refine ⟨fun r l h1 h2 h3 => ?_, s.vt.2⟩
    obtain ⟨b1, b2, b3⟩ := s.vt.1 r l h1 h2 h3
    have : l ≠ i := fun e => hfr r h1 (by rw [h3, e])
    exact ⟨by omega, b2, b3⟩
  · rw [eT] at e1
    have := s.tb q l hq e1 e2
    omega
  · rw [eT]
    exact isMax_skip s.mx hi hno
  · by_cases a : q = i
    · subst a
      rw [up_s, ← Tk_cong hcc]
      exact ⟨_, s.mx, hno⟩
    · rw [up_n _ _ a, ← Tk_cong (fun w hw => hcc w (by omega))]
      exact s.lex q (by omega)
  · by_cases a : q = i
    · subst a
      rw [up_s]
      exact ⟨fun e => absurd e (hfr r hr), (fun e => by cases e)⟩
    · rw [up_n _ _ a]
      exact s.fix q (by omega) r hr
  · by_cases a : q = i
    · subst a; rw [up_s] at e; cases e
    · rw [up_n _ _ a] at e; exact s.fm q r (by omega) e
theorem S2.take {m n : Nat} {met : Nat → Nat → Bool} {σ0 : St} {i j : Nat} {σ v : St} {c : Nat → Option Nat} {h h2 : Hs} (s : S2 m n met σ0 i σ c h) (hm : m ≤ 12) (hi : i < n) (hj : j < m) (hE : SEq σ0 v) (h7 : v 26 7 = (σ 26 7) ||| ((1 : Int32) <<< (nI j &&& 31))) (hC : CF m n v h2) (hmet : met i j = true) (hT : Tk c i j = false) (hji : h2 j = some i) (hV : VT met n m (i + 1) (va_up (Tk c i) j true) h2) (hk : ∀ q, q < m → Tk c i q = true → h2 q = h q) (hsz : szT m (va_up (Tk c i) j true) h2 + 1 = szT m (Tk c i) h) (hno : ∀ q, q < j → met i q = true → Tk c i q = false → ¬ IsMax met n m (i + 1) (va_up (Tk c i) q true) (szT m (Tk c i) h - 1)) : S2 m n met σ0 (i + 1) v (va_up c i (some j)) h2 := by
  have hcc : ∀ q, q < i → c q = va_up c i (some j) q := fun q hq => (up_n c (some j) (by omega)).symm
  have eT : Tk (va_up c i (some j)) (i + 1) = va_up (Tk c i) j true := by
    simp only [Tk, up_s]
    rw [Tk_cong hcc]
  have hmx := isMax_pair s.mx hi hj hT hmet hV hsz
  have hun : ∀ r l, r < m → h2 r = some l → l < i + 1 → r = j ∧ l = i ∨ r ≠ j ∧ l < i ∧ h r = some l ∧ Tk c i r = true := by
    intro r l hr e hl
    by_cases a : r = j
    · subst a
      rw [hji] at e
      cases e
      exact Or.inl ⟨rfl, rfl⟩
    · cases b : Tk c i r with
      | true =>
        have e2 := hk r hr b
        rw [e2] at e
        exact Or.inr ⟨a, s.tb r l hr b e, e, rfl⟩
      | false =>
        have := (hV.1 r l hr (by rw [up_n _ _ a]; exact b) e).1
        omega
  refine ⟨hE, fun q hq => ?_, fun q hq => ?_, hC, ?_, fun q l hq e1 e2 => ?_, ?_, fun q hq => ?_, fun q hq r hr => ?_, fun q r hq e => ?_⟩
  · rw [eT, h7, bt_or_sh (by omega) (by omega), s.bits q hq]
    by_cases a : q = j
    · subst a; rw [up_s]; simp
    · rw [up_n _ _ a]; simp [a]
  · rw [eT, up_n _ _ (by omega)]; exact s.tm q hq
  · rw [eT]; exact hV
  · rw [eT] at e1
    by_cases a : q = j
    · subst a
      rw [hji] at e2
      cases e2
      omega
    · rw [up_n _ _ a] at e1
      rw [hk q hq e1] at e2
      have := s.tb q l hq e1 e2
      omega
  · rw [eT]
    have : szT m (va_up (Tk c i) j true) h2 = szT m (Tk c i) h - 1 := by omega
    rw [this]
    exact hmx
  · by_cases a : q = i
    · subst a
      rw [up_s, ← Tk_cong hcc]
      exact ⟨_, s.mx, hj, hmet, hT, by omega, hmx, hno⟩
    · rw [up_n _ _ a, ← Tk_cong (fun w hw => hcc w (by omega))]
      exact s.lex q (by omega)
  · constructor
    · intro e
      rcases hun r q hr e hq with ⟨a, b⟩ | ⟨a, b, d, _⟩
      · rw [b, up_s, a]
      · rw [up_n _ _ (by omega)]
        exact (s.fix q b r hr).mp d
    · intro e
      by_cases a : q = i
      · subst a
        rw [up_s] at e
        cases e
        exact hji
      · rw [up_n _ _ a] at e
        have e2 := (s.fix q (by omega) r hr).mpr e
        have t : Tk c i r = true := by
          cases b : Tk c i r with
          | true => rfl
          | false => have := (s.vt.1 r q hr b e2).1; omega
        rw [hk r hr t]
        exact e2
  · by_cases a : q = i
    · subst a; rw [up_s] at e; cases e; exact hj
    · rw [up_n _ _ a] at e; exact s.fm q r (by omega) e
set_option maxHeartbeats 2000000 in
theorem solve_2 {m n : Nat} {met : Nat → Nat → Bool} {σ0 : St} {Q : St → Prop} (hM0 : CMet m n σ0 met) (h5 : σ0 26 5 = nI n)
    (hQ : ∀ v c, SEq σ0 v → LexS met n m c → (∀ l, l < n → v 28 l = enc (c l)) → (∀ l r, l < n → c l = some r → r < m) → Q v) :
    ∀ (r i : Nat) (σ : St) (c : Nat → Option Nat) (h : Hs), i + r = n → S2 m n met σ0 i σ c h → qX3_solve_l30 Q (r + 1) (nI i) σ := by
  have hm12 := hM0.2.1
  have hn12 := hM0.2.2.1
  intro r
  induction r with
  | zero =>
    intro i σ c h hir hS
    have ei : i = n := by omega
    subst ei
    show qX3_solve_30 (qX3_solve_l30 Q 0) Q _ _
    unfold qX3_solve_30
    refine pk_le i i (fun _ => hQ σ c hS.eq hS.lex (fun l hl => ?_) (fun l r hl e => hS.fm l r hl e)) (fun hc => by omega) (hx := by rw [hS.eq.2 5 (by decide) (by decide)]; exact h5) (ha := by omega) (hb := by omega)
    cases e : c l with
    | none =>
      refine hS.cf.2.2.1 l hl (fun q hq e2 => ?_)
      rw [(hS.fix l hl q hq).mp e2] at e
      cases e
    | some r =>
      have hr := hS.fm l r hl e
      exact hS.cf.2.1 r l hr ((hS.fix l hl r hr).mpr e)
  | succ r ihr =>
    intro i σ c h hir hS
    have hi : i < n := by omega
    show qX3_solve_30 (qX3_solve_l30 Q (r + 1)) Q _ _
    unfold qX3_solve_30
    refine pk_le n i (fun hc => by omega) (fun _ => ?_) (hx := by rw [hS.eq.2 5 (by decide) (by decide)]; exact h5) (ha := by omega) (hb := by omega)
    have lp : ∀ (r2 j : Nat) (v : St), j + r2 = m → SEq σ0 v → v 26 7 = σ 26 7 → CF m n v h → (∀ q, q < j → met i q = true → Tk c i q = false → 0 < szT m (Tk c i) h → ¬ IsMax met n m (i + 1) (va_up (Tk c i) q true) (szT m (Tk c i) h - 1)) → qX3_solve_l40 (qX3_solve_l30 Q (r + 1)) Q (r2 + 1) (nI i) (nI j) v := by
      intro r2
      induction r2 with
      | zero =>
        intro j v hjr hEv h7 hC hno
        have ej : j = m := by omega
        subst ej
        have hMv := hM0.eqS hEv
        show qX3_solve_40 (qX3_solve_l30 Q (r + 1)) (qX3_solve_l40 (qX3_solve_l30 Q (r + 1)) Q 0) Q _ _ _
        unfold qX3_solve_40
        refine pk_le j j (fun _ => ?_) (fun hc => by omega) (hx := hMv.1) (ha := by omega) (hb := by omega)
        unfold qX3_solve_63
        refine pk_le j j (fun _ => ?_) (fun hc => by omega) (hx := hMv.1) (ha := by omega) (hb := by omega)
        unfold qX3_solve_83
        intro x hx
        rw [hx, nI_1]
        exact ihr (i + 1) v (va_up c i none) h (by omega) (hS.skip hi hEv h7 hC hno)
      | succ r2 ih2 =>
        intro j v hjr hEv h7 hC hno
        have hMv := hM0.eqS hEv
        have hjm : j < m := by omega
        show qX3_solve_40 (qX3_solve_l30 Q (r + 1)) (qX3_solve_l40 (qX3_solve_l30 Q (r + 1)) Q (r2 + 1)) Q _ _ _
        unfold qX3_solve_40
        refine pk_le m j (fun hc => by omega) (fun _ => ?_) (hx := hMv.1) (ha := by omega) (hb := by omega)
        refine canTake_ok (T := Tk c i) (h := h) hMv (by rw [hEv.2 5 (by decide) (by decide)]; exact h5) hi hjm (fun q hq => by rw [h7]; exact hS.bits q hq) hS.tm hC hS.vt hS.tb hS.un hS.mx rfl (fun w hw hw7 hwC hwno => ?_) (fun w h2 hw hw7 hwC hmet hT hji hV hkeep hsz => ?_)
        · refine ⟨fun e => absurd rfl e, fun _ x hx => ?_⟩
          rw [hx, nI_1]
          refine ih2 (j + 1) w (by omega) (hEv.tr hw) (hw7.trans h7) hwC (fun q hq a b d => ?_)
          by_cases e : q = j
          · subst e; exact hwno a b d
          · exact hno q (by omega) a b d
        · refine ⟨fun _ => ?_, fun e => absurd e (by decide)⟩
          have hMw := hM0.eqS (hEv.tr hw)
          unfold qX3_solve_63
          refine pk_le m j (fun hc => by omega) (fun _ => ?_) (hx := hMw.1) (ha := by omega) (hb := by omega)
          intro s8 hs8
          unfold qX3_solve_83
          intro x hx
          rw [hx, nI_1]
          have hE8 : SEq w s8 := by
            rw [hs8]
            exact ⟨fun k a _ _ _ _ => su_k w 7 _ a, fun q a _ => su_j w 26 _ a⟩
          have o28 : s8 28 = w 28 := by rw [hs8]; exact su_k (k := 26) (q := 28) w 7 _ (by decide)
          have o29 : s8 29 = w 29 := by rw [hs8]; exact su_k (k := 26) (q := 29) w 7 _ (by decide)
          obtain ⟨f1, f2, f3, f4⟩ := hwC
          refine ihr (i + 1) s8 (va_up c i (some j)) h2 (by omega) (hS.take hm12 hi hjm ((hEv.tr hw).tr hE8) (by rw [hs8, su_s, hw7, h7]) ⟨fun q hq => by rw [o29]; exact f1 q hq, fun q l hq e => by rw [o28]; exact f2 q l hq e, fun l hl hno2 => by rw [o28]; exact f3 l hl hno2, f4⟩ hmet hT hji hV hkeep hsz (fun q hq a b => hno q hq a b (by omega)))
    exact ⟨m + 1, lp m 0 σ (by omega) hS.eq rfl hS.cf (fun q hq => absurd hq (Nat.not_lt_zero _))⟩
theorem solve_ok {m n : Nat} {met : Nat → Nat → Bool} {σ0 : St} {Q : St → Prop} (hM0 : CMet m n σ0 met) (h5 : σ0 26 5 = nI n) (h7 : σ0 26 7 = 0) (h28 : ∀ l, l < n → σ0 28 l = -1) (h29 : ∀ q, q < m → σ0 29 q = -1)
    (hQ : ∀ v c, SEq σ0 v → LexS met n m c → (∀ l, l < n → v 28 l = enc (c l)) → (∀ l r, l < n → c l = some r → r < m) → Q v) : pX3_solve σ0 Q := by
  unfold pX3_solve
  refine ⟨n + 1, solve_1 hM0 h5 (fun v h hE hv7 hC hV hX => ⟨n + 1, ?_⟩) n 0 σ0 (fun _ => none) (fun _ => false) (by omega) (CEq.rf σ0) ⟨fun q hq => h29 q hq, (fun q l _ e => by cases e), fun l hl _ => h28 l hl, (fun q l _ e => by cases e)⟩ (pass_0 (fun _ _ _ => rfl))⟩
  refine solve_2 hM0 h5 hQ n 0 v (fun _ => none) h (by omega) ⟨hE, fun q _ => ?_, fun _ _ => rfl, hC, hV, (fun q l _ e => by cases e), hX, fun q hq => absurd hq (Nat.not_lt_zero _), fun q hq => absurd hq (Nat.not_lt_zero _), fun q r hq => absurd hq (Nat.not_lt_zero _)⟩
  rw [hv7, h7, b_0]
  rfl
