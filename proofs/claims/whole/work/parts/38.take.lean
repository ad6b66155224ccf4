/-! canTake(): whether as many pairs remain with this one -/
def tkH (h : Hs) (i j : Nat) : Hs := fun q => if q = j then some i else if h q = some i then none else h q
theorem tk_VT {met : Nat → Nat → Bool} {n m i j : Nat} {T : Sn} {h : Hs} (hV : VT met n m i T h) : VT met n m (i + 1) (va_up T j true) (tkH h i j) := by
  have hq : ∀ q, va_up T j true q = false → q ≠ j ∧ T q = false := by
    intro q e
    by_cases a : q = j
    · subst a; rw [up_s] at e; cases e
    · rw [up_n _ _ a] at e; exact ⟨a, e⟩
  have hh : ∀ q l, q ≠ j → tkH h i j q = some l → h q = some l ∧ l ≠ i := by
    intro q l a e
    unfold tkH at e
    rw [if_neg a] at e
    by_cases b : h q = some i
    · rw [if_pos b] at e; cases e
    · rw [if_neg b] at e
      exact ⟨e, fun c => b (by rw [e, c])⟩
  refine ⟨fun q l h1 h2 h3 => ?_, fun q w l h1 h2 h3 h4 h5 h6 => ?_⟩
  · obtain ⟨a1, a2⟩ := hq q h2
    obtain ⟨b1, b2⟩ := hh q l a1 h3
    obtain ⟨c1, c2, c3⟩ := hV.1 q l h1 a2 b1
    exact ⟨by omega, c2, c3⟩
  · obtain ⟨a1, a2⟩ := hq q h2
    obtain ⟨b1, b2⟩ := hq w h4
    exact hV.2 q w l h1 a2 h3 b2 (hh q l a1 h5).1 (hh w l b1 h6).1
theorem sz_none {m j : Nat} {T : Sn} {h : Hs} (hn : h j = none) : szT m (va_up T j true) h = szT m T h := by
  refine fb_ct_cong (fun q hq => ?_)
  by_cases a : q = j
  · subst a; rw [up_s, hn]; simp
  · rw [up_n _ _ a]
theorem tk_free {m i j : Nat} {T : Sn} {h : Hs} (hf : ∀ q, q < m → h q ≠ some i) : szT m (va_up T j true) (tkH h i j) = szT m (va_up T j true) h := by
  refine szT_cong (fun q hq e => ?_)
  by_cases a : q = j
  · subst a; rw [up_s] at e; cases e
  · unfold tkH
    rw [if_neg a, if_neg (hf q hq)]
theorem tk_had {met : Nat → Nat → Bool} {n m i j r0 : Nat} {T : Sn} {h : Hs} (hV : VT met n m i T h) (hr : r0 < m) (hT : T r0 = false) (hh : h r0 = some i) (hrj : r0 ≠ j) : szT m (va_up T j true) (tkH h i j) + 1 = szT m (va_up T j true) h := by
  have hgj : va_up (va_up h r0 none) r0 (some i) = h := by
    rw [bx_uu]
    exact up_id h hh
  have e1 := szT_up (l := i) (T := va_up T j true) (h := va_up h r0 none) hr (by rw [up_n _ _ hrj]; exact hT) (up_s _ _ _)
  rw [hgj] at e1
  rw [e1]
  congr 1
  refine szT_cong (fun q hq e => ?_)
  by_cases a : q = j
  · subst a; rw [up_s] at e; cases e
  · rw [up_n _ _ a] at e
    unfold tkH
    rw [if_neg a]
    by_cases b : q = r0
    · subst b; rw [up_s, if_pos hh]
    · rw [up_n _ _ b, if_neg]
      intro c
      exact b (hV.2 q r0 i hq e hr hT c hh)
theorem tk_CF {m n i j : Nat} {σ s : St} {h : Hs} (hF : CF m n σ h) (hi : i < n) (hji : h j ≠ some i) (h29 : ∀ q, q < m → s 29 q = if q = j then nI i else if h q = some i then -1 else σ 29 q) (h28 : ∀ l, l < n → s 28 l = if l = i then nI j else if h j = some l then -1 else σ 28 l) (hun : ∀ q w l, q < m → w < m → h q = some l → h w = some l → q = w) (hjm : j < m) : CF m n s (tkH h i j) := by
  obtain ⟨f1, f2, f3, f4⟩ := hF
  have hh : ∀ q l, q ≠ j → tkH h i j q = some l → h q = some l ∧ l ≠ i := by
    intro q l a e
    unfold tkH at e
    rw [if_neg a] at e
    by_cases b : h q = some i
    · rw [if_pos b] at e; cases e
    · rw [if_neg b] at e
      exact ⟨e, fun c => b (by rw [e, c])⟩
  refine ⟨fun q hq => ?_, fun q l hq e => ?_, fun l hl hno => ?_, fun q l hq e => ?_⟩
  · rw [h29 q hq]
    unfold tkH
    by_cases a : q = j
    · rw [if_pos a, if_pos a]; rfl
    · rw [if_neg a, if_neg a]
      by_cases b : h q = some i
      · rw [if_pos b, if_pos b]; rfl
      · rw [if_neg b, if_neg b]; exact f1 q hq
  · by_cases a : q = j
    · subst a
      have e2 : tkH h i q q = some i := by simp [tkH]
      rw [e2] at e
      cases e
      rw [h28 i hi, if_pos rfl]
    · obtain ⟨b1, b2⟩ := hh q l a e
      rw [h28 l (f4 q l hq b1), if_neg b2, if_neg]
      · exact f2 q l hq b1
      · intro c
        exact a (hun q j l hq hjm b1 c)
  · have hli : l ≠ i := fun a => hno j hjm (by rw [a]; simp [tkH])
    rw [h28 l hl, if_neg hli]
    by_cases b : h j = some l
    · rw [if_pos b]
    · rw [if_neg b]
      refine f3 l hl (fun q hq e => ?_)
      have a : q ≠ j := fun c => b (by rw [← c]; exact e)
      refine hno q hq ?_
      unfold tkH
      rw [if_neg a, if_neg]
      · exact e
      · rw [e]; intro c; cases c; exact hli rfl
  · by_cases a : q = j
    · subst a
      have e2 : tkH h i q q = some i := by simp [tkH]
      rw [e2] at e
      cases e
      exact hi
    · exact f4 q l hq (hh q l a e).1
set_option maxHeartbeats 4000000 in
theorem canTake_ok {m n i j k : Nat} {met : Nat → Nat → Bool} {T : Sn} {σ0 : St} {h : Hs} {Q : Int32 → St → Prop} (hM0 : CMet m n σ0 met) (h5 : σ0 26 5 = nI n) (hi : i < n) (hj : j < m) (hset : ∀ q, q < m → bt (σ0 26 7) q = T q) (hTm : ∀ q, m ≤ q → T q = false) (hF : CF m n σ0 h) (hV : VT met n m i T h) (hTb : ∀ q l, q < m → T q = true → h q = some l → l < i) (hun : ∀ q w l, q < m → w < m → h q = some l → h w = some l → q = w) (hk : IsMax met n m i T k) (hs : szT m T h = k)
    (hQ0 : ∀ v, SEq σ0 v → v 26 7 = σ0 26 7 → CF m n v h → (met i j = true → T j = false → 0 < k → ¬ IsMax met n m (i + 1) (va_up T j true) (k - 1)) → Q 0 v)
    (hQ1 : ∀ v h2, SEq σ0 v → v 26 7 = σ0 26 7 → CF m n v h2 → met i j = true → T j = false → h2 j = some i → VT met n m (i + 1) (va_up T j true) h2 → (∀ q, q < m → T q = true → h2 q = h q) → szT m (va_up T j true) h2 + 1 = k → Q 1 v) : pX3_canTake (nI i) (nI j) σ0 Q := by
  have hm12 := hM0.2.1
  have hn12 := hM0.2.2.1
  obtain ⟨f1, f2, f3, f4⟩ := hF
  have hF : CF m n σ0 h := ⟨f1, f2, f3, f4⟩
  have hj1 : Int32.toNatClampNeg (nI j) = j := nI_clamp (by omega)
  have hi1 : Int32.toNatClampNeg (nI i) = i := nI_clamp (by omega)
  have hin : vp_in (nI j) 12 := vp_in_nI (by omega) (by decide)
  have hini : vp_in (nI i) 12 := vp_in_nI (by omega) (by decide)
  unfold pX3_canTake
  simp only [hj1, hi1]
  intro x1 hx1
  refine ⟨hini, fun hz => ?_, fun hz => ⟨fun hz2 => ⟨hini, fun hne => ⟨hini, fun x2 hx2 => ⟨hin, fun x3 hx3 => ?_⟩⟩, fun he => ?_⟩, fun hz2 => ?_⟩⟩
  · rw [hx1, bit_0 (by omega), hM0.2.2.2 i j hi hj] at hz
    exact hQ0 σ0 (SEq.rf σ0) rfl hF (fun a => by rw [hz] at a; cases a)
  · -- they aren't a pair yet
    rw [hx1, bit_0 (by omega), hM0.2.2.2 i j hi hj] at hz
    rw [hx1, bit_0 (by omega), hset j hj] at hz2
    have hmet : met i j = true := by
      cases e : met i j with
      | true => rfl
      | false => exact absurd e hz
    have hji : h j ≠ some i := fun e => hne (f2 j i hj e)
    have hT'b : ∀ q l, q < m → va_up T j true q = true → tkH h i j q = some l → l < i + 1 := by
      intro q l hq e1 e2
      by_cases a : q = j
      · subst a
        have e3 : tkH h i q q = some i := by simp [tkH]
        rw [e3] at e2
        cases e2
        omega
      · rw [up_n _ _ a] at e1
        unfold tkH at e2
        rw [if_neg a] at e2
        by_cases b : h q = some i
        · rw [if_pos b] at e2; cases e2
        · rw [if_neg b] at e2
          have := hTb q l hq e1 e2
          omega
    have hjs : tkH h i j j = some i := by simp [tkH]
    have hTk : ∀ q, q < m → T q = true → tkH h i j q = h q := by
      intro q hq e
      have a : q ≠ j := fun c => by subst c; rw [hz2] at e; cases e
      unfold tkH
      rw [if_neg a, if_neg]
      intro c
      have := hTb q i hq e c
      omega
    have hV1 := tk_VT (j := j) hV
    obtain ⟨mk1, mk2⟩ := mk_pair hV1 hi hj hz2 hmet
    have mk3 := hk.2 _ mk1
    rw [mk2] at mk3
    have L1 : szT m T h = szT m (va_up T j true) h + (if (h j).isSome = true then 1 else 0) := by
      cases e : h j with
      | none => rw [sz_none e]; simp
      | some l => rw [szT_blk hj hz2 (by rw [e]; rfl)]; simp
    refine keep_ok (fun s4 hs4 hs4k => ?_)
    have hSE4 : ∀ k, k ≠ 30 → k ≠ 31 → s4 k = σ0 k := hs4
    -- the state behind the writes
    have fin : ∀ (s9 : St) (x : Int32), (∀ k, k ≠ 28 → k ≠ 29 → s9 k = s4 k) → (∀ q, q < m → s9 29 q = if q = j then nI i else if h q = some i then -1 else σ0 29 q) → (∀ l, l < n → s9 28 l = if l = i then nI j else if h j = some l then -1 else σ0 28 l) → (x = 1 ∧ szT m (va_up T j true) (tkH h i j) + 1 = k ∨ x = 0 ∧ szT m (va_up T j true) (tkH h i j) + 2 = k) → qX3_canTake_113 Q (nI i) x1 x s9 := by
      intro s9 x h9 h29 h28 hx
      have hC9 := tk_CF hF hi hji h29 h28 hun hj
      have hS9 : SEq σ0 s9 := ⟨fun k a b c d e => by rw [h9 k b c, hs4 k d e], fun q _ _ => by rw [h9 26 (by decide) (by decide), hs4 26 (by decide) (by decide)]⟩
      have e7 : s9 26 = σ0 26 := by rw [h9 26 (by decide) (by decide), hs4 26 (by decide) (by decide)]
      unfold qX3_canTake_113
      intro x10 hx10
      rw [nI_1] at hx10
      rw [hx10]
      rcases hx with ⟨ex, hsz⟩ | ⟨ex, hsz⟩
      · subst ex
        refine ⟨1, ?_⟩
        show qX3_canTake_120 (qX3_canTake_l120 Q 0) Q _ _ _ _
        unfold qX3_canTake_120
        have h177 : qX3_canTake_177 Q 1 s9 := by
          unfold qX3_canTake_177
          refine ⟨fun _ => ⟨rfl, ?_⟩, fun e => absurd e (by decide)⟩
          exact hQ1 s9 _ hS9 (by rw [e7]) hC9 hmet hz2 hjs hV1 hTk hsz
        exact ⟨fun _ => h177, fun _ => ⟨fun _ => h177, fun e => absurd e (by decide)⟩⟩
      · subst ex
        refine ⟨(n - (i + 1)) + 2, ?_⟩
        refine tries_ok (m := m) (n := n) (i := i) (met := met) (T' := va_up T j true) (σ0 := s9) (h1 := tkH h i j) (hM0.eqS hS9) (by rw [e7]; exact h5) (fun q hq => ?_) (fun q hq => ?_) hT'b hV1 (fun v h2 hEv hCv hVv hTv hsv => ?_) (fun v hEv hmx => ?_) (n - (i + 1)) (i + 1) s9 (fun _ => false) (by omega) (Nat.le_refl _) (CEq.rf s9) hC9 (fun q hq e => by cases e) (fun l h1 h2 => by omega)
        · rw [e7, hx1, bt_or_sh (by omega) (by omega), hset q hq]
          by_cases a : q = j
          · subst a; rw [up_s]; simp
          · rw [up_n _ _ a]; simp [a]
        · rw [up_n _ _ (by omega)]; exact hTm q hq
        · refine hQ1 v h2 (hS9.tr hEv.S) (by rw [hEv.2 7 (by decide), e7]) hCv hmet hz2 ?_ hVv (fun q hq e => ?_) (by omega)
          · rw [hTv j hj (up_s _ _ _)]; exact hjs
          · have a : q ≠ j := fun c => by subst c; rw [hz2] at e; cases e
            rw [hTv q hq (by rw [up_n _ _ a]; exact e)]
            exact hTk q hq e
        · refine restore_ok (fun w hw hwk => ⟨rfl, ?_⟩)
          have e30 : v 30 = s4 30 := by rw [hEv.1 30 (by decide) (by decide) (by decide), h9 30 (by decide) (by decide)]
          have e31 : v 31 = s4 31 := by rw [hEv.1 31 (by decide) (by decide) (by decide), h9 31 (by decide) (by decide)]
          have w28 : ∀ q, q < 12 → w 28 q = σ0 28 q := fun q hq => by rw [(hwk q hq).1, e30, (hs4k q hq).1]
          have w29 : ∀ q, q < 12 → w 29 q = σ0 29 q := fun q hq => by rw [(hwk q hq).2, e31, (hs4k q hq).2]
          have hSw : SEq v w := ⟨fun k _ b c _ _ => hw k b c, fun q _ _ => by rw [hw 26 (by decide) (by decide)]⟩
          refine hQ0 w ((hS9.tr hEv.S).tr hSw) (by rw [hw 26 (by decide) (by decide), hEv.2 7 (by decide), e7]) ⟨fun q hq => by rw [w29 q (by omega)]; exact f1 q hq, fun q l hq e => by rw [w28 l (by have := f4 q l hq e; omega)]; exact f2 q l hq e, fun l hl hno => by rw [w28 l (by omega)]; exact f3 l hl hno, f4⟩ (fun _ _ _ e => ?_)
          have := isMax_one e hmx
          omega
    -- the two writes at the end
    have put : ∀ (s : St), (∀ k, k ≠ 28 → k ≠ 29 → s k = s4 k) → (∀ q, q < m → q ≠ j → s 29 q = if h q = some i then -1 else σ0 29 q) → (∀ l, l < n → l ≠ i → s 28 l = if h j = some l then -1 else σ0 28 l) → (x2 < 0 ∧ szT m (va_up T j true) (tkH h i j) + 1 = k ∨ ¬ x2 < 0 ∧ (¬ 0 ≤ x3 ∧ szT m (va_up T j true) (tkH h i j) + 1 = k ∨ 0 ≤ x3 ∧ szT m (va_up T j true) (tkH h i j) + 2 = k)) → qX3_canTake_84 Q (nI i) (nI j) x1 x2 x3 s := by
      intro s hss h29 h28 hcase
      unfold qX3_canTake_84
      simp only [hi1, hj1]
      refine ⟨hini, fun s8 hs8 => ⟨hin, fun s9 hs9 => ?_⟩⟩
      have g : ∀ k, k ≠ 28 → k ≠ 29 → s9 k = s4 k := fun k a b => by rw [hs9, su_k s8 j _ b, hs8, su_k s i _ a]; exact hss k a b
      have g29 : ∀ q, q < m → s9 29 q = if q = j then nI i else if h q = some i then -1 else σ0 29 q := by
        intro q hq
        by_cases a : q = j
        · subst a; rw [hs9, su_s, if_pos rfl]
        · rw [hs9, su_j _ _ _ a, hs8, su_k (k := 28) (q := 29) s i _ (by decide), if_neg a]; exact h29 q hq a
      have g28 : ∀ l, l < n → s9 28 l = if l = i then nI j else if h j = some l then -1 else σ0 28 l := by
        intro l hl
        rw [hs9, su_k (k := 29) (q := 28) s8 j _ (by decide)]
        by_cases a : l = i
        · subst a; rw [hs8, su_s, if_pos rfl]
        · rw [hs8, su_j _ _ _ a, if_neg a]; exact h28 l hl a
      refine ⟨fun c => ?_, fun c => ⟨fun d => ?_, fun d => ?_⟩⟩
      · rcases hcase with ⟨_, b⟩ | ⟨a, _⟩
        · unfold qX3_canTake_108; exact fin s9 1 g g29 g28 (Or.inl ⟨rfl, b⟩)
        · exact absurd c a
      · rcases hcase with ⟨a, _⟩ | ⟨_, ⟨b, _⟩ | ⟨_, b⟩⟩
        · exact absurd a c
        · exact absurd d b
        · exact fin s9 0 g g29 g28 (Or.inr ⟨rfl, b⟩)
      · rcases hcase with ⟨a, _⟩ | ⟨_, ⟨_, b⟩ | ⟨b, _⟩⟩
        · exact absurd a c
        · unfold qX3_canTake_108; exact fin s9 1 g g29 g28 (Or.inl ⟨rfl, b⟩)
        · exact absurd b d
    -- the other left is let go
    have let71 : ∀ (s : St), (∀ k, k ≠ 28 → k ≠ 29 → s k = s4 k) → s 28 = σ0 28 → (∀ q, q < m → q ≠ j → s 29 q = if h q = some i then -1 else σ0 29 q) → (x2 < 0 ∧ szT m (va_up T j true) (tkH h i j) + 1 = k ∨ ¬ x2 < 0 ∧ (¬ 0 ≤ x3 ∧ szT m (va_up T j true) (tkH h i j) + 1 = k ∨ 0 ≤ x3 ∧ szT m (va_up T j true) (tkH h i j) + 2 = k)) → qX3_canTake_71 Q (nI i) (nI j) x1 x2 x3 s := by
      intro s hss h28 h29 hcase
      unfold qX3_canTake_71
      cases e : h j with
      | none =>
        have e3 : x3 = -1 := by rw [hx3, f1 j hj, e]; rfl
        refine ⟨fun _ => put s hss h29 (fun l hl _ => ?_) hcase, fun c => absurd (by rw [e3]; exact neg1_lt) c⟩
        rw [h28, if_neg]
        rw [e]; intro c; cases c
      | some l0 =>
        have e3 : x3 = nI l0 := by rw [hx3, f1 j hj, e]; rfl
        have hl0 := f4 j l0 hj e
        have hc0 : Int32.toNatClampNeg (nI l0) = l0 := nI_clamp (by omega)
        refine ⟨fun c => absurd (by rw [e3] at c; exact c) (nI_pos (by omega)), fun _ => ⟨by rw [e3]; exact vp_in_nI (by omega) (by decide), fun s7 hs7 => ?_⟩⟩
        rw [e3, hc0] at hs7
        refine put s7 (fun k a b => by rw [hs7, su_k s l0 _ a]; exact hss k a b) (fun q hq a => by rw [hs7, su_k (k := 28) (q := 29) s l0 _ (by decide)]; exact h29 q hq a) (fun l hl a => ?_) hcase
        rw [hs7]
        by_cases b : l = l0
        · subst b; rw [su_s, if_pos e]
        · rw [su_j _ _ _ b, h28, if_neg]
          rw [e]; intro c; cases c; exact b rfl
    have g29 : s4 29 = σ0 29 := hs4 29 (by decide) (by decide)
    have g28 : s4 28 = σ0 28 := hs4 28 (by decide) (by decide)
    by_cases hex : ∃ r0, r0 < m ∧ h r0 = some i
    · obtain ⟨r0, r1, r2⟩ := hex
      have e2 : x2 = nI r0 := by rw [hx2, f2 r0 i r1 r2]
      have hr0 : Int32.toNatClampNeg (nI r0) = r0 := nI_clamp (by omega)
      have hnn : ¬ x2 < 0 := by rw [e2]; exact nI_pos (by omega)
      have hrj : r0 ≠ j := fun c => by subst c; exact hji r2
      have hTr : T r0 = false := by
        cases e : T r0 with
        | false => rfl
        | true => have := hTb r0 i r1 e r2; omega
      have L2 := tk_had (j := j) hV r1 hTr r2 hrj
      refine ⟨fun c => absurd c hnn, fun _ => ⟨by rw [e2]; exact vp_in_nI (by omega) (by decide), fun s6 hs6 => ?_⟩⟩
      rw [e2, hr0] at hs6
      refine let71 s6 (fun k a b => by rw [hs6, su_k s4 r0 _ b]) (by rw [hs6, su_k (k := 29) (q := 28) s4 r0 _ (by decide)]; exact g28) (fun q hq a => ?_) (Or.inr ⟨hnn, ?_⟩)
      · rw [hs6]
        by_cases b : q = r0
        · subst b; rw [su_s, if_pos r2]
        · rw [su_j _ _ _ b, g29, if_neg]
          intro c
          exact b (hun q r0 i hq r1 c r2)
      · cases e : h j with
        | none =>
          have e3 : x3 = -1 := by rw [hx3, f1 j hj, e]; rfl
          rw [e] at L1
          simp at L1
          exact Or.inl ⟨by rw [e3]; decide, by omega⟩
        | some l0 =>
          have e3 : x3 = nI l0 := by rw [hx3, f1 j hj, e]; rfl
          have hl0 := f4 j l0 hj e
          rw [e] at L1
          simp at L1
          exact Or.inr ⟨by rw [e3]; exact nI_pos' (by omega), by omega⟩
    · have hfr : ∀ q, q < m → h q ≠ some i := fun q hq e => hex ⟨q, hq, e⟩
      have e2 : x2 = -1 := by rw [hx2, f3 i hi hfr]
      have hneg : x2 < 0 := by rw [e2]; exact neg1_lt
      have L2 := tk_free (j := j) (T := T) hfr
      refine ⟨fun _ => let71 s4 (fun k _ _ => rfl) g28 (fun q hq _ => ?_) (Or.inl ⟨hneg, ?_⟩), fun c => absurd hneg c⟩
      · rw [g29, if_neg (hfr q hq)]
      · have : szT m T h ≤ szT m (va_up T j true) h + 1 := by
          rw [L1]
          split <;> omega
        omega
  · -- they are a pair
    rw [hx1, bit_0 (by omega), hM0.2.2.2 i j hi hj] at hz
    rw [hx1, bit_0 (by omega), hset j hj] at hz2
    have hmet : met i j = true := by
      cases e : met i j with
      | true => rfl
      | false => exact absurd e hz
    have hji : h j = some i := by
      by_cases hex : ∃ r0, r0 < m ∧ h r0 = some i
      · obtain ⟨r0, r1, r2⟩ := hex
        have e2 := f2 r0 i r1 r2
        rw [he] at e2
        have : j = r0 := by
          have c1 : Int32.toNatClampNeg (nI r0) = r0 := nI_clamp (by omega)
          rw [← hj1, e2, c1]
        rw [this]; exact r2
      · rw [f3 i hi (fun q hq e => hex ⟨q, hq, e⟩)] at he
        exact absurd (show nI j < 0 by rw [← he]; exact neg1_lt) (nI_pos (by omega))
    obtain ⟨a1, a2⟩ := un_pair hV hj hz2 hji
    exact hQ1 σ0 h (SEq.rf σ0) rfl hF hmet hz2 hji a1 (fun _ _ _ => rfl) (by omega)
  · rw [hx1, bit_0 (by omega), hset j hj] at hz2
    exact hQ0 σ0 (SEq.rf σ0) rfl hF (fun _ a => absurd a hz2)
