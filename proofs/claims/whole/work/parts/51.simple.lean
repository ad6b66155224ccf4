/-! wind(), off(), known() -/
theorem c_isYear {x : Int32} {σ : St} {Q : Int32 → St → Prop} (h1 : (∀ y, y < 6 → x ≠ nI y) → Q 0 σ) (h2 : ∀ y, y < 6 → x = nI y → Q 1 σ) : pX8_isYear x σ Q := by
  unfold pX8_isYear
  refine ⟨fun h => h1 (fun y hy e => ?_), fun h0 => ⟨fun h => h1 (fun y hy e => ?_), fun h => ?_⟩⟩
  · rw [e] at h; exact nI_pos (by omega) h
  · rw [e] at h; exact nI_ge hy (by decide) h
  · obtain ⟨y, hy, e⟩ := ix1 (n := 6) h0 h (by decide)
    exact h2 y hy e
theorem c_isDay {x1 x2 : Int32} {σ : St} {Q : Int32 → St → Prop} (h1 : (∀ y dy, y < 6 → dy < 30 → x1 = nI y → x2 ≠ nI dy) → Q 0 σ) (h2 : ∀ y dy, y < 6 → dy < 30 → x1 = nI y → x2 = nI dy → Q 1 σ) : pX8_isDay x1 x2 σ Q := by
  unfold pX8_isDay
  refine c_isYear (fun h => ⟨fun _ => h1 (fun y dy hy _ e => absurd e (h y hy)), fun h => absurd rfl h⟩) (fun y hy e => ⟨fun h => absurd h (by decide), fun _ => ⟨fun h => h1 (fun _ dy _ hd _ e2 => ?_), fun h0 => ⟨fun h => h1 (fun _ dy _ hd _ e2 => ?_), fun h => ?_⟩⟩⟩)
  · rw [e2] at h; exact nI_pos (by omega) h
  · rw [e2] at h; exact nI_ge hd (by decide) h
  · obtain ⟨dy, hd, e2⟩ := ix1 (n := 30) h0 h (by decide)
    exact h2 y dy hy hd e e2
theorem m_isDay {x1 x2 : Int32} {u : SM} {Q : Int32 → SM → Prop} (h1 : (∀ y dy, y < 6 → dy < 30 → x1 = nI y → x2 ≠ nI dy) → Q 0 u) (h2 : ∀ y dy, y < 6 → dy < 30 → x1 = nI y → x2 = nI dy → Q 1 u) : pX9_isDay x1 x2 u Q := by
  unfold pX9_isDay
  refine ⟨fun h => h1 (fun y dy hy _ e _ => ?_), fun h0 => ⟨fun h => h1 (fun y dy hy _ e _ => ?_), fun h => ⟨fun h3 => h1 (fun _ dy _ hd _ e2 => ?_), fun h3 => ⟨fun h4 => h1 (fun _ dy _ hd _ e2 => ?_), fun h4 => ?_⟩⟩⟩⟩
  · rw [e] at h; exact nI_pos (by omega) h
  · rw [e] at h; exact nI_ge hy (by decide) h
  · rw [e2] at h3; exact nI_pos (by omega) h3
  · rw [e2] at h4; exact nI_ge hd (by decide) h4
  · obtain ⟨y, hy, e⟩ := ix1 (n := 6) h0 h (by decide)
    obtain ⟨dy, hd, e2⟩ := ix1 (n := 30) h3 h4 (by decide)
    exact h2 y dy hy hd e e2
theorem nI_inj {a b : Nat} (h : nI a = nI b) (ha : a < 2 ^ 31) (hb : b < 2 ^ 31) : a = b := (nI_eq ha hb).mp h
theorem dt_nI (y dy : Nat) : nI y * 30 + nI dy = nI (30 * y + dy) := by
  rw [show (30 : Int32) = nI 30 from rfl, pk_mul, nI_add, Nat.mul_comm]
theorem dt_nI2 (y dy : Nat) : 30 * nI y + nI dy = nI (30 * y + dy) := by
  rw [show (30 : Int32) = nI 30 from rfl, pk_mul, nI_add]
theorem hr_nI (y dy x : Nat) : 10 * (30 * nI y + nI dy) + nI x = nI (10 * (30 * y + dy) + x) := by
  rw [dt_nI2, show (10 : Int32) = nI 10 from rfl, pk_mul, nI_add]
theorem sim_wind {σ : St} {u : SM} (hR : RelCM σ u) (x1 x2 x3 : Int32) : pX8_wind x1 x2 x3 σ (fun r v => pX9_wind x1 x2 x3 u (fun r2 u2 => r = r2 ∧ RelCM v u2)) := by
  obtain ⟨A, hW, hC, hM, hK⟩ := hR
  by_cases hg : ∃ y dy w, y < 6 ∧ dy < 30 ∧ w < 4 ∧ x1 = nI y ∧ x2 = nI dy ∧ x3 = nI w
  · obtain ⟨y, dy, w, hy, hd, hw, e1, e2, e3⟩ := hg
    subst e1 e2 e3
    unfold pX8_wind
    refine c_isDay (fun h => absurd rfl (h y dy hy hd rfl)) (fun _ _ _ _ _ _ => ⟨fun h => absurd h (by decide), fun _ => ⟨fun h => absurd h (nI_pos (by omega)), fun _ => pk_lt w 4 (fun _ => ?_) (fun h => by omega)⟩⟩)
    unfold pX8_dateOf
    rw [dt_nI]
    refine ⟨vp_in_nI (by omega) (by decide), fun s5 hs5 => ?_⟩
    rw [nI_clamp (n := 30 * y + dy) (by omega)] at hs5
    unfold pX9_wind
    intro t1 ht1
    refine m_isDay (fun h => absurd rfl (h y dy hy hd rfl)) (fun _ _ _ _ _ _ => ⟨fun h => absurd h (by decide), fun _ => ⟨fun h => absurd h (nI_pos (by omega)), fun _ => pk_le w 3 (fun _ => ?_) (fun h => by omega)⟩⟩)
    rw [dt_nI2]
    refine ⟨vp_in_nI (by omega) (by decide), fun t4 ht4 => ⟨rfl, ?_⟩⟩
    rw [nI_clamp (n := 30 * y + dy) (by omega)] at ht4
    have hAE : AE A (ap A 12 (30 * y + dy) w) := ⟨by rw [ap_k A _ _ (by decide)], by rw [ap_k A _ _ (by decide)], by rw [ap_k A _ _ (by decide)], fun k a b => (ap_k A _ _ (by omega)).symm⟩
    have e0 : ap A 12 (30 * y + dy) w 0 = A 0 := ap_k A _ _ (by decide)
    have e11 : ap A 12 (30 * y + dy) w 11 = A 11 := ap_k A _ _ (by decide)
    have e10 : ap A 12 (30 * y + dy) w 10 = A 10 := ap_k A _ _ (by decide)
    have eas : aAs (ap A 12 (30 * y + dy) w) = aAs A := by unfold aAs; rw [e0]
    have hsh : aSh A = aSh (ap A 12 (30 * y + dy) w) := by unfold aSh aKd; rw [e0, e10]
    have hWB : WF (ap A 12 (30 * y + dy) w) := hAE.wf hW (by rw [e0]; exact hW.now) (by rw [e0]; exact Nat.le_refl _) (by rw [e0]; exact hW.asOf) (by rw [e11]; exact hW.off) (fun q => by
      by_cases a : q = 30 * y + dy
      · subst a; rw [ap_s]; exact hw
      · rw [ap_j A 12 _ a]; exact hW.wd q)
    have k1 : ∀ k, k ≠ 10 → s5 k = σ k := fun k hk => by rw [hs5, su_k _ _ _ hk]
    refine ⟨ap A 12 (30 * y + dy) w, hWB, ?_, ?_, ?_⟩
    · refine hAE.rc hC (by rw [k1 0 (by decide), e0]; exact hC.now) (by rw [k1 0 (by decide), eas]; exact hC.asOf) (by rw [k1 12 (by decide), ← hsh]; exact hC.shown) (fun i => ?_) (by rw [k1 11 (by decide), e11]; exact hC.shut) (fun k _ _ a _ _ => k1 k a) (by rw [k1 12 (by decide)])
      rw [hs5]
      by_cases a : i = 30 * y + dy
      · subst a; rw [su_s, ap_s]
      · rw [su_j _ _ _ a, ap_j A 12 _ a]; exact hC.wind i
    · have g0 : ∀ j, j ≠ 0 → t4.1 0 j = u.1 0 j := fun j hj => by rw [ht4, mk_k _ _ _ (by decide), ht1, mk_j _ _ _ hj]
      refine hAE.rm hM (by rw [g0 7 (by decide), e0]; exact hM.now) (by rw [g0 8 (by decide), eas]; exact hM.asOf) (fun i => ?_) (fun i => ?_) (fun j hj => g0 j (by omega)) (fun k a b => ?_)
      · rw [ht4, mk_k _ _ _ (by decide), ht1, mk_k _ _ _ (by decide), e11]; exact hM.row 11 (by omega) i
      · rw [ht4]
        by_cases a : i = 30 * y + dy
        · subst a; rw [mk_s, ap_s]
        · rw [mk_j _ _ _ a, ht1, mk_k _ _ _ (by decide), ap_j A 12 _ a]; exact hM.row 12 (by omega) i
      · rw [ht4, mk_k _ _ _ (by omega), ht1, mk_k _ _ _ (by omega)]
    · exact Cache_cong hW hWB hK (fun k a b => k1 k (by omega)) (fun d _ hn => by rw [← k1 19 (by decide)]; exact hn) (fun d _ _ => Or.inl (hAE.sd hsh d))
  · have fin : pX9_wind x1 x2 x3 u (fun r2 u2 => (0 : Int32) = r2 ∧ RelCM σ u2) := by
      unfold pX9_wind
      intro t1 ht1
      have rk : (0 : Int32) = 0 ∧ RelCM σ t1 := ⟨rfl, relK hW hC hM (CE.rf σ) hK (by rw [ht1]; exact MEq.t0 u 0)⟩
      refine m_isDay (fun _ => ⟨fun _ => rk, fun h => absurd rfl h⟩) (fun y dy hy hd e1 e2 => ⟨fun _ => rk, fun _ => ⟨fun _ => rk, fun h0 => ⟨fun h => ?_, fun _ => rk⟩⟩⟩)
      obtain ⟨w, hw, e3⟩ := ix3 (n := 3) h0 h (by decide)
      exact absurd ⟨y, dy, w, hy, hd, hw, e1, e2, e3⟩ hg
    unfold pX8_wind
    refine c_isDay (fun _ => ⟨fun _ => fin, fun h => absurd rfl h⟩) (fun y dy hy hd e1 e2 => ⟨fun _ => fin, fun _ => ⟨fun _ => fin, fun h0 => ⟨fun h => ?_, fun _ => fin⟩⟩⟩)
    obtain ⟨w, hw, e3⟩ := ix2 (n := 4) h0 h (by decide)
    exact absurd ⟨y, dy, w, hy, hd, hw, e1, e2, e3⟩ hg
theorem c_isOff {A : AS} {σ : St} {Q : Int32 → St → Prop} {d x : Nat} (hC : RC σ A) (hd : d < 180) (hx : x < 10) (hQ : Q (b2i (decide (A 11 (10 * d + x) ≠ 0))) σ) : pX7_isOff (nI d) (nI x) σ Q := by
  unfold pX7_isOff
  rw [nI_clamp (n := d) (by omega)]
  have e := hC.shut d hd x (by omega)
  rw [decide_eq_true hx, Bool.true_and] at e
  refine ⟨vp_in_nI hd (by decide), fun h => ?_, fun h => ?_⟩
  · rw [bit_0 (by omega), e] at h
    rw [h] at hQ; exact hQ
  · rw [bit_0 (by omega), e] at h
    have h2 : decide (A 11 (10 * d + x) ≠ 0) = true := by
      cases e2 : decide (A 11 (10 * d + x) ≠ 0) with
      | true => rfl
      | false => exact absurd e2 h
    rw [h2] at hQ; exact hQ
theorem c_hasIn {A : AS} {σ : St} {Q : Int32 → St → Prop} {d x : Nat} (hC : RC σ A) (hW : WF A) (hd : d < 180) (hx : x < 10) (h0 : (∀ t, t < A 0 9 → ¬ (aDt A t = d ∧ A 7 t / 60 = x)) → Q 0 σ) (h1 : (∃ t, t < A 0 9 ∧ aDt A t = d ∧ A 7 t / 60 = x) → Q 1 σ) : pX2_hasIn (nI d) (nI x) σ Q := by
  have h300 := hW.n
  unfold pX2_hasIn
  refine lpS (S := Unit) (fun n i _ => qX2_hasIn_l2 Q n (nI d) (nI x) i σ) (fun i _ => ∀ t, t < i → ¬ (aDt A t = d ∧ A 7 t / 60 = x)) (A 0 9) (fun n _ hI => ?_) (fun n i _ hi hI ih => ?_) () (fun t ht => absurd ht (Nat.not_lt_zero _))
  · show qX2_hasIn_2 (qX2_hasIn_l2 Q n) Q _ _ _ _
    unfold qX2_hasIn_2
    exact pk_le (A 0 9) (A 0 9) (fun _ => h0 hI) (fun h => by omega) (hx := hC.num)
  · have hdt := dt_lt hW hi
    have hm := (hW.tel i hi).2.2.1
    show qX2_hasIn_2 (qX2_hasIn_l2 Q n) Q _ _ _ _
    unfold qX2_hasIn_2 pX2_hour
    rw [nI_clamp (n := i) (by omega)]
    have skip : ¬ (aDt A i = d ∧ A 7 i / 60 = x) → qX2_hasIn_31 (qX2_hasIn_l2 Q n) Q (nI d) (nI x) (nI i) σ := by
      intro h
      unfold qX2_hasIn_31
      intro z hz
      rw [hz, nI_1]
      refine ih () (fun t ht => ?_)
      by_cases a : t = i
      · subst a; exact h
      · exact hI t (by omega)
    have hin : vp_in (nI i) 300 := vp_in_nI (by omega) (by decide)
    refine pk_le (A 0 9) i (fun h => by omega) (fun _ => ⟨hin, pk_ne (aDt A i) d (fun h => skip (fun a => h a.1)) (fun h => ⟨hin, ?_⟩) (hx := hC.date i hi)⟩) (hx := hC.num)
    rw [hC.min, show (60 : Int32) = nI 60 from rfl, pk_div (by omega) (by decide) (by decide)]
    exact pk_ne (A 7 i / 60) x (fun h2 => skip (fun a => h2 a.2)) (fun h2 => h1 ⟨i, hi, h, h2⟩)
theorem m_off_loop {A : AS} {u : SM} {Q : Int32 → SM → Prop} {y dy x : Nat} {v4 : Int32} (hM : RM u A) (hW : WF A) (hy : y < 6) (hdy : dy < 30) (hx : x < 10) (h0 : v4 = 0 ∨ (∀ t, t < A 0 9 → ¬ (aDt A t = 30 * y + dy ∧ A 7 t / 60 = x)) → qX9_off_102 Q (nI y) (nI dy) (nI x) v4 u) (h1 : ¬ v4 = 0 → (∃ t, t < A 0 9 ∧ aDt A t = 30 * y + dy ∧ A 7 t / 60 = x) → Q 0 u) : ∃ n, qX9_off_l44 Q n (nI y) (nI dy) (nI x) v4 0 u := by
  have h300 := hW.n
  refine lpS (S := Unit) (fun n i _ => qX9_off_l44 Q n (nI y) (nI dy) (nI x) v4 i u) (fun i _ => ∀ t, t < i → ¬ (aDt A t = 30 * y + dy ∧ A 7 t / 60 = x)) (A 0 9) (fun n _ hI => ?_) (fun n i _ hi hI ih => ?_) () (fun t ht => absurd ht (Nat.not_lt_zero _))
  · show qX9_off_44 (qX9_off_l44 Q n) Q _ _ _ _ _ _
    unfold qX9_off_44
    exact pk_le (A 0 9) (A 0 9) (fun _ => h0 (Or.inr hI)) (fun h => by omega) (hx := hM.num)
  · have htel := hW.tel i hi
    have hdt := dt_iff hW (y := y) (dy := dy) hi hdy
    show qX9_off_44 (qX9_off_l44 Q n) Q _ _ _ _ _ _
    unfold qX9_off_44
    rw [nI_clamp (n := i) (by omega)]
    have skip : ¬ (aDt A i = 30 * y + dy ∧ A 7 i / 60 = x) → qX9_off_96 (qX9_off_l44 Q n) Q (nI y) (nI dy) (nI x) v4 (nI i) u := by
      intro h
      unfold qX9_off_96
      intro z hz
      rw [hz, nI_1]
      refine ih () (fun t ht => ?_)
      by_cases a : t = i
      · subst a; exact h
      · exact hI t (by omega)
    have hin : vp_in (nI i) 300 := vp_in_nI (by omega) (by decide)
    refine pk_le (A 0 9) i (fun h => by omega) (fun _ => ⟨fun h => h0 (Or.inl h), fun hv => ⟨hin, pk_ne (A 5 i) y (fun h => skip (fun a => h (hdt.mp a.1).1)) (fun h => ⟨hin, pk_ne (A 6 i) dy (fun h2 => skip (fun a => h2 (hdt.mp a.1).2)) (fun h2 => ⟨hin, ?_⟩) (hx := hM.row 6 (by omega) i)⟩) (hx := hM.row 5 (by omega) i)⟩⟩) (hx := hM.num)
    rw [hM.row 7 (by omega), show (60 : Int32) = nI 60 from rfl, pk_div (by omega) (by decide) (by decide)]
    exact pk_ne (A 7 i / 60) x (fun h3 => skip (fun a => h3 a.2)) (fun h3 => h1 hv ⟨i, hi, hdt.mpr ⟨h, h2⟩, h3⟩)
/-- the hour is turned -/
theorem rel_off {A : AS} {σ s : St} {u w : SM} {d x b : Nat} (hW : WF A) (hC : RC σ A) (hM : RM u A) (hK : Cache A σ) (hd : d < 180) (hx : x < 10) (hb : b ≤ 1) (ho : (A 11 (10 * d + x) ≠ 0) ↔ b = 0) (hs : s = st_up σ 11 d ((σ 11 d) ^^^ ((1 : Int32) <<< (nI x &&& 31)))) (hw : ∃ t1 : SM, t1 = (st_up u.1 0 0 0, u.2) ∧ w = (st_up t1.1 11 (10 * d + x) (nI b), t1.2)) : RelCM s w := by
  obtain ⟨t1, ht1, hw⟩ := hw
  have hAE : AE A (ap A 11 (10 * d + x) b) := ⟨by rw [ap_k A _ _ (by decide)], by rw [ap_k A _ _ (by decide)], by rw [ap_k A _ _ (by decide)], fun k a b => (ap_k A _ _ (by omega)).symm⟩
  have e0 : ap A 11 (10 * d + x) b 0 = A 0 := ap_k A _ _ (by decide)
  have e12 : ap A 11 (10 * d + x) b 12 = A 12 := ap_k A _ _ (by decide)
  have e10 : ap A 11 (10 * d + x) b 10 = A 10 := ap_k A _ _ (by decide)
  have eas : aAs (ap A 11 (10 * d + x) b) = aAs A := by unfold aAs; rw [e0]
  have hsh : aSh A = aSh (ap A 11 (10 * d + x) b) := by unfold aSh aKd; rw [e0, e10]
  have hWB : WF (ap A 11 (10 * d + x) b) := hAE.wf hW (by rw [e0]; exact hW.now) (by rw [e0]; exact Nat.le_refl _) (by rw [e0]; exact hW.asOf) (fun q => by
    by_cases a : q = 10 * d + x
    · subst a; rw [ap_s]; exact hb
    · rw [ap_j A 11 _ a]; exact hW.off q) (by rw [e12]; exact hW.wd)
  have k1 : ∀ k, k ≠ 11 → s k = σ k := fun k hk => by rw [hs, su_k _ _ _ hk]
  refine ⟨ap A 11 (10 * d + x) b, hWB, ?_, ?_, ?_⟩
  · refine hAE.rc hC (by rw [k1 0 (by decide), e0]; exact hC.now) (by rw [k1 0 (by decide), eas]; exact hC.asOf) (by rw [k1 12 (by decide), ← hsh]; exact hC.shown) (by rw [k1 10 (by decide), e12]; exact hC.wind) (fun d2 hd2 x2 hx2 => ?_) (fun k _ _ _ a _ => k1 k a) (by rw [k1 12 (by decide)])
    rw [hs]
    by_cases a : d2 = d
    · subst a
      rw [su_s, b_xor, bt_sh (by omega) hx2, hC.shut d2 hd x2 hx2]
      by_cases a2 : x2 = x
      · subst a2
        rw [ap_s, decide_eq_true hx, Bool.true_and, Bool.true_and, decide_eq_true rfl]
        by_cases c : b = 0
        · rw [decide_eq_true (ho.mpr c), decide_eq_false (fun h => h c)]; rfl
        · rw [decide_eq_false (fun h => c (ho.mp h)), decide_eq_true c]; rfl
      · rw [ap_j A 11 _ (by omega), decide_eq_false a2, Bool.xor_false]
    · rw [su_j _ _ _ a, hC.shut d2 hd2 x2 hx2]
      by_cases c : x2 < 10
      · rw [ap_j A 11 _ (by omega)]
      · rw [decide_eq_false c, Bool.false_and, Bool.false_and]
  · have g0 : ∀ j, j ≠ 0 → w.1 0 j = u.1 0 j := fun j hj => by rw [hw, mk_k _ _ _ (by decide), ht1, mk_j _ _ _ hj]
    refine hAE.rm hM (by rw [g0 7 (by decide), e0]; exact hM.now) (by rw [g0 8 (by decide), eas]; exact hM.asOf) (fun i => ?_) (fun i => ?_) (fun j hj => g0 j (by omega)) (fun k a b => ?_)
    · rw [hw]
      by_cases a : i = 10 * d + x
      · subst a; rw [mk_s, ap_s]
      · rw [mk_j _ _ _ a, ht1, mk_k _ _ _ (by decide), ap_j A 11 _ a]; exact hM.row 11 (by omega) i
    · rw [hw, mk_k _ _ _ (by decide), ht1, mk_k _ _ _ (by decide), e12]; exact hM.row 12 (by omega) i
    · rw [hw, mk_k _ _ _ (by omega), ht1, mk_k _ _ _ (by omega)]
  · exact Cache_cong hW hWB hK (fun k a b => k1 k (by omega)) (fun d _ hn => by rw [← k1 19 (by decide)]; exact hn) (fun d _ _ => Or.inl (hAE.sd hsh d))
theorem sim_off {σ : St} {u : SM} (hR : RelCM σ u) (x1 x2 x3 x4 : Int32) (h4 : x4 = 0 ∨ x4 = 1) : pX8_off x1 x2 x3 x4 σ (fun r v => pX9_off x1 x2 x3 x4 u (fun r2 u2 => r = r2 ∧ RelCM v u2)) := by
  obtain ⟨A, hW, hC, hM, hK⟩ := hR
  obtain ⟨b, hb, e4⟩ : ∃ b : Nat, b ≤ 1 ∧ x4 = nI b := by
    rcases h4 with e | e
    · exact ⟨0, by omega, e⟩
    · exact ⟨1, by omega, e⟩
  by_cases hg : ∃ y dy x, y < 6 ∧ dy < 30 ∧ x < 10 ∧ x1 = nI y ∧ x2 = nI dy ∧ x3 = nI x
  · obtain ⟨y, dy, x, hy, hd, hx, e1, e2, e3⟩ := hg
    subst e1 e2 e3 e4
    have hoff := hW.off (10 * (30 * y + dy) + x)
    have rk : ∀ t1 : SM, t1 = (st_up u.1 0 0 0, u.2) → RM t1 A ∧ ((0 : Int32) = 0 ∧ RelCM σ t1) := fun t1 ht1 => ⟨hM.eq (by rw [ht1]; exact MEq.t0 u 0), rfl, relK hW hC hM (CE.rf σ) hK (by rw [ht1]; exact MEq.t0 u 0)⟩
    -- the model, where it says no
    have no : (A 11 (10 * (30 * y + dy) + x) = b ∨ (b ≠ 0 ∧ ∃ t, t < A 0 9 ∧ aDt A t = 30 * y + dy ∧ A 7 t / 60 = x)) → pX9_off (nI y) (nI dy) (nI x) (nI b) u (fun r2 u2 => (0 : Int32) = r2 ∧ RelCM σ u2) := by
      intro hno
      unfold pX9_off
      intro t1 ht1
      obtain ⟨hM1, rk1⟩ := rk t1 ht1
      refine m_isDay (fun h => absurd rfl (h y dy hy hd rfl)) (fun _ _ _ _ _ _ => ⟨fun h => absurd h (by decide), fun _ => ⟨fun h => absurd h (nI_pos (by omega)), fun _ => pk_lt 9 x (fun h => by omega) (fun _ => ?_)⟩⟩)
      unfold pX9_hourOf
      rw [hr_nI]
      refine ⟨vp_in_nI (by omega) (by decide), ?_⟩
      rw [nI_clamp (n := 10 * (30 * y + dy) + x) (by omega)]
      refine pk_ne (A 11 (10 * (30 * y + dy) + x)) b (fun hne => ?_) (fun _ => rk1) (hx := hM1.row 11 (by omega) _)
      rcases hno with e | ⟨c, e⟩
      · exact absurd e hne
      · refine m_off_loop hM1 hW hy hd hx (fun h => ?_) (fun _ _ => rk1)
        rcases h with h | h
        · exact absurd h (nI_ne0 (by omega) (by omega))
        · obtain ⟨t, t1, t2⟩ := e
          exact absurd t2 (h t t1)
    -- and where it says yes
    have yes : ∀ s, A 11 (10 * (30 * y + dy) + x) ≠ b → (b = 0 ∨ ∀ t, t < A 0 9 → ¬ (aDt A t = 30 * y + dy ∧ A 7 t / 60 = x)) → s = st_up σ 11 (30 * y + dy) ((σ 11 (30 * y + dy)) ^^^ ((1 : Int32) <<< (nI x &&& 31))) → pX9_off (nI y) (nI dy) (nI x) (nI b) u (fun r2 u2 => (1 : Int32) = r2 ∧ RelCM s u2) := by
      intro s hne hok hs
      unfold pX9_off
      intro t1 ht1
      obtain ⟨hM1, rk1⟩ := rk t1 ht1
      refine m_isDay (fun h => absurd rfl (h y dy hy hd rfl)) (fun _ _ _ _ _ _ => ⟨fun h => absurd h (by decide), fun _ => ⟨fun h => absurd h (nI_pos (by omega)), fun _ => pk_lt 9 x (fun h => by omega) (fun _ => ?_)⟩⟩)
      unfold pX9_hourOf
      rw [hr_nI]
      refine ⟨vp_in_nI (by omega) (by decide), ?_⟩
      rw [nI_clamp (n := 10 * (30 * y + dy) + x) (by omega)]
      refine pk_ne (A 11 (10 * (30 * y + dy) + x)) b (fun _ => ?_) (fun e => absurd e hne) (hx := hM1.row 11 (by omega) _)
      refine m_off_loop hM1 hW hy hd hx (fun _ => ?_) (fun h1 h2 => ?_)
      · unfold qX9_off_102 pX9_hourOf
        rw [hr_nI]
        refine ⟨vp_in_nI (by omega) (by decide), fun s8 hs8 => ⟨rfl, ?_⟩⟩
        rw [nI_clamp (n := 10 * (30 * y + dy) + x) (by omega)] at hs8
        have enb : vp_nar .boolean (nI b) = nI b := by
          rcases (show b = 0 ∨ b = 1 by omega) with e | e
          · subst e; exact nar_0
          · subst e; exact nar_1
        rw [enb] at hs8
        exact rel_off hW hC hM hK (show 30 * y + dy < 180 by omega) hx hb (by omega) hs ⟨t1, ht1, hs8⟩
      · rcases hok with e | e
        · subst e; exact absurd rfl h1
        · obtain ⟨t, t1, t2⟩ := h2
          exact absurd t2 (e t t1)
    unfold pX8_off
    refine c_isDay (fun h => absurd rfl (h y dy hy hd rfl)) (fun _ _ _ _ _ _ => ⟨fun h => absurd h (by decide), fun _ => ⟨fun h => absurd h (nI_pos (by omega)), fun _ => pk_lt x 10 (fun _ => ?_) (fun h => by omega)⟩⟩)
    unfold pX8_dateOf
    rw [dt_nI]
    refine c_isOff hC (by omega) hx ?_
    have turn : A 11 (10 * (30 * y + dy) + x) ≠ b → (b = 0 ∨ ∀ t, t < A 0 9 → ¬ (aDt A t = 30 * y + dy ∧ A 7 t / 60 = x)) → qX8_off_64 (fun r v => pX9_off (nI y) (nI dy) (nI x) (nI b) u (fun r2 u2 => r = r2 ∧ RelCM v u2)) (nI x) (nI (30 * y + dy)) σ := by
      intro hne hok
      unfold qX8_off_64 pX7_turn
      rw [nI_clamp (n := 30 * y + dy) (by omega)]
      exact ⟨vp_in_nI (by omega) (by decide), vp_in_nI (by omega) (by decide), fun s1 hs1 => yes s1 hne hok hs1⟩
    have eb : b2i (decide (A 11 (10 * (30 * y + dy) + x) ≠ 0)) = nI (A 11 (10 * (30 * y + dy) + x)) := by
      rcases (show A 11 (10 * (30 * y + dy) + x) = 0 ∨ A 11 (10 * (30 * y + dy) + x) = 1 by omega) with e | e
      · rw [e]; rfl
      · rw [e]; rfl
    rw [eb]
    refine pk_ne (A 11 (10 * (30 * y + dy) + x)) b (fun hne => pk_eq b 0 (fun e => turn hne (Or.inl e)) (fun e => ?_)) (fun e => no (Or.inl e))
    exact c_hasIn hC hW (by omega) hx (fun h => ⟨fun _ => turn hne (Or.inr h), fun h => absurd rfl h⟩) (fun h => ⟨fun h => absurd h (by decide), fun _ => no (Or.inr ⟨e, h⟩)⟩)
  · have fin : pX9_off x1 x2 x3 x4 u (fun r2 u2 => (0 : Int32) = r2 ∧ RelCM σ u2) := by
      unfold pX9_off
      intro t1 ht1
      have rk : (0 : Int32) = 0 ∧ RelCM σ t1 := ⟨rfl, relK hW hC hM (CE.rf σ) hK (by rw [ht1]; exact MEq.t0 u 0)⟩
      refine m_isDay (fun _ => ⟨fun _ => rk, fun h => absurd rfl h⟩) (fun y dy hy hd e1 e2 => ⟨fun _ => rk, fun _ => ⟨fun _ => rk, fun h0 => ⟨fun _ => rk, fun h => ?_⟩⟩⟩)
      obtain ⟨w, hw, e3⟩ := ix4 (n := 9) h0 h (by decide)
      exact absurd ⟨y, dy, w, hy, hd, hw, e1, e2, e3⟩ hg
    unfold pX8_off
    refine c_isDay (fun _ => ⟨fun _ => fin, fun h => absurd rfl h⟩) (fun y dy hy hd e1 e2 => ⟨fun _ => fin, fun _ => ⟨fun _ => fin, fun h0 => ⟨fun h => ?_, fun _ => fin⟩⟩⟩)
    obtain ⟨w, hw, e3⟩ := ix2 (n := 10) h0 h (by decide)
    exact absurd ⟨y, dy, w, hy, hd, hw, e1, e2, e3⟩ hg
