/-! known(), partner(), bird(), look(), count() -/
theorem c_showUpTo {σ0 : St} {Q : St → Prop} {n kd : Nat} {S : Nat → Nat} (hn : n ≤ 300) (hkd : kd < 2 ^ 30) (h5 : σ0 12 5 = nI n) (h17 : ∀ t, t < n → σ0 17 t = nI (S t)) (hS : ∀ t, t < n → S t < 2 ^ 30) (hQ : ∀ v, (∀ k, k ≠ 12 → v k = σ0 k) → (∀ j, j ≠ 6 → v 12 j = σ0 12 j) → v 12 6 = nI (fb_ct (fun t => decide (S t ≤ kd)) n) → Q v) : pX2_showUpTo (nI kd) σ0 Q := by
  unfold pX2_showUpTo
  intro s1 hs1
  refine lpS (fun m i σ => qX2_showUpTo_l7 Q m (nI kd) i σ) (fun i σ => (∀ k, k ≠ 12 → σ k = σ0 k) ∧ (∀ j, j ≠ 6 → σ 12 j = σ0 12 j) ∧ σ 12 6 = nI (fb_ct (fun t => decide (S t ≤ kd)) i)) n (fun m σ hI => ?_) (fun m i σ hi hI ih => ?_) s1 ⟨fun k hk => by rw [hs1, su_k _ _ _ hk], fun j hj => by rw [hs1, su_j _ _ _ hj], by rw [hs1, su_s]; rfl⟩
  · show qX2_showUpTo_7 (qX2_showUpTo_l7 Q m) Q _ _ _
    unfold qX2_showUpTo_7
    exact pk_le n n (fun _ => hQ σ hI.1 hI.2.1 hI.2.2) (fun h => by omega) (hx := by rw [hI.2.1 5 (by decide)]; exact h5)
  · have hs := hS i hi
    show qX2_showUpTo_7 (qX2_showUpTo_l7 Q m) Q _ _ _
    unfold qX2_showUpTo_7
    rw [nI_clamp (n := i) (by omega)]
    refine pk_le n i (fun h => by omega) (fun _ => ⟨vp_in_nI (by omega) (by decide), pk_lt kd (S i) (fun h => ?_) (fun h s2 hs2 => ?_) (hy := by rw [hI.1 17 (by decide)]; exact h17 i hi)⟩) (hx := by rw [hI.2.1 5 (by decide)]; exact h5)
    · unfold qX2_showUpTo_35
      intro x hx
      rw [hx, nI_1]
      refine ih σ ⟨hI.1, hI.2.1, ?_⟩
      rw [ct_n (P := fun t => decide (S t ≤ kd)) (decide_eq_false (by omega))]
      exact hI.2.2
    · rw [hI.2.2, nI_1] at hs2
      unfold qX2_showUpTo_35
      intro x hx
      rw [hx, nI_1]
      refine ih s2 ⟨fun k hk => by rw [hs2, su_k _ _ _ hk]; exact hI.1 k hk, fun j hj => by rw [hs2, su_j _ _ _ hj]; exact hI.2.1 j hj, ?_⟩
      rw [hs2, su_s, ct_y (P := fun t => decide (S t ≤ kd)) (decide_eq_true h)]
theorem c_forgetAll {σ0 : St} {Q : St → Prop} (hQ : ∀ v, (∀ k, k ≠ 19 → v k = σ0 k) → (∀ d, d < 180 → v 19 d = 0) → Q v) : pX0_forgetAll σ0 Q := by
  unfold pX0_forgetAll
  refine lpS (fun m i σ => qX0_forgetAll_l2 Q m i σ) (fun i σ => (∀ k, k ≠ 19 → σ k = σ0 k) ∧ ∀ d, d < i → σ 19 d = 0) 180 (fun m σ hI => ?_) (fun m i σ hi hI ih => ?_) σ0 ⟨fun _ _ => rfl, fun d hd => absurd hd (Nat.not_lt_zero _)⟩
  · show qX0_forgetAll_2 (qX0_forgetAll_l2 Q m) Q _ _
    unfold qX0_forgetAll_2
    exact pk_le 180 180 (fun _ => hQ σ hI.1 hI.2) (fun h => by omega)
  · show qX0_forgetAll_2 (qX0_forgetAll_l2 Q m) Q _ _
    unfold qX0_forgetAll_2
    rw [nI_clamp (n := i) (by omega), nar_0]
    refine pk_le 180 i (fun h => by omega) (fun _ => ⟨vp_in_nI (by omega) (by decide), fun s1 hs1 x hx => ?_⟩)
    rw [hx, nI_1]
    refine ih s1 ⟨fun k hk => by rw [hs1, su_k _ _ _ hk]; exact hI.1 k hk, fun d hd => ?_⟩
    rw [hs1]
    by_cases a : d = i
    · subst a; rw [su_s]
    · rw [su_j _ _ _ a]; exact hI.2 d (by omega)
theorem nI_nm1 {n : Nat} (h : n < 2 ^ 31) : ¬ nI n = -1 := fun e => absurd (by rw [e]; exact neg1_lt) (nI_pos h)
theorem c_knownDay {B : AS} {σ : St} {Q : Int32 → St → Prop} (h8 : σ 0 8 = nI (B 0 7)) (h9 : σ 0 9 = aAs B) (hb : B 0 8 < 2 ^ 30) (hQ : Q (nI (aKd B)) σ) : pX8_knownDay σ Q := by
  unfold pX8_knownDay
  rw [h8, h9]
  unfold aAs
  unfold aKd at hQ
  by_cases a : B 0 8 = 0
  · rw [if_pos a] at hQ ⊢
    exact ⟨fun h => absurd rfl h, fun _ => hQ⟩
  · rw [if_neg a] at hQ ⊢
    exact ⟨fun _ => hQ, fun h => absurd h (nI_nm1 (by omega))⟩
/-- known as of another day: a is that day + 1, or 0 -/
theorem rel_known {A : AS} {σ : St} {u : SM} {Q : Int32 → St → Prop} {a : Nat} {x : Int32} (hW : WF A) (hC : RC σ A) (hM : RM u A) (ha : a ≤ A 0 7 + 1) (hx : x = if a = 0 then -1 else nI (a - 1)) (hQ : ∀ v, (∀ t1 t2 : SM, t1 = (st_up u.1 0 0 0, u.2) → t2 = (st_up t1.1 0 8 x, t1.2) → RelCM v t2) → Q 1 v) : qX8_known_19 Q x σ := by
  have hnow := hW.now
  have h300 := hW.n
  have hAE : AE A (ap A 0 8 a) := ⟨(ap_j A 0 _ (by decide)).symm, (ap_j A 0 _ (by decide)).symm, (ap_j A 0 _ (by decide)).symm, fun k b c => (ap_k A 8 _ (by omega)).symm⟩
  have e8 : ap A 0 8 a 0 8 = a := ap_s A 0 8 _
  have e7 : ap A 0 8 a 0 7 = A 0 7 := ap_j A 0 _ (by decide)
  have e9 : ap A 0 8 a 0 9 = A 0 9 := ap_j A 0 _ (by decide)
  have e10 : ap A 0 8 a 10 = A 10 := ap_k A 8 _ (by decide)
  have e11 : ap A 0 8 a 11 = A 11 := ap_k A 8 _ (by decide)
  have e12 : ap A 0 8 a 12 = A 12 := ap_k A 8 _ (by decide)
  have eas : aAs (ap A 0 8 a) = x := by unfold aAs; rw [e8, hx]
  have hWB : WF (ap A 0 8 a) := hAE.wf hW (by rw [e7]; exact hW.now) (by omega) (by omega) (by rw [e11]; exact hW.off) (by rw [e12]; exact hW.wd)
  have hkd := kd_le hWB
  unfold qX8_known_19
  intro s1 hs1
  refine c_knownDay (B := ap A 0 8 a) (by rw [hs1, su_j _ _ _ (by decide), e7]; exact hC.now) (by rw [hs1, su_s, eas]) (by omega) ?_
  refine c_showUpTo (n := A 0 9) (S := A 10) h300 (by omega) (by rw [hs1, su_k (k := 0) (q := 12) _ _ _ (by decide)]; exact hC.num) (fun t _ => by rw [hs1, su_k (k := 0) (q := 17) _ _ _ (by decide)]; exact hC.since t) (fun t ht => by have := (hW.tel t ht).2.2.2.2.2; omega) (fun v2 k2 j2 h6 => ?_)
  refine c_forgetAll (fun v k3 h19 => hQ v (fun t1 t2 ht1 ht2 => ?_))
  have hsh : fb_ct (fun t => decide (A 10 t ≤ aKd (ap A 0 8 a))) (A 0 9) = aSh (ap A 0 8 a) := by
    unfold aSh
    rw [e9, e10]
  have kk : ∀ k, k ≠ 0 → k ≠ 12 → k ≠ 19 → v k = σ k := fun k b c d => by rw [k3 k d, k2 k c, hs1, su_k _ _ _ b]
  have k0 : ∀ j, v 0 j = s1 0 j := fun j => by rw [k3 0 (by decide), k2 0 (by decide)]
  refine ⟨ap A 0 8 a, hWB, ?_, ?_, ?_⟩
  · refine hAE.rc hC (by rw [k0, hs1, su_j _ _ _ (by decide), e7]; exact hC.now) (by rw [k0, hs1, su_s, eas]) (by rw [k3 12 (by decide), h6, hsh]) (by rw [kk 10 (by decide) (by decide) (by decide), e12]; exact hC.wind) (by rw [kk 11 (by decide) (by decide) (by decide), e11]; exact hC.shut) (fun k w b _ _ c => kk k b c (fun e => by rw [e] at w; exact absurd w (by decide))) ?_
    rw [k3 12 (by decide), j2 5 (by decide), hs1, su_k (k := 0) (q := 12) _ _ _ (by decide)]
  · refine hAE.rm hM ?_ (by rw [ht2, mk_s, eas]) (fun i => ?_) (fun i => ?_) (fun j hj => ?_) (fun k b c => ?_)
    · rw [ht2, mk_j _ _ _ (by decide), ht1, mk_j _ _ _ (by decide), e7]; exact hM.now
    · rw [ht2, mk_k _ _ _ (by decide), ht1, mk_k _ _ _ (by decide), e11]; exact hM.row 11 (by omega) i
    · rw [ht2, mk_k _ _ _ (by decide), ht1, mk_k _ _ _ (by decide), e12]; exact hM.row 12 (by omega) i
    · rw [ht2, mk_j _ _ _ (by omega), ht1, mk_j _ _ _ (by omega)]
    · rw [ht2, mk_k _ _ _ (by omega), ht1, mk_k _ _ _ (by omega)]
  · exact fun d hd hn => absurd (h19 d hd) hn
theorem sim_known {σ : St} {u : SM} (hR : RelCM σ u) (x1 : Int32) : pX8_known x1 σ (fun r v => pX9_known x1 u (fun r2 u2 => r = r2 ∧ RelCM v u2)) := by
  obtain ⟨A, hW, hC, hM, hK⟩ := hR
  have hnow := hW.now
  have no : (x1 < -1 ∨ ¬ x1 ≤ nI (A 0 7)) → pX9_known x1 u (fun r2 u2 => (0 : Int32) = r2 ∧ RelCM σ u2) := by
    intro hno
    unfold pX9_known
    intro t1 ht1
    have rk : (0 : Int32) = 0 ∧ RelCM σ t1 := ⟨rfl, relK hW hC hM (CE.rf σ) hK (by rw [ht1]; exact MEq.t0 u 0)⟩
    have f7 : t1.1 0 7 = nI (A 0 7) := by rw [ht1, mk_j _ _ _ (by decide)]; exact hM.now
    rw [f7]
    exact ⟨fun _ => rk, fun h => ⟨fun h2 => (hno.elim (fun a => absurd a h) (fun a => absurd h2 a)), fun _ => rk⟩⟩
  have yes : ∀ v : St, ¬ x1 < -1 → x1 ≤ nI (A 0 7) → (∀ t1 t2 : SM, t1 = (st_up u.1 0 0 0, u.2) → t2 = (st_up t1.1 0 8 x1, t1.2) → RelCM v t2) → pX9_known x1 u (fun r2 u2 => (1 : Int32) = r2 ∧ RelCM v u2) := by
    intro v h1 h2 hv
    unfold pX9_known
    intro t1 ht1
    have f7 : t1.1 0 7 = nI (A 0 7) := by rw [ht1, mk_j _ _ _ (by decide)]; exact hM.now
    rw [f7]
    exact ⟨fun h => absurd h h1, fun _ => ⟨fun _ t2 ht2 => ⟨rfl, hv t1 t2 ht1 ht2⟩, fun h => absurd h2 h⟩⟩
  unfold pX8_known
  rw [hC.now]
  refine ⟨fun e => ?_, fun hne => ⟨fun h => no (Or.inl ?_), fun h0 => ⟨fun h => ?_, fun h => no (Or.inr h)⟩⟩⟩
  · refine rel_known (a := 0) hW hC hM (by omega) (by rw [if_pos rfl]; exact e) (fun v hv => yes v ?_ ?_ hv)
    · rw [e]; decide
    · rw [e, fa_le, nI_toInt (by omega)]
      have : ((-1 : Int32)).toInt = -1 := by decide
      omega
  · rw [fa_lt] at h ⊢
    have e1 : ((-1 : Int32)).toInt = -1 := by decide
    have e0 : ((0 : Int32)).toInt = 0 := by decide
    have e2 : x1.toInt ≠ -1 := fun a => hne ((fa_eq _ _).mpr (a.trans e1.symm))
    omega
  · obtain ⟨k, hk, e⟩ := ix3 h0 h (by omega)
    subst e
    refine rel_known (a := k + 1) hW hC hM (by omega) (by rw [if_neg (by omega)]; rfl) (fun v hv => yes v ?_ h hv)
    rw [fa_lt, nI_toInt (by omega)]
    have e1 : ((-1 : Int32)).toInt = -1 := by decide
    omega
theorem m_unknown {A : AS} {u : SM} {Q : Int32 → SM → Prop} {x : Int32} (hM : RM u A) (hW : WF A) (hx : ∀ t, t < aSh A → x ≠ nI t) (hQ : Q 0 u) : pX9_isKnown x u Q := by
  have h300 := hW.n
  by_cases h0 : x < 0
  · unfold pX9_isKnown
    exact ⟨fun _ => hQ, fun h => absurd h0 h⟩
  · by_cases h1 : nI (A 0 9) ≤ x
    · unfold pX9_isKnown
      refine ⟨fun _ => hQ, fun _ => ?_⟩
      rw [hM.num]
      exact ⟨fun _ => hQ, fun h => absurd h1 h⟩
    · obtain ⟨t, ht, e⟩ := ix1 h0 h1 (by omega)
      subst e
      refine m_isKnown hM hW ht ?_
      rw [decide_eq_false (fun h => hx t h rfl)]
      exact hQ
theorem c_shows {A : AS} {σ : St} {Q : Int32 → St → Prop} {x : Int32} (hC : RC σ A) (hW : WF A) (h0 : (∀ t, t < aSh A → x ≠ nI t) → Q 0 σ) (h1 : ∀ t, t < aSh A → x = nI t → Q 1 σ) : pX2_shows x σ Q := by
  have h300 := hW.n
  have hsh := sh_le A
  unfold pX2_shows
  rw [hC.shown]
  refine ⟨fun h => h0 (fun t ht e => ?_), fun h => ⟨fun h2 => h0 (fun t ht e => ?_), fun h2 => ?_⟩⟩
  · rw [e] at h; exact nI_pos (by omega) h
  · rw [e] at h2; exact nI_ge ht (by omega) h2
  · obtain ⟨t, ht, e⟩ := ix1 h h2 (by omega)
    exact h1 t ht e
theorem sim_partner {σ : St} {u : SM} (hR : RelCM σ u) (x1 : Int32) : pX8_partner x1 σ (fun r v => pX9_partner x1 u (fun r2 u2 => r = r2 ∧ RelCM v u2)) := by
  obtain ⟨A, hW, hC, hM, hK⟩ := hR
  have h300 := hW.n
  have hsh := sh_le A
  unfold pX8_partner pX9_partner
  refine c_shows hC hW (fun h => ⟨fun h => absurd rfl h, fun _ t1 ht1 => ?_⟩) (fun t ht e => ⟨fun _ => ?_, fun h => absurd h (by decide)⟩)
  · have hu : MEq u t1 := by rw [ht1]; exact MEq.t0 u 0
    exact m_unknown (hM.eq hu) hW h ⟨fun h => absurd rfl h, fun _ => ⟨rfl, relK hW hC hM (CE.rf σ) hK hu⟩⟩
  · subst e
    have hin : vp_in (nI t) 300 := vp_in_nI (by omega) (by decide)
    rw [nI_clamp (n := t) (by omega), hC.date t (by omega)]
    refine ⟨hin, pairDate_ok hC hW hK (dt_lt hW (by omega)) (fun v hP hv => ⟨hin, fun t1 ht1 => ?_⟩)⟩
    have hu : MEq u t1 := by rw [ht1]; exact MEq.t0 u 0
    have hM1 := hM.eq hu
    have hy := (hW.tel t (by omega)).1
    refine m_isKnown hM1 hW (by omega) ?_
    rw [decide_eq_true ht]
    refine ⟨fun _ => ⟨hin, ?_⟩, fun h => absurd h (by decide)⟩
    rw [hM1.row 5 (by omega) t]
    refine pairsOf_ok hM1 hW hy (fun w hw hY => ⟨hin, ?_, relK hW hC hM hP.1 hP.2.1 (hu.tr hw)⟩)
    rw [(hP.2.1 _ (dt_lt hW (by omega)) hv t ht rfl).1, hY.up hW ht rfl]
theorem sim_bird {σ : St} {u : SM} (hR : RelCM σ u) (x1 : Int32) : pX8_bird x1 σ (fun r v => pX9_bird x1 u (fun r2 u2 => r = r2 ∧ RelCM v u2)) := by
  obtain ⟨A, hW, hC, hM, hK⟩ := hR
  have h300 := hW.n
  have hsh := sh_le A
  unfold pX8_bird pX9_bird
  refine c_shows hC hW (fun h => ⟨fun h => absurd rfl h, fun _ t1 ht1 => ?_⟩) (fun t ht e => ⟨fun _ => ?_, fun h => absurd h (by decide)⟩)
  · have hu : MEq u t1 := by rw [ht1]; exact MEq.t0 u 0
    exact m_unknown (hM.eq hu) hW h ⟨fun h => absurd rfl h, fun _ => ⟨rfl, relK hW hC hM (CE.rf σ) hK hu⟩⟩
  · subst e
    have hin : vp_in (nI t) 300 := vp_in_nI (by omega) (by decide)
    rw [nI_clamp (n := t) (by omega), hC.date t (by omega)]
    refine ⟨hin, pairDate_ok hC hW hK (dt_lt hW (by omega)) (fun v hP hv => ⟨hin, fun t1 ht1 => ?_⟩)⟩
    have hu : MEq u t1 := by rw [ht1]; exact MEq.t0 u 0
    have hM1 := hM.eq hu
    have hy := (hW.tel t (by omega)).1
    refine m_isKnown hM1 hW (by omega) ?_
    rw [decide_eq_true ht]
    refine ⟨fun _ => ⟨hin, ?_⟩, fun h => absurd h (by decide)⟩
    rw [hM1.row 5 (by omega) t]
    refine pairsOf_ok hM1 hW hy (fun w hw hY => m_firstOf hW hY (A 8 t) t (Nat.le_refl _) ht rfl ⟨?_, relK hW hC hM hP.1 hP.2.1 (hu.tr hw)⟩)
    exact (hP.2.1 _ (dt_lt hW (by omega)) hv t ht rfl).2.2.1
theorem sim_look {σ : St} {u : SM} (hR : RelCM σ u) (x1 x2 : Int32) (Q : Int32 → St → Prop) (E : St → Prop) (hQ : ∀ (r : Int32) (v : St), pX9_look x1 x2 u (fun r2 u2 => pX9_thrown u2 (fun t u3 => t = 0 ∧ r = r2 ∧ RelCM v u3)) → Q r v) (hE : ∀ v : St, pX9_look x1 x2 u (fun _ u2 => pX9_thrown u2 (fun t u3 => t = 1 ∧ RelCM v u3)) → E v) : pX8_look x1 x2 σ Q E := by
  obtain ⟨A, hW, hC, hM, hK⟩ := hR
  have h300 := hW.n
  by_cases hg : ∃ t w, t < A 0 9 ∧ w < 6 ∧ x1 = nI t ∧ x2 = nI w
  · obtain ⟨t, w, ht, hw, e1, e2⟩ := hg
    subst e1 e2
    have htel := hW.tel t ht
    have hdt := dt_lt hW ht
    have hin : vp_in (nI t) 300 := vp_in_nI (by omega) (by decide)
    -- the model
    have mod : ∀ r : Int32, r = (if w = 0 then nI (A 5 t) else if w = 1 then nI (A 6 t) else if w = 2 then nI (A 7 t) else if w = 3 then nI (A 8 t) else if w = 4 then nI (A 9 t) else nI (A 10 t)) → pX9_look (nI t) (nI w) u (fun r2 u2 => pX9_thrown u2 (fun t u3 => t = 0 ∧ r = r2 ∧ RelCM σ u3)) := by
      intro r hr
      unfold pX9_look
      refine ⟨fun h => absurd h (nI_pos (by omega)), fun _ => pk_le (A 0 9) t (fun h => by omega) (fun _ => ⟨fun h => absurd h (nI_pos (by omega)), fun _ => pk_lt 5 w (fun h => by omega) (fun _ => ?_)⟩) (hx := hM.num)⟩
      unfold qX9_look_27
      intro s1 hs1
      have hu : MEq u s1 := by rw [hs1]; exact MEq.t0 u 0
      have hM1 := hM.eq hu
      have e0 : s1.1 0 0 = 0 := by rw [hs1, mk_s]
      have rel := relK hW hC hM (CE.rf σ) hK hu
      rw [nI_clamp (n := t) (by omega), hM1.row 5 (by omega), hM1.row 6 (by omega), hM1.row 7 (by omega), hM1.row 8 (by omega), hM1.row 9 (by omega), hM1.row 10 (by omega), e0]
      have fin : ∀ q : Int32, r = q → pX9_thrown s1 (fun t u3 => t = 0 ∧ r = q ∧ RelCM σ u3) := fun q e => ⟨e0, e, rel⟩
      refine ⟨fun _ => pk_ne w 0 (fun a0 => pk_ne w 1 (fun a1 => pk_ne w 2 (fun a2 => pk_ne w 3 (fun a3 => pk_ne w 4 (fun a4 => ⟨hin, fin _ ?_⟩) (fun a4 => ⟨hin, fin _ ?_⟩)) (fun a3 => ⟨hin, fin _ ?_⟩)) (fun a2 => ⟨hin, fin _ ?_⟩)) (fun a1 => ⟨hin, fin _ ?_⟩)) (fun a0 => ⟨hin, fin _ ?_⟩), fun h => absurd (by decide) h⟩
      · rw [hr, if_neg a0, if_neg a1, if_neg a2, if_neg a3, if_neg a4]
      · rw [hr, if_neg a0, if_neg a1, if_neg a2, if_neg a3, if_pos a4]
      · rw [hr, if_neg a0, if_neg a1, if_neg a2, if_pos a3]
      · rw [hr, if_neg a0, if_neg a1, if_pos a2]
      · rw [hr, if_neg a0, if_pos a1]
      · rw [hr, if_pos a0]
    have d1 : aDt A t / 30 = A 5 t := by unfold aDt; omega
    have d2 : aDt A t % 30 = A 6 t := by unfold aDt; omega
    unfold pX8_look pX2_has
    refine ⟨fun h => absurd h (nI_pos (by omega)), fun _ => pk_le (A 0 9) t (fun h => by omega) (fun _ => ⟨fun h => absurd h (by decide), fun _ => ⟨fun h => absurd h (nI_pos (by omega)), fun _ => pk_le w 5 (fun _ => ?_) (fun h => by omega)⟩⟩) (hx := hC.num)⟩
    rw [nI_clamp (n := t) (by omega), hC.date t ht, hC.min, hC.post, hC.kind, hC.since, show (30 : Int32) = nI 30 from rfl, pk_rem (by omega) (by decide) (by decide), pk_div (by omega) (by decide) (by decide), d1, d2]
    refine pk_eq w 0 (fun a0 => ⟨hin, hQ _ _ (mod _ ?_)⟩) (fun a0 => pk_eq w 1 (fun a1 => ⟨hin, hQ _ _ (mod _ ?_)⟩) (fun a1 => pk_eq w 2 (fun a2 => ⟨hin, hQ _ _ (mod _ ?_)⟩) (fun a2 => pk_eq w 3 (fun a3 => ⟨hin, hQ _ _ (mod _ ?_)⟩) (fun a3 => pk_eq w 4 (fun a4 => ⟨hin, hQ _ _ (mod _ ?_)⟩) (fun a4 => ⟨hin, hQ _ _ (mod _ ?_)⟩)))))
    · rw [if_pos a0]
    · rw [if_neg a0, if_pos a1]
    · rw [if_neg a0, if_neg a1, if_pos a2]
    · rw [if_neg a0, if_neg a1, if_neg a2, if_pos a3]
    · rw [if_neg a0, if_neg a1, if_neg a2, if_neg a3, if_pos a4]
    · rw [if_neg a0, if_neg a1, if_neg a2, if_neg a3, if_neg a4]
  · have fin : E σ := by
      refine hE σ ?_
      have go : qX9_look_26 (fun _ u2 => pX9_thrown u2 (fun t u3 => t = 1 ∧ RelCM σ u3)) x1 x2 u := by
        unfold qX9_look_26 qX9_look_27
        intro s1 hs1
        have hu : MEq u s1 := by rw [hs1]; exact MEq.t0 u 1
        have e0 : s1.1 0 0 = 1 := by rw [hs1, mk_s]
        rw [e0]
        exact ⟨fun h => absurd h (by decide), fun _ => ⟨e0, relK hW hC hM (CE.rf σ) hK hu⟩⟩
      unfold pX9_look
      rw [hM.num]
      refine ⟨fun _ => go, fun h0 => ⟨fun _ => go, fun h1 => ⟨fun _ => go, fun h2 => ⟨fun _ => go, fun h3 => ?_⟩⟩⟩⟩
      obtain ⟨t, ht, e1⟩ := ix1 h0 h1 (by omega)
      obtain ⟨w, hw, e2⟩ := ix4 (n := 5) h2 h3 (by decide)
      exact absurd ⟨t, w, ht, hw, e1, e2⟩ hg
    unfold pX8_look pX2_has qX8_look_20
    rw [hC.num]
    refine ⟨fun _ => ⟨fun _ => fin, fun h => absurd rfl h⟩, fun h0 => ⟨fun _ => ⟨fun _ => fin, fun h => absurd rfl h⟩, fun h1 => ⟨fun _ => fin, fun _ => ⟨fun _ => fin, fun h2 => ⟨fun h3 => ?_, fun _ => fin⟩⟩⟩⟩⟩
    obtain ⟨t, ht, e1⟩ := ix1 h0 h1 (by omega)
    obtain ⟨w, hw, e2⟩ := ix3 (n := 5) h2 h3 (by decide)
    exact absurd ⟨t, w, ht, hw, e1, e2⟩ hg
theorem c_leaves {A : AS} {σ : St} {Q : Int32 → St → Prop} (hC : RC σ A) (hW : WF A) (hQ : Q (nI (fb_ct (lf A) (A 0 3))) σ) : pX1_leaves σ Q := by
  have hk20 := hW.k
  unfold pX1_leaves
  refine lpG (fun n c i => qX1_leaves_l4 Q n c i σ) (fb_ct (lf A)) (A 0 3) rfl (fun n => ?_) (fun n i hi ih => ?_)
  · show qX1_leaves_4 (qX1_leaves_l4 Q n) Q _ _ _
    unfold qX1_leaves_4
    exact pk_le (A 0 3) (A 0 3) (fun _ => hQ) (fun h => by omega) (hx := hC.kinds)
  · show qX1_leaves_4 (qX1_leaves_l4 Q n) Q _ _ _
    unfold qX1_leaves_4
    rw [nI_clamp (n := i) (by omega), hC.leaf i hi]
    refine pk_le (A 0 3) i (fun h => by omega) (fun _ => ⟨vp_in_nI (by omega) (by decide), b2i_p (fun h => ?_) (fun h x hx => ?_)⟩) (hx := hC.kinds)
    · unfold qX1_leaves_24
      intro x hx
      rw [hx, nI_1, ← ct_n h]
      exact ih
    · unfold qX1_leaves_24
      intro x2 hx2
      rw [hx2, hx, nI_1, nI_1, ← ct_y h]
      exact ih
theorem sim_count {σ : St} {u : SM} (hR : RelCM σ u) (x1 : Int32) : pX8_count x1 σ (fun r v => pX9_count x1 u (fun r2 u2 => r = r2 ∧ RelCM v u2)) := by
  obtain ⟨A, hW, hC, hM, hK⟩ := hR
  have hk20 := hW.k
  have mod : ∀ r : Int32, r = (if x1 = 0 then nI (A 0 1) else if x1 = 1 then nI (A 0 3) else if x1 = 2 then nI (A 0 7) else if x1 = 3 then nI (A 0 9) else if x1 = 4 then nI (fb_ct (lf A) (A 0 3)) else if x1 = 5 then aAs A else -1) → pX9_count x1 u (fun r2 u2 => r = r2 ∧ RelCM σ u2) := by
    intro r hr
    unfold pX9_count
    intro s1 hs1
    have hu : MEq u s1 := by rw [hs1]; exact MEq.t0 u 0
    have hM1 := hM.eq hu
    have rel := relK hW hC hM (CE.rf σ) hK hu
    refine lpG (fun n c i => qX9_count_l9 (fun r2 u2 => r = r2 ∧ RelCM σ u2) n x1 c i s1) (fb_ct (lf A)) (A 0 3) rfl (fun n => ?_) (fun n i hi ih => ?_)
    · show qX9_count_9 (qX9_count_l9 _ n) _ _ _ _ _
      unfold qX9_count_9
      refine pk_le (A 0 3) (A 0 3) (fun _ => ?_) (fun h => by omega) (hx := hM1.kinds)
      rw [hM1.posts, hM1.kinds, hM1.now, hM1.num, hM1.asOf]
      refine ⟨fun a0 => ⟨fun a1 => ⟨fun a2 => ⟨fun a3 => ⟨fun a4 => ⟨fun a5 => ⟨?_, rel⟩, fun a5 => ⟨?_, rel⟩⟩, fun a4 => ⟨?_, rel⟩⟩, fun a3 => ⟨?_, rel⟩⟩, fun a2 => ⟨?_, rel⟩⟩, fun a1 => ⟨?_, rel⟩⟩, fun a0 => ⟨?_, rel⟩⟩
      · rw [hr, if_neg a0, if_neg a1, if_neg a2, if_neg a3, if_neg a4, if_neg a5]
      · rw [hr, if_neg a0, if_neg a1, if_neg a2, if_neg a3, if_neg a4, if_pos a5]
      · rw [hr, if_neg a0, if_neg a1, if_neg a2, if_neg a3, if_pos a4]
      · rw [hr, if_neg a0, if_neg a1, if_neg a2, if_pos a3]
      · rw [hr, if_neg a0, if_neg a1, if_pos a2]
      · rw [hr, if_neg a0, if_pos a1]
      · rw [hr, if_pos a0]
    · show qX9_count_9 (qX9_count_l9 _ n) _ _ _ _ _
      unfold qX9_count_9
      refine pk_le (A 0 3) i (fun h => by omega) (fun _ => m_isLeaf hM1 hW hi (b2i_p (fun h => ?_) (fun h => ?_))) (hx := hM1.kinds)
      · unfold qX9_count_31
        intro x hx x2 hx2
        rw [hx2, hx, nI_1, show (0 : Int32) = nI 0 from rfl, nI_add, Nat.add_zero, ← ct_n h]
        exact ih
      · unfold qX9_count_31
        intro x hx x2 hx2
        rw [hx2, hx, nI_1, nI_1, ← ct_y h]
        exact ih
  unfold pX8_count
  rw [hC.posts, hC.kinds, hC.now, hC.num, hC.asOf]
  refine ⟨fun a0 => mod _ ?_, fun a0 => ⟨fun a1 => mod _ ?_, fun a1 => ⟨fun a2 => mod _ ?_, fun a2 => ⟨fun a3 => mod _ ?_, fun a3 => ⟨fun a4 => c_leaves hC hW (mod _ ?_), fun a4 => ⟨fun a5 => mod _ ?_, fun a5 => mod _ ?_⟩⟩⟩⟩⟩⟩
  · rw [if_pos a0]
  · rw [if_neg a0, if_pos a1]
  · rw [if_neg a0, if_neg a1, if_pos a2]
  · rw [if_neg a0, if_neg a1, if_neg a2, if_pos a3]
  · rw [if_neg a0, if_neg a1, if_neg a2, if_neg a3, if_pos a4]
  · rw [if_neg a0, if_neg a1, if_neg a2, if_neg a3, if_neg a4, if_pos a5]
  · rw [if_neg a0, if_neg a1, if_neg a2, if_neg a3, if_neg a4, if_neg a5]
