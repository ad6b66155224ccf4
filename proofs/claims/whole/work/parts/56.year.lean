/-! year(), change() -/
noncomputable def yv (A : AS) (y w : Nat) : Nat := if w = 0 then tlN A y else if w = 1 then prN A y else if w = 2 then bn A y else if w = 3 then hsA A y else if w = 4 then ms A y else 1000 * bn A y + ms A y
theorem m_year {A : AS} {y w : Nat} {u0 : SM} {Q : Int32 → SM → Prop} (hM0 : RM u0 A) (hW : WF A) (hy : y < 6) (hw : w < 6) (hQ : ∀ v, MEq u0 v → Q (nI (yv A y w)) v) : pX9_year (nI y) (nI w) u0 Q := by
  have h300 := hW.n
  have hsh := sh_le A
  unfold pX9_year
  intro s1 hs1
  have hu1 : MEq u0 s1 := by rw [hs1]; exact MEq.t0 u0 0
  refine ⟨fun h => absurd h (nI_pos (by omega)), fun _ => pk_le 6 y (fun h => by omega) (fun _ => ⟨fun h => absurd h (nI_pos (by omega)), fun _ => pk_le w 5 (fun _ => ?_) (fun h => by omega)⟩)⟩
  refine pairsOf_ok (hM0.eq hu1) hW hy (fun u hu hR => ?_)
  have hu0 := hu1.tr hu
  have hM := hM0.eq hu0
  refine lpG (fun n c i => qX9_year_l36 Q n (nI y) (nI w) c i u) (fb_ct (fun t => decide (t < aSh A ∧ A 5 t = y) && (decide (w = 0) || (decide (w = 1) && (UPo A t).isSome)))) (A 0 9) rfl (fun n => ?_) (fun n i hi ih => ?_)
  · show qX9_year_36 (qX9_year_l36 Q n) Q _ _ _ _ _
    unfold qX9_year_36
    rw [ct_sh (A := A) (fun t ht => by rw [decide_eq_false (fun a => by omega)]; rfl)]
    refine pk_le (A 0 9) (A 0 9) (fun _ => ?_) (fun h => by omega) (hx := hM.num)
    refine pk_eq w 0 (fun e0 => ?_) (fun e0 => pk_eq w 1 (fun e1 => ?_) (fun e1 => pk_eq w 2 (fun e2 => ?_) (fun e2 => pk_eq w 3 (fun e3 => ?_) (fun e3 => pk_eq w 4 (fun e4 => ?_) (fun e4 => ?_)))))
    · have e : fb_ct (fun t => decide (t < aSh A ∧ A 5 t = y) && (decide (w = 0) || (decide (w = 1) && (UPo A t).isSome))) (aSh A) = yv A y w := by
        unfold yv
        rw [if_pos e0]
        refine fb_ct_cong (fun t ht => ?_)
        rw [decide_eq_true e0, Bool.true_or, Bool.and_true]
        exact decide_eq_decide.mpr ⟨fun a => a.2, fun a => ⟨ht, a⟩⟩
      rw [e]
      exact hQ u hu0
    · have e : fb_ct (fun t => decide (t < aSh A ∧ A 5 t = y) && (decide (w = 0) || (decide (w = 1) && (UPo A t).isSome))) (aSh A) = yv A y w := by
        unfold yv
        rw [if_neg e0, if_pos e1]
        refine fb_ct_cong (fun t ht => ?_)
        rw [decide_eq_false e0, decide_eq_true e1, Bool.false_or, Bool.true_and]
        congr 1
        exact decide_eq_decide.mpr ⟨fun a => a.2, fun a => ⟨ht, a⟩⟩
      rw [e]
      exact hQ u hu0
    · refine m_birdsOf hM hW hR hy WD_all ?_
      rw [bn_all]
      have h := hQ u hu0
      unfold yv at h
      rw [if_neg e0, if_neg e1, if_pos e2] at h
      exact h
    · refine m_hoursOf (o := 1) hM hW hy (by omega) WD_all ?_
      rw [hN_1 hW]
      have h := hQ u hu0
      unfold yv at h
      rw [if_neg e0, if_neg e1, if_neg e2, if_pos e3] at h
      exact h
    · refine m_missed hM hW hR hy (fun v hv => ?_)
      rw [lN_i]
      have h := hQ v (hu0.tr ⟨fun j _ _ _ => by rw [hv], fun k _ _ => by rw [hv]⟩)
      unfold yv at h
      rw [if_neg e0, if_neg e1, if_neg e2, if_neg e3, if_pos e4] at h
      exact h
    · refine m_total hM hW hy (fun v hv _ => ?_)
      rw [lN_i]
      have h := hQ v (hu0.tr hv)
      unfold yv at h
      rw [if_neg e0, if_neg e1, if_neg e2, if_neg e3, if_neg e4] at h
      exact h
  · have hin : vp_in (nI i) 300 := vp_in_nI (by omega) (by decide)
    have htel := hW.tel i hi
    have no : (decide (i < aSh A ∧ A 5 i = y) && (decide (w = 0) || (decide (w = 1) && (UPo A i).isSome))) = false → qX9_year_101 (qX9_year_l36 Q n) Q (nI y) (nI w) (nI i) (nI (fb_ct (fun t => decide (t < aSh A ∧ A 5 t = y) && (decide (w = 0) || (decide (w = 1) && (UPo A t).isSome))) i)) u := by
      intro h
      unfold qX9_year_101 qX9_year_102
      intro x hx x2 hx2
      rw [hx2, hx, nI_1, show (0 : Int32) = nI 0 from rfl, nI_add, Nat.add_zero, ← ct_n (P := fun t => decide (t < aSh A ∧ A 5 t = y) && (decide (w = 0) || (decide (w = 1) && (UPo A t).isSome))) h]
      exact ih
    have yes : (decide (i < aSh A ∧ A 5 i = y) && (decide (w = 0) || (decide (w = 1) && (UPo A i).isSome))) = true → qX9_year_97 (qX9_year_l36 Q n) Q (nI y) (nI w) (nI i) (nI (fb_ct (fun t => decide (t < aSh A ∧ A 5 t = y) && (decide (w = 0) || (decide (w = 1) && (UPo A t).isSome))) i)) u := by
      intro h
      unfold qX9_year_97 qX9_year_102
      intro x hx x2 hx2
      rw [hx2, hx, nI_1, nI_1, ← ct_y (P := fun t => decide (t < aSh A ∧ A 5 t = y) && (decide (w = 0) || (decide (w = 1) && (UPo A t).isSome))) h]
      exact ih
    have skip : ¬ (i < aSh A ∧ A 5 i = y) → qX9_year_69 (qX9_year_l36 Q n) Q (nI y) (nI w) (nI (fb_ct (fun t => decide (t < aSh A ∧ A 5 t = y) && (decide (w = 0) || (decide (w = 1) && (UPo A t).isSome))) i)) (nI i) u := by
      intro h
      unfold qX9_year_69 qX9_year_70
      exact ⟨fun _ => no (by rw [decide_eq_false h]; rfl), fun h => absurd rfl h⟩
    show qX9_year_36 (qX9_year_l36 Q n) Q _ _ _ _ _
    unfold qX9_year_36
    rw [nI_clamp (n := i) (by omega)]
    refine pk_le (A 0 9) i (fun h => by omega) (fun _ => m_isKnown hM hW hi (b2i_p (fun h => skip (fun a => absurd a.1 (of_decide_eq_false h))) (fun h => ⟨hin, ?_⟩))) (hx := hM.num)
    have hk := of_decide_eq_true h
    refine pk_ne (A 5 i) y (fun h1 => skip (fun a => h1 a.2)) (fun h1 => ?_) (hx := hM.row 5 (by omega) i)
    have hd : decide (i < aSh A ∧ A 5 i = y) = true := decide_eq_true ⟨hk, h1⟩
    unfold qX9_year_70
    refine ⟨fun h => absurd h (by decide), fun _ => pk_eq w 0 (fun e0 => yes (by rw [hd, decide_eq_true e0]; rfl)) (fun e0 => pk_ne w 1 (fun e1 => no (by rw [hd, decide_eq_false e0, decide_eq_false e1]; rfl)) (fun e1 => ⟨hin, ?_⟩))⟩
    rw [nI_clamp (n := i) (by omega), hR.up hW hk h1]
    cases eu : UPo A i with
    | none => exact ⟨fun _ => no (by rw [hd, decide_eq_false e0, eu, decide_eq_true e1]; rfl), fun h => absurd neg1_lt h⟩
    | some s =>
      have us := UP_in eu
      exact ⟨fun h => absurd h (nI_pos (n := s) (by omega)), fun _ => yes (by rw [hd, decide_eq_false e0, eu, decide_eq_true e1]; rfl)⟩
theorem PE.rk {A : AS} {σ v w : St} {u t : SM} (hW : WF A) (hC : RC σ A) (hM : RM u A) (hP : PE A σ v) (hw : ∀ k, k < 24 → k ≠ 1 → w k = v k) (hu : MEq u t) : RelCM w t := by
  refine relK hW hC hM (hP.1.tr (fun k a => hw k ?_ ?_)) (hP.2.1.eq (fun k a b => hw k (by omega) (by omega))) hu
  · unfold isW at a
    have := of_decide_eq_true a
    omega
  · unfold isW at a
    have := of_decide_eq_true a
    omega
theorem sim_year {σ : St} {u : SM} (hR : RelCM σ u) (x1 x2 : Int32) : pX8_year x1 x2 σ (fun r v => pX9_year x1 x2 u (fun r2 u2 => r = r2 ∧ RelCM v u2)) := by
  obtain ⟨A, hW, hC, hM, hK⟩ := hR
  unfold pX8_year
  refine c_isYear (fun hno => ⟨fun h => absurd rfl h, fun _ => ?_⟩) (fun y hy e1 => ⟨fun _ => ?_, fun h => absurd h (by decide)⟩)
  · unfold pX9_year
    intro s1 hs1
    have rk : (-1 : Int32) = -1 ∧ RelCM σ s1 := ⟨rfl, relK hW hC hM (CE.rf σ) hK (by rw [hs1]; exact MEq.t0 u 0)⟩
    refine ⟨fun _ => rk, fun h0 => ⟨fun _ => rk, fun h1 => ?_⟩⟩
    obtain ⟨y, hy, e⟩ := ix1 (n := 6) h0 h1 (by decide)
    exact absurd e (hno y hy)
  · subst e1
    refine pairYear_ok hC hW hK hy (fun v hP h19 => ?_)
    have hCv := hC.eq hP.1
    have hY : YC A y v := YC.of hW hP.2.1 h19
    have fin : ∀ (w : Nat) (v2 : St) (r : Int32), w < 6 → x2 = nI w → r = nI (yv A y w) → (∀ k, k ≠ 37 → k ≠ 38 → k ≠ 39 → v2 k = v k) → pX9_year (nI y) x2 u (fun r2 u2 => r = r2 ∧ RelCM v2 u2) := by
      intro w v2 r hw e2 er hv2
      rw [e2]
      exact m_year hM hW hy hw (fun t ht => ⟨er, PE.rk hW hC hM hP (fun k a _ => hv2 k (by omega) (by omega) (by omega)) ht⟩)
    refine ⟨fun e => c_shownIn hCv hW hy (fin 0 v _ (by decide) e rfl (fun _ _ _ _ => rfl)), fun n0 => ⟨fun e => c_pairsIn hCv hW hY hy (fin 1 v _ (by decide) e rfl (fun _ _ _ _ => rfl)), fun n1 => ⟨fun e => c_birdsIn hCv hW hY hy (fin 2 v _ (by decide) e rfl (fun _ _ _ _ => rfl)), fun n2 => ⟨fun e => c_hoursOff hCv hy (fin 3 v _ (by decide) e rfl (fun _ _ _ _ => rfl)), fun n3 => ⟨fun e => c_missedOf hCv hW hY hy (fun v2 hv2 => fin 4 v2 _ (by decide) e rfl hv2), fun n4 => ⟨fun e => c_totalOf hCv hW hY hy (fun v2 hv2 => fin 5 v2 _ (by decide) e rfl hv2), fun n5 => ?_⟩⟩⟩⟩⟩⟩
    unfold pX9_year
    intro s1 hs1
    have rk : (-1 : Int32) = -1 ∧ RelCM v s1 := ⟨rfl, PE.rk hW hC hM hP (fun _ _ _ => rfl) (by rw [hs1]; exact MEq.t0 u 0)⟩
    refine ⟨fun _ => rk, fun _ => ⟨fun _ => rk, fun _ => ⟨fun _ => rk, fun h0 => ⟨fun h1 => ?_, fun _ => rk⟩⟩⟩⟩
    obtain ⟨w, hw, e⟩ := ix3 (n := 5) h0 h1 (by decide)
    rcases (show w = 0 ∨ w = 1 ∨ w = 2 ∨ w = 3 ∨ w = 4 ∨ w = 5 by omega) with a | a | a | a | a | a
    · subst a; exact absurd e n0
    · subst a; exact absurd e n1
    · subst a; exact absurd e n2
    · subst a; exact absurd e n3
    · subst a; exact absurd e n4
    · subst a; exact absurd e n5
theorem m_change {A : AS} {a b : Nat} {u0 : SM} {Q : Int32 → SM → Prop} (hM0 : RM u0 A) (hW : WF A) (ha : a < 6) (hb : b < 6) (hQ : ∀ v, MEq u0 v → Q (if 1000 * bn A b ≤ 1000 * bn A a + ms A a then (if 1000 * bn A a ≤ 1000 * bn A b + ms A b then 0 else -1) else 1) v) : pX9_change (nI a) (nI b) u0 Q := by
  have ba := bn_le hW a
  have bb := bn_le hW b
  have ma := ms_le hW a
  have mb := ms_le hW b
  unfold pX9_change
  intro s1 hs1
  have hu1 : MEq u0 s1 := by rw [hs1]; exact MEq.t0 u0 0
  refine ⟨fun h => absurd h (nI_pos (by omega)), fun _ => pk_le 6 a (fun h => by omega) (fun _ => ⟨fun h => absurd h (nI_pos (by omega)), fun _ => pk_lt b 6 (fun _ => ?_) (fun h => by omega)⟩)⟩
  refine m_total (hM0.eq hu1) hW ha (fun u2 hu2 hR2 => ?_)
  have h2 := hu1.tr hu2
  refine m_birdsOf (hM0.eq h2) hW hR2 ha WD_all ?_
  rw [bn_all]
  intro x6 hx6
  refine m_total (hM0.eq h2) hW hb (fun u3 hu3 hR3 => ?_)
  have h3 := h2.tr hu3
  refine m_birdsOf (hM0.eq h3) hW hR3 hb WD_all ?_
  rw [bn_all]
  intro x11 hx11
  rw [nI_l (by omega), show (1000 : Int64) = lN 1000 from rfl, lN_mul] at hx6 hx11
  subst hx6 hx11
  have hq := hQ u3 h3
  rw [lg_cmp_le, lg_cmp_ge, pk_lLE (by omega) (by omega), pk_lLE (by omega) (by omega)]
  refine ⟨fun c1 => ⟨fun c2 => ?_, fun c2 => ?_⟩, fun c1 => ?_⟩
  · rw [if_pos c1, if_pos c2] at hq; exact hq
  · rw [if_pos c1, if_neg c2] at hq; exact hq
  · rw [if_neg c1] at hq; exact hq
theorem sim_change {σ : St} {u : SM} (hR : RelCM σ u) (x1 x2 : Int32) : pX8_change x1 x2 σ (fun r v => pX9_change x1 x2 u (fun r2 u2 => r = r2 ∧ RelCM v u2)) := by
  obtain ⟨A, hW, hC, hM, hK⟩ := hR
  have no : ((∀ y, y < 6 → x1 ≠ nI y) ∨ ∀ y, y < 6 → x2 ≠ nI y) → pX9_change x1 x2 u (fun r2 u2 => (-2 : Int32) = r2 ∧ RelCM σ u2) := by
    intro hno
    unfold pX9_change
    intro s1 hs1
    have rk : (-2 : Int32) = -2 ∧ RelCM σ s1 := ⟨rfl, relK hW hC hM (CE.rf σ) hK (by rw [hs1]; exact MEq.t0 u 0)⟩
    refine ⟨fun _ => rk, fun h0 => ⟨fun _ => rk, fun h1 => ⟨fun _ => rk, fun h2 => ⟨fun h3 => ?_, fun _ => rk⟩⟩⟩⟩
    obtain ⟨y, hy, e⟩ := ix1 (n := 6) h0 h1 (by decide)
    obtain ⟨y2, hy2, e2⟩ := ix2 (n := 6) h2 h3 (by decide)
    rcases hno with a | a
    · exact absurd e (a y hy)
    · exact absurd e2 (a y2 hy2)
  unfold pX8_change
  refine c_isYear (fun hno => ⟨fun _ => no (Or.inl hno), fun h => absurd rfl h⟩) (fun a ha e1 => ⟨fun h => absurd h (by decide), fun _ => c_isYear (fun hno => ⟨fun h => absurd rfl h, fun _ => no (Or.inr hno)⟩) (fun b hb e2 => ⟨fun _ => ?_, fun h => absurd h (by decide)⟩)⟩)
  subst e1 e2
  have ba := bn_le hW a
  have bb := bn_le hW b
  have ma := ms_le hW a
  have mb := ms_le hW b
  refine pairYear_ok hC hW hK ha (fun v hP h19 => ?_)
  have hCv := hC.eq hP.1
  refine pairYear_ok hCv hW hP.2.1 hb (fun v2 hP2 h19b => ?_)
  have hP3 := hP.tr hP2
  have hC2 := hC.eq hP3.1
  have hYb : YC A b v2 := YC.of hW hP3.2.1 h19b
  have hYa : YC A a v2 := YC.of hW hP3.2.1 (fun t ht e => hP2.2.2 _ (h19 t ht e))
  have fin : ∀ (w : St) (r : Int32), (∀ k, k ≠ 37 → k ≠ 38 → k ≠ 39 → w k = v2 k) → r = (if 1000 * bn A b ≤ 1000 * bn A a + ms A a then (if 1000 * bn A a ≤ 1000 * bn A b + ms A b then 0 else -1) else 1) → pX9_change (nI a) (nI b) u (fun r2 u2 => r = r2 ∧ RelCM w u2) := by
    intro w r hw er
    exact m_change hM hW ha hb (fun t ht => ⟨er, PE.rk hW hC hM hP3 (fun k c _ => hw k (by omega) (by omega) (by omega)) ht⟩)
  have rc : ∀ w : St, (∀ k, k ≠ 37 → k ≠ 38 → k ≠ 39 → w k = v2 k) → RC w A ∧ YC A a w ∧ YC A b w := fun w hw => ⟨hC2.eq (fun k c => by
    have c2 : k ≠ 37 ∧ k ≠ 38 ∧ k ≠ 39 := by
      unfold isW at c
      have := of_decide_eq_true c
      omega
    exact hw k c2.1 c2.2.1 c2.2.2), hYa.eq (fun k c d => hw k (by omega) (by omega) (by omega)), hYb.eq (fun k c d => hw k (by omega) (by omega) (by omega))⟩
  refine c_birdsIn hC2 hW hYb hb (c_totalOf hC2 hW hYa ha (fun w hw => ?_))
  obtain ⟨rw1, rwa, rwb⟩ := rc w hw
  refine pk_le (1000 * bn A b) (1000 * bn A a + ms A a) (fun c1 => ?_) (fun c1 => fin w _ hw ?_) (hx := by rw [show (1000 : Int32) = nI 1000 from rfl, pk_mul])
  · refine c_totalOf rw1 hW rwb hb (fun z hz => ?_)
    have hz2 : ∀ k, k ≠ 37 → k ≠ 38 → k ≠ 39 → z k = v2 k := fun k c d e => (hz k c d e).trans (hw k c d e)
    obtain ⟨rz, rza, rzb⟩ := rc z hz2
    refine c_birdsIn rz hW rza ha (pk_le (1000 * bn A a) (1000 * bn A b + ms A b) (fun c2 => fin z _ hz2 ?_) (fun c2 => fin z _ hz2 ?_) (hx := by rw [show (1000 : Int32) = nI 1000 from rfl, pk_mul]))
    · rw [if_pos c1, if_pos c2]
    · rw [if_pos c1, if_neg (by omega)]
  · rw [if_neg (by omega)]
