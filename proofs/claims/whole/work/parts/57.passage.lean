/-! passage() -/
def sl (A : AS) (t : Nat) : Nat := 10 * A 6 t + A 7 t / 60
noncomputable def pk1 (A : AS) (y k t : Nat) : Bool := isb A y t && un A (bkd A t) k
/-- how many came before a slot -/
noncomputable def cB (A : AS) (y k i : Nat) : Nat := fb_ct (fun t => pk1 A y k t && decide (sl A t < i)) (aSh A)
theorem cB_succ (A : AS) (y k i : Nat) : cB A y k (i + 1) = cB A y k i + fb_ct (fun t => pk1 A y k t && decide (sl A t = i)) (aSh A) := by
  unfold cB
  rw [← fb_ct_or (fun t _ h => by
    obtain ⟨a, b⟩ := h
    rw [Bool.and_eq_true] at a b
    have c := of_decide_eq_true a.2
    have d := of_decide_eq_true b.2
    omega)]
  refine fb_ct_cong (fun t _ => ?_)
  rw [← Bool.and_or_distrib_left]
  congr 1
  by_cases c : sl A t < i
  · rw [decide_eq_true c, decide_eq_true (by omega)]; rfl
  · by_cases d : sl A t = i
    · rw [decide_eq_true d, decide_eq_true (by omega)]; simp
    · rw [decide_eq_false c, decide_eq_false d, decide_eq_false (by omega)]; rfl
theorem cB_0 (A : AS) (y k : Nat) : cB A y k 0 = 0 := fb_ct_zero.mpr (fun t _ => by rw [decide_eq_false (Nat.not_lt_zero _), Bool.and_false])
theorem sl_lt {A : AS} (hW : WF A) {t : Nat} (ht : t < A 0 9) : sl A t < 300 := by
  have := hW.tel t ht
  unfold sl
  omega
theorem cB_all {A : AS} (hW : WF A) (y k : Nat) {i : Nat} (hi : 300 ≤ i) : cB A y k i = fb_ct (pk1 A y k) (aSh A) := by
  have hsh := sh_le A
  exact fb_ct_cong (fun t ht => by
    have := sl_lt hW (show t < A 0 9 by omega)
    rw [decide_eq_true (by omega), Bool.and_true])
theorem cB_le {A : AS} (hW : WF A) (y k i : Nat) : cB A y k i ≤ 300 := ct_300 hW _ (Nat.le_refl _)
theorem c_addSlots {A : AS} {y k : Nat} {σ0 : St} {Q : Int32 → St → Prop} (hC : RC σ0 A) (hW : WF A) (hY : YC A y σ0) (hy : y < 6) (hk : k < A 0 3) (h0 : ∀ s, s < 300 → σ0 1 s = 0) (hQ : ∀ v, (∀ q, q ≠ 1 → v q = σ0 q) → (∀ s, s < 300 → v 1 s = nI (fb_ct (fun t => pk1 A y k t && decide (sl A t = s)) (aSh A))) → Q (nI (fb_ct (pk1 A y k) (aSh A))) v) : pX0_addSlots_a1 (nI y) (nI k) σ0 Q := by
  have hsh := sh_le A
  have h300 := hW.n
  have hk20 := hW.k
  have key : ∀ (r i : Nat) (σ : St), i + r = aSh A → (∀ q, q ≠ 1 → σ q = σ0 q) → (∀ s, s < 300 → σ 1 s = nI (fb_ct (fun t => pk1 A y k t && decide (sl A t = s)) i)) → qX0_addSlots_a1_l6 Q (r + 1) (nI y) (nI k) (nI (fb_ct (pk1 A y k) i)) (nI i) σ := by
    intro r
    induction r with
    | zero =>
      intro i σ hi hq hs
      have e : i = aSh A := by omega
      subst e
      show qX0_addSlots_a1_6 (qX0_addSlots_a1_l6 Q 0) Q _ _ _ _ _
      unfold qX0_addSlots_a1_6
      exact pk_le (aSh A) (aSh A) (fun _ => hQ σ hq hs) (fun h => by omega) (hx := by rw [hq 12 (by decide)]; exact hC.shown)
    | succ r ih =>
      intro i σ hir hq hs
      have hi : i < aSh A := by omega
      have hCs : RC σ A := hC.eq (fun q a => hq q (fun e => by rw [e] at a; exact absurd a (by decide)))
      have hYs : YC A y σ := hY.eq (fun q a b => hq q (by omega))
      have hin : vp_in (nI i) 300 := vp_in_nI (by omega) (by decide)
      have hsl := sl_lt hW (show i < A 0 9 by omega)
      have htel := hW.tel i (by omega)
      have hdt := dt_lt hW (show i < A 0 9 by omega)
      show qX0_addSlots_a1_6 (qX0_addSlots_a1_l6 Q (r + 1)) Q _ _ _ _ _
      unfold qX0_addSlots_a1_6
      have skip : pk1 A y k i = false → qX0_addSlots_a1_81 (qX0_addSlots_a1_l6 Q (r + 1)) Q (nI y) (nI k) (nI (fb_ct (pk1 A y k) i)) (nI i) σ := by
        intro h
        unfold qX0_addSlots_a1_81
        intro x hx
        rw [hx, nI_1, ← ct_n h]
        refine ih (i + 1) σ (by omega) hq (fun s hs2 => ?_)
        rw [ct_n (P := fun t => pk1 A y k t && decide (sl A t = s)) (by rw [h]; rfl)]
        exact hs s hs2
      refine pk_le (aSh A) i (fun h => by omega) (fun _ => c_isBirdOf hCs hW hYs hy hi (b2i_p (fun h => skip (by unfold pk1; rw [h]; rfl)) (fun h => ⟨hin, ?_⟩))) (hx := hCs.shown)
      obtain ⟨i1, i2, i3⟩ := isb_in h
      have hb := bkd_lt hW i1
      rw [nI_clamp (n := i) (by omega), (hYs i i1 i2).2.2.2 i3]
      refine c_isUnder hCs hW hb (by omega) (b2i_p (fun h2 => skip (by unfold pk1; rw [h, h2]; rfl)) (fun h2 => ⟨hin, ?_⟩))
      unfold pX2_hour
      rw [nI_clamp (n := i) (by omega), hCs.min, show (60 : Int32) = nI 60 from rfl, pk_div (by omega) (by decide) (by decide)]
      refine ⟨hin, ?_⟩
      dsimp only
      rw [hCs.date i (by omega), show (30 : Int32) = nI 30 from rfl, pk_rem (by omega) (by decide) (by decide), show (10 : Int32) = nI 10 from rfl, pk_mul, nI_add, show aDt A i % 30 * 10 + A 7 i / 60 = sl A i by unfold aDt sl; omega, nI_clamp (n := sl A i) (by omega), hs _ hsl, nI_1]
      refine ⟨vp_in_nI hsl (by decide), vp_in_nI hsl (by decide), fun s7 h7 x8 hx8 => ?_⟩
      have hp : pk1 A y k i = true := by unfold pk1; rw [h, h2]; rfl
      unfold qX0_addSlots_a1_81
      intro x hx
      rw [hx, hx8, nI_1, nI_1, ← ct_y hp]
      refine ih (i + 1) s7 (by omega) (fun q a => by rw [h7, su_k _ _ _ a]; exact hq q a) (fun s hs2 => ?_)
      rw [h7]
      by_cases a : s = sl A i
      · rw [a, su_s, ct_y (P := fun t => pk1 A y k t && decide (sl A t = sl A i)) (by rw [hp, decide_eq_true rfl]; rfl)]
      · rw [su_j _ _ _ a, ct_n (P := fun t => pk1 A y k t && decide (sl A t = s)) (by rw [hp, decide_eq_false (fun e => a e.symm)]; rfl)]
        exact hs s hs2
  unfold pX0_addSlots_a1
  exact ⟨aSh A + 1, key (aSh A) 0 σ0 (by omega) (fun _ _ => rfl) (fun s hs => h0 s hs)⟩
/-- the slot of the n-th bird -/
def Nth (A : AS) (y k n i : Nat) : Prop := i < 300 ∧ n ≤ cB A y k (i + 1) ∧ ∀ j, j < i → cB A y k (j + 1) < n
theorem Nth_ex {A : AS} (hW : WF A) {y k n : Nat} (h : n ≤ fb_ct (pk1 A y k) (aSh A)) : ∃ i, Nth A y k n i := by
  obtain ⟨i, a, b, c⟩ := fb_first (p := fun i => n ≤ cB A y k (i + 1)) (n := 300) ⟨299, by omega, by rw [cB_all hW y k (by omega)]; exact h⟩
  exact ⟨i, a, b, fun j hj => by have := c j hj; omega⟩
theorem c_slotOfNth {A : AS} {y k n i : Nat} {σ : St} {Q : Int32 → St → Prop} (hW : WF A) (hn : n < 2 ^ 30) (h : Nth A y k n i) (hs : ∀ s, s < 300 → σ 1 s = nI (fb_ct (fun t => pk1 A y k t && decide (sl A t = s)) (aSh A))) (hQ : Q (nI i) σ) : pX8_slotOfNth (nI n) σ Q := by
  obtain ⟨hi, h1, h2⟩ := h
  have key : ∀ (r j : Nat), j + r = i → qX8_slotOfNth_l4 Q (r + 1) (nI n) (nI (cB A y k j)) (nI j) σ := by
    intro r
    induction r with
    | zero =>
      intro j hj
      have e : j = i := by omega
      subst e
      have c := cB_le hW y k (j + 1)
      show qX8_slotOfNth_4 (qX8_slotOfNth_l4 Q 0) Q _ _ _ _
      unfold qX8_slotOfNth_4
      rw [nI_clamp (n := j) (by omega), hs j hi, nI_add, ← cB_succ]
      refine pk_le 300 j (fun h => by omega) (fun _ => ⟨vp_in_nI hi (by decide), fun x hx => ?_⟩)
      exact pk_lt (cB A y k (j + 1)) n (fun h => by omega) (fun _ => hQ) (hx := hx)
    | succ r ih =>
      intro j hj
      have c := h2 j (by omega)
      show qX8_slotOfNth_4 (qX8_slotOfNth_l4 Q (r + 1)) Q _ _ _ _
      unfold qX8_slotOfNth_4
      rw [nI_clamp (n := j) (by omega), hs j (by omega), nI_add, ← cB_succ]
      refine pk_le 300 j (fun h => by omega) (fun _ => ⟨vp_in_nI (by omega) (by decide), fun x hx => ?_⟩)
      refine pk_lt (cB A y k (j + 1)) n (fun _ x2 hx2 => ?_) (fun h => by omega) (hx := hx)
      rw [hx2, hx, nI_1]
      exact ih (j + 1) (by omega)
  have k0 := key i 0 (by omega)
  rw [cB_0] at k0
  unfold pX8_slotOfNth
  exact ⟨i + 1, k0⟩
theorem m_comeBy {A : AS} {y k tm : Nat} {u : SM} {Q : Int32 → SM → Prop} (hM : RM u A) (hW : WF A) (hR : YR A y u) (hy : y < 6) (hk : k < A 0 3) (htm : tm < 2 ^ 30) (hQ : Q (nI (cB A y k (tm + 1))) u) : pX9_comeBy (nI y) (nI k) (nI tm) u Q := by
  have hsh := sh_le A
  have h300 := hW.n
  have hk20 := hW.k
  have hQ2 : Q (nI (fb_ct (fun t => pk1 A y k t && decide (sl A t < tm + 1)) (A 0 9))) u := by
    rw [ct_sh (fun t ht => by unfold pk1; rw [isb_out ht]; rfl)]
    exact hQ
  unfold pX9_comeBy
  refine lpG (fun n c i => qX9_comeBy_l6 Q n (nI y) (nI k) (nI tm) c i u) (fb_ct (fun t => pk1 A y k t && decide (sl A t < tm + 1))) (A 0 9) rfl (fun n => ?_) (fun n i hi ih => ?_)
  · show qX9_comeBy_6 (qX9_comeBy_l6 Q n) Q _ _ _ _ _ _
    unfold qX9_comeBy_6
    exact pk_le (A 0 9) (A 0 9) (fun _ => hQ2) (fun h => by omega) (hx := hM.num)
  · have htel := hW.tel i hi
    have hsl := sl_lt hW hi
    have hin : vp_in (nI i) 300 := vp_in_nI (by omega) (by decide)
    show qX9_comeBy_6 (qX9_comeBy_l6 Q n) Q _ _ _ _ _ _
    unfold qX9_comeBy_6
    have skip : (pk1 A y k i && decide (sl A i < tm + 1)) = false → qX9_comeBy_70 (qX9_comeBy_l6 Q n) Q (nI y) (nI k) (nI tm) (nI i) (nI (fb_ct (fun t => pk1 A y k t && decide (sl A t < tm + 1)) i)) u := by
      intro h
      unfold qX9_comeBy_70 qX9_comeBy_71
      intro x hx x2 hx2
      rw [hx2, hx, nI_1, show (0 : Int32) = nI 0 from rfl, nI_add, Nat.add_zero, ← ct_n (P := fun t => pk1 A y k t && decide (sl A t < tm + 1)) h]
      exact ih
    refine pk_le (A 0 9) i (fun h => by omega) (fun _ => m_isBird hM hW hR hy hi (b2i_p (fun h => skip (by unfold pk1; rw [h]; rfl)) (fun h => ⟨hin, hin, ?_⟩))) (hx := hM.num)
    obtain ⟨i1, i2, i3⟩ := isb_in h
    have hb := bkd_lt hW i1
    rw [nI_clamp (n := i) (by omega), hM.row 6 (by omega), hM.row 7 (by omega), show (60 : Int32) = nI 60 from rfl, pk_div (by omega) (by decide) (by decide), show (10 : Int32) = nI 10 from rfl, pk_mul, nI_add]
    refine pk_lt tm (sl A i) (fun c => skip (by rw [decide_eq_false (by omega), Bool.and_false])) (fun c => ?_)
    refine m_kindOfBird hM hW hR i1 i2 (m_isUnder hM hW hb (by omega) (b2i_p (fun h2 => skip (by unfold pk1; rw [h, h2]; rfl)) (fun h2 => ?_)))
    unfold qX9_comeBy_71
    intro x hx x2 hx2
    rw [hx2, hx, nI_1, nI_1, ← ct_y (P := fun t => pk1 A y k t && decide (sl A t < tm + 1)) (by unfold pk1; rw [h, h2, decide_eq_true (by omega)]; rfl)]
    exact ih
/-- which bird is asked for -/
def wN (w all : Nat) : Nat := if w = 0 then 1 else if w = 1 then (all + 1) / 2 else all
theorem m_passage {A : AS} {y k w : Nat} {u0 : SM} {Q : Int32 → SM → Prop} (hM0 : RM u0 A) (hW : WF A) (hy : y < 6) (hk : k < A 0 3) (hw : w < 3) (h0 : fb_ct (pk1 A y k) (aSh A) = 0 → ∀ v, MEq u0 v → Q (-1) v) (h1 : fb_ct (pk1 A y k) (aSh A) ≠ 0 → ∀ v i, MEq u0 v → Nth A y k (wN w (fb_ct (pk1 A y k) (aSh A))) i → Q (nI i) v) : pX9_passage (nI y) (nI k) (nI w) u0 Q := by
  have hall : fb_ct (pk1 A y k) (aSh A) ≤ 300 := ct_300 hW _ (Nat.le_refl _)
  unfold pX9_passage
  intro s1 hs1
  have hu1 : MEq u0 s1 := by rw [hs1]; exact MEq.t0 u0 0
  have hM1 := hM0.eq hu1
  refine ⟨fun h => absurd h (nI_pos (by omega)), fun _ => pk_le 6 y (fun h => by omega) (fun _ => m_isKind hM1 hW (fun h => absurd rfl (h k hk)) (fun _ _ _ => ⟨fun h => absurd h (by decide), fun _ => ⟨fun h => absurd h (nI_pos (by omega)), fun _ => pk_le w 2 (fun _ => ?_) (fun h => by omega)⟩⟩))⟩
  refine pairsOf_ok hM1 hW hy (fun u hu hR => ?_)
  have hu0 := hu1.tr hu
  have hM := hM0.eq hu0
  refine m_comeBy (tm := 300) hM hW hR hy hk (by decide) ?_
  rw [cB_all hW y k (by omega)]
  refine pk_ne (fb_ct (pk1 A y k) (aSh A)) 0 (fun hne => ?_) (fun e => h0 e u hu0)
  have hle : wN w (fb_ct (pk1 A y k) (aSh A)) ≤ fb_ct (pk1 A y k) (aSh A) := by
    unfold wN
    split
    · omega
    · split <;> omega
  obtain ⟨i, hN⟩ := Nth_ex hW hle
  have fin := h1 hne u i hu0 hN
  obtain ⟨hi, n1, n2⟩ := hN
  have cond : ∀ j, cB A y k (j + 1) ≤ fb_ct (pk1 A y k) (aSh A) := fun j => fb_ct_sub (fun t _ h => by rw [Bool.and_eq_true] at h; exact h.1)
  -- one time
  have step : ∀ (n j : Nat), j < 300 → (wN w (fb_ct (pk1 A y k) (aSh A)) ≤ cB A y k (j + 1) → qX9_passage_l63 Q n (nI y) (nI k) (nI w) (nI (fb_ct (pk1 A y k) (aSh A))) (nI (j + 1)) 1 u) → (cB A y k (j + 1) < wN w (fb_ct (pk1 A y k) (aSh A)) → qX9_passage_l63 Q n (nI y) (nI k) (nI w) (nI (fb_ct (pk1 A y k) (aSh A))) (nI (j + 1)) 0 u) → qX9_passage_l63 Q (n + 1) (nI y) (nI k) (nI w) (nI (fb_ct (pk1 A y k) (aSh A))) (nI j) 0 u := by
    intro n j hj hy1 hn1
    have c := cB_le hW y k (j + 1)
    have c2 := cond j
    show qX9_passage_63 (qX9_passage_l63 Q n) Q _ _ _ _ _ _ _
    unfold qX9_passage_63
    refine ⟨fun h => absurd rfl h, fun _ => m_comeBy hM hW hR hy hk (by omega) ?_⟩
    have yes : wN w (fb_ct (pk1 A y k) (aSh A)) ≤ cB A y k (j + 1) → qX9_passage_129 (qX9_passage_l63 Q n) Q (nI y) (nI k) (nI w) (nI (fb_ct (pk1 A y k) (aSh A))) (nI j) 1 u := by
      intro h
      unfold qX9_passage_129
      intro x hx
      rw [hx, nI_1]
      exact hy1 h
    have no : cB A y k (j + 1) < wN w (fb_ct (pk1 A y k) (aSh A)) → qX9_passage_129 (qX9_passage_l63 Q n) Q (nI y) (nI k) (nI w) (nI (fb_ct (pk1 A y k) (aSh A))) (nI j) 0 u := by
      intro h
      unfold qX9_passage_129
      intro x hx
      rw [hx, nI_1]
      exact hn1 h
    refine pk_ne w 0 (fun e0 => pk_ne w 1 (fun e1 => ?_) (fun e1 => ?_)) (fun e0 => ?_)
    · have ew : wN w (fb_ct (pk1 A y k) (aSh A)) = fb_ct (pk1 A y k) (aSh A) := by unfold wN; rw [if_neg e0, if_neg e1]
      exact pk_ne (cB A y k (j + 1)) (fb_ct (pk1 A y k) (aSh A)) (fun h => no (by omega)) (fun h => yes (by omega))
    · have ew : wN w (fb_ct (pk1 A y k) (aSh A)) = (fb_ct (pk1 A y k) (aSh A) + 1) / 2 := by unfold wN; rw [if_neg e0, if_pos e1]
      exact pk_lt (2 * cB A y k (j + 1)) (fb_ct (pk1 A y k) (aSh A)) (fun h => no (by omega)) (fun h => yes (by omega)) (hx := by rw [show (2 : Int32) = nI 2 from rfl, pk_mul])
    · have ew : wN w (fb_ct (pk1 A y k) (aSh A)) = 1 := by unfold wN; rw [if_pos e0]
      exact pk_le (cB A y k (j + 1)) 0 (fun h => no (by omega)) (fun h => yes (by omega))
  have key : ∀ (r j : Nat), j + r = i → qX9_passage_l63 Q (r + 2) (nI y) (nI k) (nI w) (nI (fb_ct (pk1 A y k) (aSh A))) (nI j) 0 u := by
    intro r
    induction r with
    | zero =>
      intro j hj
      have e : j = i := by omega
      subst e
      refine step 1 j hi (fun _ => ?_) (fun h => by omega)
      show qX9_passage_63 (qX9_passage_l63 Q 0) Q _ _ _ _ _ _ _
      unfold qX9_passage_63
      refine ⟨fun _ => ?_, fun h => absurd h (by decide)⟩
      rw [nI_pred]
      exact fin
    | succ r ih =>
      intro j hj
      have c := n2 j (by omega)
      exact step (r + 2) j (by omega) (fun h => by omega) (fun _ => ih (j + 1) (by omega))
  exact ⟨i + 2, key i 0 (by omega)⟩
theorem Nth_one {A : AS} {y k n i j : Nat} (hi : Nth A y k n i) (hj : Nth A y k n j) : i = j := by
  obtain ⟨a1, a2, a3⟩ := hi
  obtain ⟨b1, b2, b3⟩ := hj
  rcases Nat.lt_trichotomy i j with c | c | c
  · have := b3 i c; omega
  · exact c
  · have := a3 j c; omega
theorem sim_passage {σ : St} {u : SM} (hR : RelCM σ u) (x1 x2 x3 : Int32) : pX8_passage x1 x2 x3 σ (fun r v => pX9_passage x1 x2 x3 u (fun r2 u2 => r = r2 ∧ RelCM v u2)) := by
  obtain ⟨A, hW, hC, hM, hK⟩ := hR
  have hk20 := hW.k
  by_cases hg : ∃ y k w, y < 6 ∧ k < A 0 3 ∧ w < 3 ∧ x1 = nI y ∧ x2 = nI k ∧ x3 = nI w
  · obtain ⟨y, k, w, hy, hk, hw, e1, e2, e3⟩ := hg
    subst e1 e2 e3
    have hall : fb_ct (pk1 A y k) (aSh A) ≤ 300 := ct_300 hW _ (Nat.le_refl _)
    unfold pX8_passage
    refine c_isYear (fun h => absurd rfl (h y hy)) (fun _ _ _ => ⟨fun h => absurd h (by decide), fun _ => c_has hC hW (fun h => absurd rfl (h k hk)) (fun _ _ _ => ⟨fun h => absurd h (by decide), fun _ => ⟨fun h => absurd h (nI_pos (by omega)), fun _ => pk_le w 2 (fun _ => ?_) (fun h => by omega)⟩⟩)⟩)
    refine pairYear_ok hC hW hK hy (fun v hP h19 => ?_)
    have hCv := hC.eq hP.1
    have hY : YC A y v := YC.of hW hP.2.1 h19
    have fin0 : fb_ct (pk1 A y k) (aSh A) = 0 → ∀ z : St, (∀ q, q ≠ 1 → z q = v q) → pX9_passage (nI y) (nI k) (nI w) u (fun r2 u2 => (-1 : Int32) = r2 ∧ RelCM z u2) := by
      intro e z hz
      exact m_passage hM hW hy hk hw (fun _ t ht => ⟨rfl, PE.rk hW hC hM hP (fun q _ b => hz q b) ht⟩) (fun h => absurd e h)
    have fin1 : fb_ct (pk1 A y k) (aSh A) ≠ 0 → ∀ (z : St) (i : Nat), (∀ q, q ≠ 1 → z q = v q) → Nth A y k (wN w (fb_ct (pk1 A y k) (aSh A))) i → pX9_passage (nI y) (nI k) (nI w) u (fun r2 u2 => nI i = r2 ∧ RelCM z u2) := by
      intro e z i hz hN
      exact m_passage hM hW hy hk hw (fun h => absurd h e) (fun _ t j ht hj => ⟨by rw [Nth_one hN hj], PE.rk hW hC hM hP (fun q _ b => hz q b) ht⟩)
    refine lpS (fun n i σ => qX8_passage_l40 (fun r v => pX9_passage (nI y) (nI k) (nI w) u (fun r2 u2 => r = r2 ∧ RelCM v u2)) n (nI y) (nI k) (nI w) i σ) (fun i σ => (∀ q, q ≠ 1 → σ q = v q) ∧ ∀ s, s < i → σ 1 s = 0) 300 (fun n s hI => ?_) (fun n i s hi hI ih => ?_) v ⟨fun _ _ => rfl, fun s hs => absurd hs (Nat.not_lt_zero _)⟩
    · have hCs : RC s A := hCv.eq (fun q a => hI.1 q (fun e => by rw [e] at a; exact absurd a (by decide)))
      have hYs : YC A y s := hY.eq (fun q a b => hI.1 q (by omega))
      show qX8_passage_40 (qX8_passage_l40 _ n) _ _ _ _ _ _
      unfold qX8_passage_40
      refine pk_le 300 300 (fun _ => ?_) (fun h => by omega)
      refine c_addSlots hCs hW hYs hy hk hI.2 (fun z hz hz1 => ?_)
      have hzv : ∀ q, q ≠ 1 → z q = v q := fun q a => (hz q a).trans (hI.1 q a)
      refine pk_ne (fb_ct (pk1 A y k) (aSh A)) 0 (fun hne => ?_) (fun e => fin0 e z hzv)
      have hle : wN w (fb_ct (pk1 A y k) (aSh A)) ≤ fb_ct (pk1 A y k) (aSh A) := by
        unfold wN
        split
        · omega
        · split <;> omega
      obtain ⟨i, hN⟩ := Nth_ex hW hle
      have res := fin1 hne z i hzv hN
      have go : pX8_slotOfNth (nI (wN w (fb_ct (pk1 A y k) (aSh A)))) z (fun r v => pX9_passage (nI y) (nI k) (nI w) u (fun r2 u2 => r = r2 ∧ RelCM v u2)) := c_slotOfNth hW (by omega) hN hz1 res
      refine pk_ne w 0 (fun e0 => pk_ne w 1 (fun e1 => ?_) (fun e1 => ?_)) (fun e0 => ?_)
      · have ew : wN w (fb_ct (pk1 A y k) (aSh A)) = fb_ct (pk1 A y k) (aSh A) := by unfold wN; rw [if_neg e0, if_neg e1]
        unfold qX8_passage_111
        rw [ew] at go
        exact go
      · have ew : wN w (fb_ct (pk1 A y k) (aSh A)) = (fb_ct (pk1 A y k) (aSh A) + 1) / 2 := by unfold wN; rw [if_neg e0, if_pos e1]
        unfold qX8_passage_111
        rw [nI_1, show (2 : Int32) = nI 2 from rfl, pk_div (by omega) (by decide) (by decide)]
        rw [ew] at go
        exact go
      · have ew : wN w (fb_ct (pk1 A y k) (aSh A)) = 1 := by unfold wN; rw [if_pos e0]
        rw [ew] at go
        exact go
    · show qX8_passage_40 (qX8_passage_l40 _ n) _ _ _ _ _ _
      unfold qX8_passage_40
      rw [nI_clamp (n := i) (by omega)]
      refine pk_le 300 i (fun h => by omega) (fun _ => ⟨vp_in_nI hi (by decide), fun s11 h11 x hx => ?_⟩)
      rw [hx, nI_1]
      refine ih s11 ⟨fun q a => by rw [h11, su_k _ _ _ a]; exact hI.1 q a, fun q hq => ?_⟩
      rw [h11]
      by_cases a : q = i
      · subst a; rw [su_s]
      · rw [su_j _ _ _ a]; exact hI.2 q (by omega)
  · have fin : pX9_passage x1 x2 x3 u (fun r2 u2 => (-1 : Int32) = r2 ∧ RelCM σ u2) := by
      unfold pX9_passage
      intro s1 hs1
      have hu1 : MEq u s1 := by rw [hs1]; exact MEq.t0 u 0
      have rk : (-1 : Int32) = -1 ∧ RelCM σ s1 := ⟨rfl, relK hW hC hM (CE.rf σ) hK hu1⟩
      refine ⟨fun _ => rk, fun h0 => ⟨fun _ => rk, fun h1 => m_isKind (hM.eq hu1) hW (fun _ => ⟨fun _ => rk, fun h => absurd rfl h⟩) (fun k hk e2 => ⟨fun _ => rk, fun _ => ⟨fun _ => rk, fun h2 => ⟨fun h3 => ?_, fun _ => rk⟩⟩⟩)⟩⟩
      obtain ⟨y, hy, e1⟩ := ix1 (n := 6) h0 h1 (by decide)
      obtain ⟨w, hw, e3⟩ := ix3 (n := 2) h2 h3 (by decide)
      exact absurd ⟨y, k, w, hy, hk, hw, e1, e2, e3⟩ hg
    unfold pX8_passage
    refine c_isYear (fun _ => ⟨fun _ => fin, fun h => absurd rfl h⟩) (fun y hy e1 => ⟨fun _ => fin, fun _ => c_has hC hW (fun _ => ⟨fun _ => fin, fun h => absurd rfl h⟩) (fun k hk e2 => ⟨fun _ => fin, fun _ => ⟨fun _ => fin, fun h2 => ⟨fun h3 => ?_, fun _ => fin⟩⟩⟩)⟩)
    obtain ⟨w, hw, e3⟩ := ix3 (n := 2) h2 h3 (by decide)
    exact absurd ⟨y, k, w, hy, hk, hw, e1, e2, e3⟩ hg
