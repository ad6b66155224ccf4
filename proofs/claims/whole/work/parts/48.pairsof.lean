/-! the model's pairsOf(), firstOf(), isBird(), kindOfBird() -/
def YR (A : AS) (y : Nat) (u : SM) : Prop := ∀ t, t < 300 → u.1 13 t = (if t < aSh A ∧ A 5 t = y then enc (UPo A t) else -1) ∧ u.1 14 t = (if t < aSh A ∧ A 5 t = y then enc (LOo A t) else -1)
def YD (A : AS) (y dy : Nat) (u : SM) : Prop := ∀ t, t < 300 → u.1 13 t = (if t < aSh A ∧ A 5 t = y ∧ A 6 t < dy then enc (UPo A t) else -1) ∧ u.1 14 t = (if t < aSh A ∧ A 5 t = y ∧ A 6 t < dy then enc (LOo A t) else -1)
set_option maxHeartbeats 1000000 in
theorem pairsOf_s {A : AS} {y : Nat} {u0 : SM} {Q : SM → Prop} (hM0 : RM u0 A) (hW : WF A) (hy : y < 6) (hQ : ∀ v, MES u0 v → YR A y v → Q v) : pX9_pairsOf (nI y) u0 Q := by
  have h300 := hW.n
  have hp4 := hW.p
  have hsh := sh_le A
  have l31 : ∀ (r dy : Nat) (u : SM), dy + r = 30 → MES u0 u → YD A y dy u → qX9_pairsOf_l31 Q (r + 1) (nI y) (nI dy) u := by
    intro r
    induction r with
    | zero =>
      intro dy u hr hE hD
      have e : dy = 30 := by omega
      subst e
      show qX9_pairsOf_31 (qX9_pairsOf_l31 Q 0) Q _ _ _
      unfold qX9_pairsOf_31
      refine pk_le 30 30 (fun _ => hQ u hE (fun t ht => ?_)) (fun hc => by omega)
      obtain ⟨a, b⟩ := hD t ht
      have hi : t < aSh A → A 6 t < 30 := fun h => (hW.tel t (by omega)).2.1
      have ii : (t < aSh A ∧ A 5 t = y ∧ A 6 t < 30) ↔ (t < aSh A ∧ A 5 t = y) := ⟨fun h => ⟨h.1, h.2.1⟩, fun h => ⟨h.1, h.2, hi h.1⟩⟩
      exact ⟨a.trans (if_iff ii _ _), b.trans (if_iff ii _ _)⟩
    | succ r ih =>
      intro dy u hr hE hD
      show qX9_pairsOf_31 (qX9_pairsOf_l31 Q (r + 1)) Q _ _ _
      unfold qX9_pairsOf_31
      refine pk_le 30 dy (fun hc => by omega) (fun _ => ⟨A 0 1 - 1 + 1, ?_⟩)
      have h13 : ∀ t, t < aSh A → aDt A t = 30 * y + dy → u.1 13 t = -1 := fun t h1 h2 => by
        have e := (dt_iff hW (y := y) (dy := dy) (show t < A 0 9 by omega) (by omega)).mp h2
        rw [(hD t (by omega)).1, if_neg (by omega)]
      have h14 : ∀ t, t < aSh A → aDt A t = 30 * y + dy → u.1 14 t = -1 := fun t h1 h2 => by
        have e := (dt_iff hW (y := y) (dy := dy) (show t < A 0 9 by omega) (by omega)).mp h2
        rw [(hD t (by omega)).2, if_neg (by omega)]
      have l39 : ∀ (r2 q : Nat) (w : SM), q + r2 = A 0 1 - 1 → MES u0 w → DU A (30 * y + dy) q (u.1 13) (w.1 13) → DL A (30 * y + dy) q (u.1 14) (w.1 14) → qX9_pairsOf_l39 (qX9_pairsOf_l31 Q (r + 1)) Q (r2 + 1) (nI y) (nI dy) (nI q) w := by
        intro r2
        induction r2 with
        | zero =>
          intro q w hq hEw hU hL
          have hM := hM0.eqS hEw
          show qX9_pairsOf_39 (qX9_pairsOf_l31 Q (r + 1)) (qX9_pairsOf_l39 (qX9_pairsOf_l31 Q (r + 1)) Q 0) Q _ _ _ _
          unfold qX9_pairsOf_39
          rw [nI_1]
          refine pk_le (A 0 1) (q + 1) (fun _ => fun x hx => ?_) (fun hc => by omega) (hx := hM.posts)
          rw [hx, nI_1]
          refine ih (dy + 1) w (by omega) hEw (fun t ht => ?_)
          rw [DU_end h13 (by omega) hU t, DL_end hW (by omega) hL t, (hD t ht).1, (hD t ht).2]
          by_cases a : t < aSh A ∧ aDt A t = 30 * y + dy
          · have e := (dt_iff hW (y := y) (dy := dy) (show t < A 0 9 by omega) (by omega)).mp a.2
            rw [if_pos a, if_pos a, if_pos ⟨a.1, e.1, by omega⟩, if_pos ⟨a.1, e.1, by omega⟩]
            exact ⟨rfl, rfl⟩
          · rw [if_neg a, if_neg a]
            have ii : (t < aSh A ∧ A 5 t = y ∧ A 6 t < dy) ↔ (t < aSh A ∧ A 5 t = y ∧ A 6 t < dy + 1) := by
              constructor
              · intro h; exact ⟨h.1, h.2.1, by omega⟩
              · intro h
                refine ⟨h.1, h.2.1, ?_⟩
                by_cases e : A 6 t = dy
                · exact absurd ⟨h.1, (dt_iff hW (y := y) (dy := dy) (show t < A 0 9 by omega) (by omega)).mpr ⟨h.2.1, e⟩⟩ a
                · omega
            exact ⟨if_iff ii _ _, if_iff ii _ _⟩
        | succ r2 ih2 =>
          intro q w hq hEw hU hL
          have hM := hM0.eqS hEw
          show qX9_pairsOf_39 (qX9_pairsOf_l31 Q (r + 1)) (qX9_pairsOf_l39 (qX9_pairsOf_l31 Q (r + 1)) Q (r2 + 1)) Q _ _ _ _
          unfold qX9_pairsOf_39
          rw [nI_1]
          refine pk_le (A 0 1) (q + 1) (fun hc => by omega) (fun _ => ?_) (hx := hM.posts)
          refine pairs_ok hM hW hy (by omega) (by omega) (fun v c hEv hc e13 e14 x hx => ?_)
          rw [hx]
          refine ih2 (q + 1) v (by omega) (hEw.tr hEv) ?_ ?_
          · rw [e13]; exact DU_step h13 (by omega) hc hU
          · rw [e14]; exact DL_step h14 (by omega) hc hL
      exact l39 (A 0 1 - 1) 0 u (by omega) hE (DU_0 A _ _) (DL_0 h14)
  have l2 : ∀ (r t : Nat) (u : SM), t + r = 300 → MES u0 u → (∀ x, x < t → u.1 13 x = -1 ∧ u.1 14 x = -1) → qX9_pairsOf_l2 Q (r + 1) (nI y) (nI t) u := by
    intro r
    induction r with
    | zero =>
      intro t u hr hE h
      have e : t = 300 := by omega
      subst e
      show qX9_pairsOf_2 (qX9_pairsOf_l2 Q 0) Q _ _ _
      unfold qX9_pairsOf_2
      refine pk_le 300 300 (fun _ => ⟨31, l31 30 0 u (by omega) hE (fun x hx => ?_)⟩) (fun hc => by omega)
      rw [if_neg (by omega), if_neg (by omega)]
      exact h x hx
    | succ r ih =>
      intro t u hr hE h
      have hin : vp_in (nI t) 300 := vp_in_nI (by omega) (by decide)
      show qX9_pairsOf_2 (qX9_pairsOf_l2 Q (r + 1)) Q _ _ _
      unfold qX9_pairsOf_2
      rw [nI_clamp (n := t) (by omega)]
      refine pk_le 300 t (fun hc => by omega) (fun _ => ⟨hin, fun s1 hs1 => ⟨hin, fun s2 hs2 x hx => ?_⟩⟩)
      rw [hx, nI_1]
      have hE1 : MES u s1 := by rw [hs1]; exact MES.up u (by omega) _ _
      have hE2 : MES s1 s2 := by rw [hs2]; exact MES.up s1 (by omega) _ _
      refine ih (t + 1) s2 (by omega) ((hE.tr hE1).tr hE2) (fun x hx => ?_)
      have g13 : s2.1 13 = s1.1 13 := by rw [hs2, mk_k _ _ _ (by decide)]
      have g14 : s1.1 14 = u.1 14 := by rw [hs1, mk_k _ _ _ (by decide)]
      by_cases a : x = t
      · subst a
        exact ⟨by rw [g13, hs1, mk_s], by rw [hs2, mk_s]⟩
      · obtain ⟨b1, b2⟩ := h x (by omega)
        exact ⟨by rw [g13, hs1, mk_j _ _ _ a]; exact b1, by rw [hs2, mk_j _ _ _ a, g14]; exact b2⟩
  unfold pX9_pairsOf
  exact ⟨301, l2 300 0 u0 (by omega) (MES.rf u0) (fun x hx => absurd hx (Nat.not_lt_zero _))⟩
theorem pairsOf_ok {A : AS} {y : Nat} {u0 : SM} {Q : SM → Prop} (hM0 : RM u0 A) (hW : WF A) (hy : y < 6) (hQ : ∀ v, MEq u0 v → YR A y v → Q v) : pX9_pairsOf (nI y) u0 Q := pairsOf_s hM0 hW hy (fun v hv hR => hQ v hv.M hR)
theorem YR.up {A : AS} {y t : Nat} {u : SM} (h : YR A y u) (hW : WF A) (ht : t < aSh A) (hy : A 5 t = y) : u.1 13 t = enc (UPo A t) := by
  have h300 := hW.n
  have hsh := sh_le A
  rw [(h t (by omega)).1, if_pos ⟨ht, hy⟩]
theorem YR.lo {A : AS} {y t : Nat} {u : SM} (h : YR A y u) (hW : WF A) (ht : t < aSh A) (hy : A 5 t = y) : u.1 14 t = enc (LOo A t) := by
  have h300 := hW.n
  have hsh := sh_le A
  rw [(h t (by omega)).2, if_pos ⟨ht, hy⟩]
theorem yr_of {A : AS} (hW : WF A) {s t : Nat} (hs : s < aSh A) (ht : t < aSh A) (h : aDt A s = aDt A t) : A 5 s = A 5 t := by
  have hsh := sh_le A
  have a := hW.tel s (by omega)
  have b := hW.tel t (by omega)
  unfold aDt at h
  omega
theorem m_firstOf {A : AS} {y : Nat} {u : SM} {Q : Int32 → SM → Prop} (hW : WF A) (hR : YR A y u) : ∀ (n t : Nat), A 8 t ≤ n → t < aSh A → A 5 t = y → Q (nI (fs A t)) u → pX9_firstOf (nI t) u Q := by
  have h300 := hW.n
  have hsh := sh_le A
  have key : ∀ (n t : Nat), A 8 t ≤ n → t < aSh A → A 5 t = y → Q (nI (fs A t)) u → qX9_firstOf_l2 Q (n + 1) (nI t) u := by
    intro n
    induction n with
    | zero =>
      intro t hn ht hy hQ
      show qX9_firstOf_2 (qX9_firstOf_l2 Q 0) Q _ _
      unfold qX9_firstOf_2
      rw [nI_clamp (n := t) (by omega), hR.lo hW ht hy]
      refine ⟨vp_in_nI (by omega) (by decide), ?_⟩
      cases el : LOo A t with
      | none => rw [fs_none el] at hQ; exact ⟨fun _ => hQ, fun h => absurd neg1_lt h⟩
      | some s => have := (UP_in (LO_iff.mp el)).2.2.2.1; omega
    | succ n ih =>
      intro t hn ht hy hQ
      have hin : vp_in (nI t) 300 := vp_in_nI (by omega) (by decide)
      show qX9_firstOf_2 (qX9_firstOf_l2 Q (n + 1)) Q _ _
      unfold qX9_firstOf_2
      rw [nI_clamp (n := t) (by omega), hR.lo hW ht hy]
      refine ⟨hin, ?_⟩
      cases el : LOo A t with
      | none => rw [fs_none el] at hQ; exact ⟨fun _ => hQ, fun h => absurd neg1_lt h⟩
      | some s =>
        obtain ⟨u1, u2, u3, u4, u5⟩ := UP_in (LO_iff.mp el)
        refine ⟨fun h => absurd h (nI_pos (n := s) (by omega)), fun _ => ⟨hin, fun x hx => ?_⟩⟩
        rw [hx]
        rw [fs_some hW el] at hQ
        exact ih s (by omega) u1 ((yr_of hW u1 u2 u3.symm).trans hy) hQ
  intro n t a b c d
  unfold pX9_firstOf
  exact ⟨n + 1, key n t a b c d⟩
/-- a bird of a year, told by its first telling -/
noncomputable def isb (A : AS) (y t : Nat) : Bool := decide (t < aSh A ∧ A 5 t = y ∧ LOo A t = none)
theorem m_isBird {A : AS} {y t : Nat} {u : SM} {Q : Int32 → SM → Prop} (hM : RM u A) (hW : WF A) (hR : YR A y u) (hy : y < 6) (ht : t < A 0 9) (hQ : Q (b2i (isb A y t)) u) : pX9_isBird (nI t) (nI y) u Q := by
  have h300 := hW.n
  have hsh := sh_le A
  have htel := hW.tel t ht
  have hin : vp_in (nI t) 300 := vp_in_nI (by omega) (by decide)
  unfold pX9_isBird
  unfold isb at hQ
  rw [nI_clamp (n := t) (by omega)]
  refine m_isKnown hM hW ht (b2i_p (fun h => ?_) (fun h => ⟨hin, ?_⟩))
  · rw [decide_eq_false (fun a => of_decide_eq_false h a.1)] at hQ; exact hQ
  have hk := of_decide_eq_true h
  refine pk_ne (A 5 t) y (fun h1 => ?_) (fun h1 => ⟨hin, ?_⟩) (hx := hM.row 5 (by omega) t)
  · rw [decide_eq_false (fun a => h1 a.2.1)] at hQ; exact hQ
  rw [hR.lo hW hk h1]
  cases el : LOo A t with
  | none =>
    refine ⟨fun h => absurd h (show ¬ (0 : Int32) ≤ -1 by decide), fun _ => ?_⟩
    rw [decide_eq_true ⟨hk, h1, el⟩] at hQ; exact hQ
  | some s =>
    have u1 := (UP_in (LO_iff.mp el)).1
    refine ⟨fun _ => ?_, fun h => absurd (nI_pos' (n := s) (by omega)) h⟩
    rw [decide_eq_false (fun a => by rw [el] at a; exact absurd a.2.2 (fun e => by cases e))] at hQ; exact hQ
theorem m_kindOfBird {A : AS} {y t : Nat} {u : SM} {Q : Int32 → SM → Prop} (hM : RM u A) (hW : WF A) (hR : YR A y u) (ht : t < aSh A) (hy : A 5 t = y) (hQ : Q (nI (bkd A t)) u) : pX9_kindOfBird (nI t) u Q := by
  have h300 := hW.n
  have hsh := sh_le A
  have hk20 := hW.k
  have key : ∀ (n k t : Nat), A 0 1 ≤ A 8 t + n → t < aSh A → A 5 t = y → k < A 0 3 → Q (nI (kb A k t)) u → qX9_kindOfBird_l14 Q (n + 1) (nI k) (enc (UPo A t)) u := by
    intro n
    induction n with
    | zero =>
      intro k t hn ht hy hk hQ
      show qX9_kindOfBird_14 (qX9_kindOfBird_l14 Q 0) Q _ _ _
      unfold qX9_kindOfBird_14
      cases eu : UPo A t with
      | none => rw [kb_none eu] at hQ; exact ⟨fun _ => hQ, fun h => absurd neg1_lt h⟩
      | some s => have := (UP_in eu).2.2.2; omega
    | succ n ih =>
      intro k t hn ht hy hk hQ
      show qX9_kindOfBird_14 (qX9_kindOfBird_l14 Q (n + 1)) Q _ _ _
      unfold qX9_kindOfBird_14
      cases eu : UPo A t with
      | none => rw [kb_none eu] at hQ; exact ⟨fun _ => hQ, fun h => absurd neg1_lt h⟩
      | some s =>
        obtain ⟨u1, u2, u3, u4, u5⟩ := UP_in eu
        have hks := (hW.tel s (by omega)).2.2.2.2.1
        have hin : vp_in (nI s) 300 := vp_in_nI (by omega) (by decide)
        have d1 := dp_le20 hW hks
        have d2 := dp_le20 hW hk
        have hys : A 5 s = y := (yr_of hW u2 u1 u3).trans hy
        rw [kb_some hW eu] at hQ
        simp only [enc]
        rw [nI_clamp (n := s) (by omega), hM.row 9 (by omega) s]
        refine ⟨fun h => absurd h (nI_pos (n := s) (by omega)), fun _ => ⟨hin, m_depth hM hW hks (m_depth hM hW hk (pk_le (dp A (A 9 s)) (dp A k) (fun h => ?_) (fun h => ⟨hin, ?_⟩)))⟩⟩
        · unfold qX9_kindOfBird_46
          refine ⟨hin, fun x hx => ?_⟩
          rw [hx, nI_clamp (n := s) (by omega), hR.up hW u2 hys]
          have e : dk A k (A 9 s) = k := by unfold dk; rw [if_neg (by omega)]
          rw [e] at hQ
          exact ih k s (by omega) u2 hys hk hQ
        · unfold qX9_kindOfBird_46
          refine ⟨hin, fun x hx => ?_⟩
          rw [hx, nI_clamp (n := s) (by omega), hR.up hW u2 hys, hM.row 9 (by omega) s]
          have e : dk A k (A 9 s) = A 9 s := by unfold dk; rw [if_pos (by omega)]
          rw [e] at hQ
          exact ih (A 9 s) s (by omega) u2 hys hks hQ
  have hin : vp_in (nI t) 300 := vp_in_nI (by omega) (by decide)
  unfold pX9_kindOfBird
  rw [nI_clamp (n := t) (by omega), hM.row 9 (by omega) t, hR.up hW ht hy]
  refine ⟨hin, fun x hx => ⟨hin, fun x2 hx2 => ?_⟩⟩
  subst hx hx2
  exact ⟨A 0 1 + 1, key (A 0 1) (A 9 t) t (by omega) ht hy (hW.tel t (by omega)).2.2.2.2.1 hQ⟩
/-! the class: what is kept of a year -/
def YC (A : AS) (y : Nat) (σ : St) : Prop := ∀ t, t < aSh A → A 5 t = y → σ 20 t = enc (UPo A t) ∧ σ 21 t = enc (LOo A t) ∧ σ 22 t = nI (fs A t) ∧ (LOo A t = none → σ 23 t = nI (bkd A t))
theorem YC.of {A : AS} {y : Nat} {σ : St} (hW : WF A) (hK : Cache A σ) (h : ∀ t, t < aSh A → A 5 t = y → σ 19 (aDt A t) ≠ 0) : YC A y σ := fun t ht hy => by
  have hsh := sh_le A
  exact hK (aDt A t) (dt_lt hW (by omega)) (h t ht hy) t ht rfl
theorem YC.eq {A : AS} {y : Nat} {σ v : St} (h : YC A y σ) (e : ∀ k, 20 ≤ k → k ≤ 23 → v k = σ k) : YC A y v := fun t ht hy => by
  rw [e 20 (by decide) (by decide), e 21 (by decide) (by decide), e 22 (by decide) (by decide), e 23 (by decide) (by decide)]
  exact h t ht hy
theorem c_isBirdOf {A : AS} {y t : Nat} {σ : St} {Q : Int32 → St → Prop} (hC : RC σ A) (hW : WF A) (hY : YC A y σ) (hy : y < 6) (ht : t < aSh A) (hQ : Q (b2i (isb A y t)) σ) : pX0_isBirdOf (nI t) (nI y) σ Q := by
  have h300 := hW.n
  have hsh := sh_le A
  unfold pX0_isBirdOf
  unfold isb at hQ
  rw [nI_clamp (n := t) (by omega)]
  refine c_isIn hC hW (by omega) hy (b2i_p (fun h => ?_) (fun h => ⟨vp_in_nI (by omega) (by decide), ?_⟩))
  · rw [decide_eq_false (fun a => of_decide_eq_false h a.2.1)] at hQ; exact hQ
  have h1 := of_decide_eq_true h
  have hf := (fs_in hW (A 8 t) t (Nat.le_refl _) ht).1
  refine pk_ne (fs A t) t (fun h2 => ?_) (fun h2 => ?_) (hx := (hY t ht h1).2.2.1)
  · rw [decide_eq_false (fun a => h2 (fs_none a.2.2))] at hQ; exact hQ
  · rw [decide_eq_true ⟨ht, h1, (fs_self hW ht).mp h2⟩] at hQ; exact hQ
theorem isb_out {A : AS} {y t : Nat} (h : aSh A ≤ t) : isb A y t = false := decide_eq_false (fun a => by omega)
theorem isb_in {A : AS} {y t : Nat} (h : isb A y t = true) : t < aSh A ∧ A 5 t = y ∧ LOo A t = none := of_decide_eq_true h
/-- what lies behind the shown ones doesn't count -/
theorem ct_sh {A : AS} {P : Nat → Bool} (h : ∀ t, aSh A ≤ t → P t = false) : fb_ct P (A 0 9) = fb_ct P (aSh A) := by
  have hsh := sh_le A
  have e := fb_ct_split P (aSh A) (A 0 9 - aSh A)
  have z : fb_ct (fun k => P (aSh A + k)) (A 0 9 - aSh A) = 0 := fb_ct_zero.mpr (fun k _ => h _ (by omega))
  rw [show aSh A + (A 0 9 - aSh A) = A 0 9 by omega, z] at e
  exact e
