/-! kinds: the model's calls; who may be one bird -/
theorem b2i_t : b2i true = 1 := rfl
theorem b2i_f : b2i false = 0 := rfl
theorem b2i_p {b : Bool} {P R : Prop} (f : b = false → P) (g : b = true → R) : (b2i b = 0 → P) ∧ (¬ b2i b = 0 → R) := by
  cases b with
  | false => exact ⟨fun _ => f rfl, fun h => absurd rfl h⟩
  | true => exact ⟨fun h => absurd h (show ¬ (1 : Int32) = 0 by decide), fun _ => g rfl⟩
theorem b2i_q {b : Bool} {P R : Prop} (f : b = false → P) (g : b = true → R) : (¬ b2i b = 0 → R) ∧ (b2i b = 0 → P) := ⟨(b2i_p f g).2, (b2i_p f g).1⟩
theorem m_isUnder {A : AS} {u : SM} {Q : Int32 → SM → Prop} {k j : Nat} (hM : RM u A) (hW : WF A) (hk : k < A 0 3) (hj : j < 32) (hQ : Q (b2i (un A k j)) u) : pX9_isUnder (nI k) (nI j) u Q := by
  have h20 := hW.k
  unfold pX9_isUnder
  induction k using Nat.strongRecOn with
  | _ k ih =>
    have ek : Int32.toNatClampNeg (nI k) = k := nI_clamp (by omega)
    by_cases e : k = j
    · subst e
      refine ⟨1, ?_⟩
      show qX9_isUnder_2 (qX9_isUnder_l2 Q 0) Q _ _ _
      unfold qX9_isUnder_2
      refine ⟨fun h => absurd h (nI_pos (by omega)), fun _ => ⟨fun _ => ?_, fun h => absurd rfl h⟩⟩
      unfold qX9_isUnder_21
      refine ⟨fun h => absurd rfl h, fun _ => ?_⟩
      rw [un_self] at hQ
      exact hQ
    · have hne : ¬ nI k = nI j := fun h => e ((nI_eq (by omega) (by omega)).mp h)
      by_cases e0 : k = 0
      · subst e0
        refine ⟨2, ?_⟩
        show qX9_isUnder_2 (qX9_isUnder_l2 Q 1) Q _ _ _
        unfold qX9_isUnder_2
        refine ⟨fun h => absurd h (nI_pos (by omega)), fun _ => ⟨fun h => absurd h hne, fun _ => ⟨vp_in_nI (by omega) (by decide), fun x hx => ?_⟩⟩⟩
        rw [ek, hM.root] at hx
        subst hx
        show qX9_isUnder_2 (qX9_isUnder_l2 Q 0) Q _ _ _
        unfold qX9_isUnder_2
        refine ⟨fun _ => ?_, fun h => absurd neg1_lt h⟩
        unfold qX9_isUnder_21
        have hm : ¬ (-1 : Int32) = nI j := fun h => absurd (by rw [← h]; exact neg1_lt) (nI_pos (n := j) (by omega))
        refine ⟨fun _ => ?_, fun h => absurd h hm⟩
        rw [un_0, decide_eq_false (fun h => e h.symm)] at hQ
        exact hQ
      · have hp := hW.par k (by omega) hk
        rw [un_step hW hk e0, decide_eq_false (fun h => e h.symm), Bool.false_or] at hQ
        obtain ⟨n, hn⟩ := ih (A 2 k) hp (by omega) hQ
        refine ⟨n + 1, ?_⟩
        show qX9_isUnder_2 (qX9_isUnder_l2 Q n) Q _ _ _
        unfold qX9_isUnder_2
        refine ⟨fun h => absurd h (nI_pos (by omega)), fun _ => ⟨fun h => absurd h hne, fun _ => ⟨vp_in_nI (by omega) (by decide), fun x hx => ?_⟩⟩⟩
        rw [ek, hM.par k e0] at hx
        subst hx
        exact hn
theorem m_depth {A : AS} {u : SM} {Q : Int32 → SM → Prop} {k : Nat} (hM : RM u A) (hW : WF A) (hk : k < A 0 3) (hQ : Q (nI (dp A k)) u) : pX9_depth (nI k) u Q := by
  have h20 := hW.k
  have key : ∀ (k c : Nat), k < A 0 3 → Q (nI (c + dp A k)) u → ∃ n, qX9_depth_l9 Q n (nI c) (u.1 2 k) u := by
    intro k
    induction k using Nat.strongRecOn with
    | _ k ih =>
      intro c hk hQ
      by_cases e0 : k = 0
      · subst e0
        refine ⟨1, ?_⟩
        show qX9_depth_9 (qX9_depth_l9 Q 0) Q _ _ _
        unfold qX9_depth_9
        rw [hM.root]
        refine ⟨fun _ => ?_, fun h => absurd neg1_lt h⟩
        rw [dp_0] at hQ
        exact hQ
      · have hp := hW.par k (by omega) hk
        obtain ⟨n, hn⟩ := ih (A 2 k) hp (c + 1) (by omega) (by rw [dp_step hW hk e0] at hQ; rw [show c + 1 + dp A (A 2 k) = c + (dp A (A 2 k) + 1) by omega]; exact hQ)
        refine ⟨n + 1, ?_⟩
        show qX9_depth_9 (qX9_depth_l9 Q n) Q _ _ _
        unfold qX9_depth_9
        rw [hM.par k e0, nI_clamp (by omega)]
        refine ⟨fun h => absurd h (nI_pos (by omega)), fun _ x hx => ⟨vp_in_nI (by omega) (by decide), fun y hy => ?_⟩⟩
        rw [hx, nI_1, hy]
        exact hn
  unfold pX9_depth
  rw [nI_clamp (by omega)]
  refine ⟨vp_in_nI (by omega) (by decide), fun x hx => ?_⟩
  rw [hx]
  exact key k 0 hk (by rw [Nat.zero_add]; exact hQ)
theorem m_isLeaf {A : AS} {u : SM} {Q : Int32 → SM → Prop} {k : Nat} (hM : RM u A) (hW : WF A) (hk : k < A 0 3) (hQ : Q (b2i (lf A k)) u) : pX9_isLeaf (nI k) u Q := by
  have h20 := hW.k
  have lp : ∀ (r q : Nat), q + r = A 0 3 → qX9_isLeaf_l4 Q (r + 1) (nI k) (b2i (decide (fb_ct (fun q => decide (0 < q ∧ A 2 q = k)) q = 0))) (nI q) u := by
    intro r
    induction r with
    | zero =>
      intro q hqr
      have eq : q = A 0 3 := by omega
      show qX9_isLeaf_4 (qX9_isLeaf_l4 Q 0) Q _ _ _ _
      unfold qX9_isLeaf_4
      refine pk_le (A 0 3) q (fun _ => ⟨?_, ?_⟩) (fun hc => by omega) (hx := hM.kinds)
      · cases decide (fb_ct (fun q => decide (0 < q ∧ A 2 q = k)) q = 0) <;> rfl
      · rw [eq]; exact hQ
    | succ r ih =>
      intro q hqr
      show qX9_isLeaf_4 (qX9_isLeaf_l4 Q (r + 1)) Q _ _ _ _
      unfold qX9_isLeaf_4
      refine pk_le (A 0 3) q (fun hc => by omega) (fun _ => ?_) (hx := hM.kinds)
      have nx := ih (q + 1) (by omega)
      have es := fb_ct_succ (fun q => decide (0 < q ∧ A 2 q = k)) q
      refine b2i_p (fun h0 => ?_) (fun h0 => ⟨vp_in_nI (by omega) (by decide), ?_⟩)
      · unfold qX9_isLeaf_30 qX9_isLeaf_31
        intro x hx
        rw [hx, nI_1]
        have h1 : decide (fb_ct (fun q => decide (0 < q ∧ A 2 q = k)) (q + 1) = 0) = false := by
          have := of_decide_eq_false h0
          exact decide_eq_false (by omega)
        rw [h1] at nx
        exact nx
      · rw [nI_clamp (by omega)]
        have h00 := of_decide_eq_true h0
        by_cases hc : 0 < q ∧ A 2 q = k
        · rw [if_pos (decide_eq_true hc)] at es
          refine ⟨fun _ => ?_, fun h => absurd (by rw [hM.par q (by omega), hc.2]) h⟩
          unfold qX9_isLeaf_30 qX9_isLeaf_31
          intro x hx
          rw [hx, nI_1]
          have h1 : decide (fb_ct (fun q => decide (0 < q ∧ A 2 q = k)) (q + 1) = 0) = false := decide_eq_false (by omega)
          rw [h1] at nx
          exact nx
        · rw [if_neg (by simp only [decide_eq_true_eq]; exact hc)] at es
          have hne : ¬ u.1 2 q = nI k := by
            by_cases e0 : q = 0
            · subst e0
              rw [hM.root]
              exact fun h => absurd (by rw [← h]; exact neg1_lt) (nI_pos (n := k) (by omega))
            · have hp := hW.par q (by omega) (by omega)
              rw [hM.par q e0]
              exact fun h => hc ⟨by omega, (nI_eq (by omega) (by omega)).mp h⟩
          refine ⟨fun h => absurd h hne, fun _ => ?_⟩
          unfold qX9_isLeaf_31
          intro x hx
          rw [hx, nI_1]
          have h1 : decide (fb_ct (fun q => decide (0 < q ∧ A 2 q = k)) (q + 1) = 0) = true := decide_eq_true (by omega)
          rw [h1] at nx
          exact nx
  unfold pX9_isLeaf
  exact ⟨A 0 3 + 1, lp (A 0 3) 0 (by omega)⟩
theorem m_isLeafOf {A : AS} {u : SM} {Q : Int32 → SM → Prop} {k j : Nat} (hM : RM u A) (hW : WF A) (hk : k < A 0 3) (hj : j < 32) (hQ : Q (b2i (lf A k && un A k j)) u) : pX9_isLeafOf (nI k) (nI j) u Q := by
  unfold pX9_isLeafOf
  refine m_isLeaf hM hW hk (b2i_p (fun h => ?_) (fun h => m_isUnder hM hW hk hj (b2i_p (fun h2 => ?_) (fun h2 => ?_))))
  · rw [h] at hQ; exact hQ
  · rw [h, h2] at hQ; exact hQ
  · rw [h, h2] at hQ; exact hQ
theorem m_isKnown {A : AS} {u : SM} {Q : Int32 → SM → Prop} {t : Nat} (hM : RM u A) (hW : WF A) (ht : t < A 0 9) (hQ : Q (b2i (decide (t < aSh A))) u) : pX9_isKnown (nI t) u Q := by
  have h300 := hW.n
  have hkd := kd_le hW
  have hnow := hW.now
  have hs := (hW.tel t ht).2.2.2.2.2
  have hkn := kn_iff hW ht
  unfold pX9_isKnown
  refine ⟨fun h => absurd h (nI_pos (by omega)), fun _ => ?_⟩
  refine pk_le (A 0 9) t (fun hc => by omega) (fun _ => ⟨vp_in_nI (by omega) (by decide), ?_⟩) (hx := hM.num)
  rw [nI_clamp (by omega), hM.row 10 (by omega) t, hM.asOf, hM.now]
  have fin : qX9_isKnown_36 Q (nI (aKd A)) (nI (A 10 t)) u := by
    unfold qX9_isKnown_36
    refine pk_lt (aKd A) (A 10 t) (fun h => ?_) (fun h => ?_)
    · rw [decide_eq_false (fun h2 => by have := hkn.mpr h2; omega)] at hQ
      exact hQ
    · rw [decide_eq_true (hkn.mp h)] at hQ
      exact hQ
  unfold aAs
  by_cases e : A 0 8 = 0
  · rw [if_pos e]
    refine ⟨fun h => absurd h (by decide), fun _ => ?_⟩
    have e2 : aKd A = A 0 7 := by unfold aKd; rw [if_pos e]
    rw [e2] at fin
    exact fin
  · rw [if_neg e]
    have hao := hW.asOf
    refine ⟨fun _ => ?_, fun h => absurd (nI_pos' (by omega)) h⟩
    have e2 : aKd A = A 0 8 - 1 := by unfold aKd; rw [if_neg e]
    rw [e2] at fin
    exact fin
theorem dp_le20 {A : AS} (hW : WF A) {k : Nat} (hk : k < A 0 3) : dp A k ≤ 24 := by
  have := un_ct hW k hk
  have := fb_ct_le (un A k) 24
  omega
/-! who may be one bird -/
def fly (A : AS) (k : Nat) (d m : Int32) : Bool := decide (¬ m < 1 ∧ ¬ d < nI (A 3 k) * m ∧ ¬ nI (A 4 k) * m < d)
def mtK (A : AS) (a b : Nat) : Nat := if un A a b = true then a else b
def mt (A : AS) (s t : Nat) : Bool := (un A (A 9 s) (A 9 t) || un A (A 9 t) (A 9 s)) && fly A (mtK A (A 9 s) (A 9 t)) ((nI (A 1 (A 8 t)) - nI (A 1 (A 8 s))) * 60) (nI (A 7 t) - nI (A 7 s))
theorem c_canFly {A : AS} {σ : St} {Q : Int32 → St → Prop} {k : Nat} {w m : Int32} (hC : RC σ A) (hW : WF A) (hk : k < A 0 3) (hQ : Q (b2i (fly A k (w * 60) m)) σ) : pX1_canFly (nI k) w m σ Q := by
  have h20 := hW.k
  unfold pX1_canFly
  rw [nI_clamp (by omega), hC.slow, hC.fast]
  intro x hx
  subst hx
  have hin : vp_in (nI k) 20 := vp_in_nI (by omega) (by decide)
  unfold fly at hQ
  refine ⟨fun h => ?_, fun h => ⟨hin, fun h2 => ?_, fun h2 => ⟨hin, fun h3 => ?_, fun h3 => ?_⟩⟩⟩
  · rw [decide_eq_false (fun a => a.1 h)] at hQ; exact hQ
  · rw [decide_eq_false (fun a => a.2.1 h2)] at hQ; exact hQ
  · rw [decide_eq_false (fun a => a.2.2 h3)] at hQ; exact hQ
  · rw [decide_eq_true ⟨h, h2, h3⟩] at hQ; exact hQ
theorem c_meet {A : AS} {σ : St} {Q : Int32 → St → Prop} {s t : Nat} {w : Int32} (hC : RC σ A) (hW : WF A) (hs : s < A 0 9) (ht : t < A 0 9) (hw : w = nI (A 1 (A 8 t)) - nI (A 1 (A 8 s))) (hQ : Q (b2i (mt A s t)) σ) : pX0_meet (nI s) (nI t) w σ Q := by
  have h20 := hW.k
  have h300 := hW.n
  have ks := (hW.tel s hs).2.2.2.2.1
  have kt := (hW.tel t ht).2.2.2.2.1
  unfold pX0_meet
  rw [nI_clamp (by omega), nI_clamp (by omega), hC.kind, hC.kind]
  have his : vp_in (nI s) 300 := vp_in_nI (by omega) (by decide)
  have hit : vp_in (nI t) 300 := vp_in_nI (by omega) (by decide)
  refine ⟨his, hit, ?_⟩
  have fin : ∀ k, k < A 0 3 → b2i (mt A s t) = b2i (fly A k (w * 60) (nI (A 7 t) - nI (A 7 s))) → (nI k = -1 → Q 0 σ) ∧ (¬ nI k = -1 → vp_in (nI t) 300 ∧ vp_in (nI s) 300 ∧ pX1_canFly (nI k) w ((σ 14 t) - (σ 14 s)) σ (fun r4 s3 => (r4 = 0 → Q 0 s3) ∧ (¬ r4 = 0 → Q 1 s3))) := by
    intro k hk e
    refine ⟨fun h => absurd (by rw [h]; exact neg1_lt) (nI_pos (n := k) (by omega)), fun _ => ⟨hit, his, ?_⟩⟩
    rw [hC.min, hC.min]
    refine c_canFly hC hW hk (b2i_p (fun h => ?_) (fun h => ?_))
    · rw [e, h] at hQ; exact hQ
    · rw [e, h] at hQ; exact hQ
  unfold pX1_deeperOf
  refine c_isUnder hC hW ks (by omega) (b2i_p (fun h => c_isUnder hC hW kt (by omega) (b2i_p (fun h2 => ?_) (fun h2 => ?_))) (fun h => ?_))
  · refine ⟨fun _ => ?_, fun h3 => absurd rfl h3⟩
    have e : mt A s t = false := by unfold mt; rw [h, h2]; rfl
    rw [e] at hQ
    exact hQ
  · refine fin (A 9 t) kt ?_
    unfold mt mtK
    rw [h, h2, hw]
    rfl
  · refine fin (A 9 s) ks ?_
    unfold mt mtK
    rw [h, hw]
    rfl
theorem m_meets {A : AS} {u : SM} {Q : Int32 → SM → Prop} {s t : Nat} (hM : RM u A) (hW : WF A) (hs : s < A 0 9) (ht : t < A 0 9) (hQ : Q (b2i (mt A s t)) u) : pX9_meets (nI s) (nI t) u Q := by
  have h20 := hW.k
  have h300 := hW.n
  have hp4 := hW.p
  have ks := (hW.tel s hs).2.2.2.2.1
  have kt := (hW.tel t ht).2.2.2.2.1
  have ps := (hW.tel s hs).2.2.2.1
  have pt := (hW.tel t ht).2.2.2.1
  have his : vp_in (nI s) 300 := vp_in_nI (by omega) (by decide)
  have hit : vp_in (nI t) 300 := vp_in_nI (by omega) (by decide)
  have fin : ∀ k, k < A 0 3 → b2i (mt A s t) = b2i (fly A k ((nI (A 1 (A 8 t)) - nI (A 1 (A 8 s))) * 60) (nI (A 7 t) - nI (A 7 s))) → qX9_meets_57 Q (nI s) (nI t) (nI k) u := by
    intro k hk e
    unfold qX9_meets_57
    rw [nI_clamp (by omega), nI_clamp (by omega), nI_clamp (by omega), hM.row 8 (by omega), hM.row 8 (by omega), nI_clamp (by omega), nI_clamp (by omega), hM.row 7 (by omega), hM.row 7 (by omega), hM.row 1 (by omega), hM.row 1 (by omega), hM.row 3 (by omega), hM.row 4 (by omega)]
    refine ⟨hit, his, fun x hx => ⟨hit, vp_in_nI (by omega) (by decide), his, vp_in_nI (by omega) (by decide), fun y hy => ?_⟩⟩
    subst hx hy
    rw [e] at hQ
    unfold fly at hQ
    have hin : vp_in (nI k) 20 := vp_in_nI (by omega) (by decide)
    refine ⟨fun h => ?_, fun h => ⟨hin, fun h2 => ?_, fun h2 => ⟨hin, fun h3 => ?_, fun h3 => ?_⟩⟩⟩
    · rw [decide_eq_false (fun a => a.1 h)] at hQ; exact hQ
    · rw [decide_eq_false (fun a => a.2.1 h2)] at hQ; exact hQ
    · rw [decide_eq_false (fun a => a.2.2 h3)] at hQ; exact hQ
    · rw [decide_eq_true ⟨h, h2, h3⟩] at hQ; exact hQ
  have mid : (un A (A 9 s) (A 9 t) || un A (A 9 t) (A 9 s)) = true → qX9_meets_37 Q (nI s) (nI t) (nI (A 9 s)) (nI (A 9 t)) u := by
    intro h
    have d1 := dp_le20 hW ks
    have d2 := dp_le20 hW kt
    unfold qX9_meets_37
    refine m_depth hM hW ks (m_depth hM hW kt (pk_lt (dp A (A 9 s)) (dp A (A 9 t)) (fun hc => fin (A 9 t) kt ?_) (fun hc => fin (A 9 s) ks ?_)))
    · have e1 : un A (A 9 s) (A 9 t) = false := by
        cases e : un A (A 9 s) (A 9 t) with
        | false => rfl
        | true => have := (un_le hW _ ks _ e).2.1; omega
      unfold mt mtK
      rw [h, e1]
      rfl
    · have e1 : un A (A 9 s) (A 9 t) = true := by
        cases e : un A (A 9 s) (A 9 t) with
        | true => rfl
        | false =>
          rw [e, Bool.false_or] at h
          by_cases e2 : A 9 s = A 9 t
          · rw [e2, un_self] at e; cases e
          · have := (un_le hW _ kt _ h).2.2 e2
            omega
      unfold mt mtK
      rw [h, e1]
      rfl
  unfold pX9_meets
  rw [nI_clamp (by omega), nI_clamp (by omega), hM.row 9 (by omega), hM.row 9 (by omega)]
  refine ⟨his, fun x hx => ⟨hit, fun y hy => ?_⟩⟩
  subst hx hy
  refine m_isUnder hM hW ks (by omega) (b2i_q (fun h => m_isUnder hM hW kt (by omega) (b2i_q (fun h2 => ?_) (fun h2 => ?_))) (fun h => ?_))
  · have e : mt A s t = false := by unfold mt; rw [h, h2]; rfl
    rw [e] at hQ
    exact hQ
  · exact mid (by rw [h2]; simp)
  · exact mid (by rw [h]; simp)
