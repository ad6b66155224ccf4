/-! the class's followBirds(), pairDate(), pairYear() -/
def prc (A : AS) (d q i t : Nat) : Prop := t < aSh A ∧ aDt A t = d ∧ (A 8 t < q ∨ (A 8 t = q ∧ fb_ct (aAt A d q) t < i))
def FB (A : AS) (d q i : Nat) (σ : St) : Prop := (∀ t, prc A d q i t → σ 22 t = nI (fs A t)) ∧ ∀ t, prc A d q i t → (∀ w, UPo A t = some w → ¬ prc A d q i w) → ∃ k, k < A 0 3 ∧ σ 23 (fs A t) = nI k ∧ kb A k t = bkd A (fs A t)
theorem FB_step {A : AS} {d q i t : Nat} {σ v : St} (hW : WF A) (hi : i < cn A d q) (ht : ls A d q i = t) (h : FB A d q i σ) (h22 : ∀ x, v 22 x = if x = t then nI (fs A t) else σ 22 x) (h23 : ∀ x, x ≠ fs A t → v 23 x = σ 23 x) (hk : ∃ k, k < A 0 3 ∧ v 23 (fs A t) = nI k ∧ kb A k t = bkd A (fs A t)) : FB A d q (i + 1) v := by
  have hl := ls_in hi
  have hn := nth_in hi
  have e3 : fb_ct (aAt A d q) t = i := by rw [← ht]; exact hn.2.2
  rw [ht] at hl
  have ep : ∀ x, prc A d q (i + 1) x ↔ prc A d q i x ∨ x = t := by
    intro x
    constructor
    · rintro ⟨a, b, c⟩
      rcases c with c | ⟨c1, c2⟩
      · exact Or.inl ⟨a, b, Or.inl c⟩
      · by_cases e : fb_ct (aAt A d q) x = i
        · right
          exact fb_ct_kth_one (p := aAt A d q) (decide_eq_true ⟨b, c1⟩) (decide_eq_true ⟨hl.2.1, hl.2.2⟩) (e.trans e3.symm)
        · exact Or.inl ⟨a, b, Or.inr ⟨c1, by omega⟩⟩
    · rintro (⟨a, b, c⟩ | a)
      · rcases c with c | ⟨c1, c2⟩
        · exact ⟨a, b, Or.inl c⟩
        · exact ⟨a, b, Or.inr ⟨c1, by omega⟩⟩
      · subst a
        exact ⟨hl.1, hl.2.1, Or.inr ⟨hl.2.2, by omega⟩⟩
  refine ⟨fun x hx => ?_, fun x hx hno => ?_⟩
  · rw [h22]
    by_cases a : x = t
    · subst a; rw [if_pos rfl]
    · rw [if_neg a]
      exact h.1 x (((ep x).mp hx).resolve_right a)
  · by_cases a : x = t
    · subst a; exact hk
    · have hx2 := ((ep x).mp hx).resolve_right a
      have hne : fs A x ≠ fs A t := by
        intro e
        obtain ⟨b1, b2, b3⟩ := hx2
        have b4 : A 8 x ≤ q := by omega
        by_cases c : A 8 x = q
        · exact a (fs_one hW (A 8 t) x t (Nat.le_refl _) b1 hl.1 (by omega) e)
        · obtain ⟨w, w1, w2, w3⟩ := fs_up hW (A 8 t) x t (Nat.le_refl _) b1 hl.1 (by omega) e
          obtain ⟨u1, u2, u3, u4, u5⟩ := UP_in w1
          refine hno w w1 ((ep w).mpr ?_)
          by_cases f : A 8 w = q
          · exact Or.inr (fs_one hW (A 8 t) w t (Nat.le_refl _) u2 hl.1 (by omega) w3)
          · exact Or.inl ⟨u2, by omega, Or.inl (by omega)⟩
      rw [h23 _ hne]
      exact h.2 x hx2 (fun w hw hp => hno w hw ((ep w).mpr (Or.inl hp)))
/-- frames of followBirds -/
def FF (A : AS) (d : Nat) (σ v : St) : Prop := (∀ k, k ≠ 22 → k ≠ 23 → k ≠ 24 → v k = σ k) ∧ ∀ t, ¬ (t < aSh A ∧ aDt A t = d) → v 22 t = σ 22 t ∧ v 23 t = σ 23 t
theorem FF.rf (A : AS) (d : Nat) (σ : St) : FF A d σ σ := ⟨fun _ _ _ _ => rfl, fun _ _ => ⟨rfl, rfl⟩⟩
theorem FF.tr {A : AS} {d : Nat} {σ v w : St} (h : FF A d σ v) (h2 : FF A d v w) : FF A d σ w := ⟨fun k a b c => (h2.1 k a b c).trans (h.1 k a b c), fun t ht => ⟨(h2.2 t ht).1.trans (h.2 t ht).1, (h2.2 t ht).2.trans (h.2 t ht).2⟩⟩
theorem FF.C {A : AS} {d : Nat} {σ v : St} (h : FF A d σ v) : CE σ v := fun k a => by
  have a2 : k ≠ 22 ∧ k ≠ 23 ∧ k ≠ 24 := by
    unfold isW at a
    have := of_decide_eq_true a
    omega
  exact h.1 k a2.1 a2.2.1 a2.2.2
set_option maxHeartbeats 1000000 in
theorem followBirds_ok {A : AS} {σ0 : St} {d q : Nat} {Q : St → Prop} (hC0 : RC σ0 A) (hW : WF A) (hd : d < 180) (hq : q < A 0 1) (h21 : ∀ t, t < aSh A → aDt A t = d → σ0 21 t = enc (LOo A t)) (hB : FB A d q 0 σ0) (hQ : ∀ v, FF A d σ0 v → FB A d (q + 1) 0 v → Q v) : pX0_followBirds (nI d) (nI q) σ0 Q := by
  have h300 := hW.n
  have hp4 := hW.p
  have hk20 := hW.k
  have hsh := sh_le A
  have n12 := cn_le hW d q
  unfold pX0_followBirds
  refine gather24_ok hC0 hW hd (by omega) (fun v1 e1 l1 => ?_)
  have hC1 : RC v1 A := hC0.eq (fun k a => e1 k (fun h => by rw [h] at a; exact absurd a (by decide)))
  have hF1 : FF A d σ0 v1 := ⟨fun k _ _ c => e1 k c, fun t _ => ⟨by rw [e1 22 (by decide)], by rw [e1 23 (by decide)]⟩⟩
  have lp : ∀ (r i : Nat) (σ : St), i + r = cn A d q → FF A d σ0 σ → σ 24 = v1 24 → FB A d q i σ → qX0_followBirds_l17 Q (r + 1) (nI (cn A d q)) (nI i) σ := by
    intro r
    induction r with
    | zero =>
      intro i σ hir hF h24 hb
      have ei : i = cn A d q := by omega
      subst ei
      show qX0_followBirds_17 (qX0_followBirds_l17 Q 0) Q _ _ _
      unfold qX0_followBirds_17
      refine pk_le (cn A d q) (cn A d q) (fun _ => hQ σ hF ?_) (fun hc => by omega)
      have ep : ∀ x, prc A d (q + 1) 0 x ↔ prc A d q (cn A d q) x := by
        intro x
        constructor
        · rintro ⟨a, b, c⟩
          refine ⟨a, b, ?_⟩
          by_cases e : A 8 x = q
          · exact Or.inr ⟨e, ct_lt (P := aAt A d q) (decide_eq_true ⟨b, e⟩) a⟩
          · exact Or.inl (by omega)
        · rintro ⟨a, b, c⟩
          exact ⟨a, b, Or.inl (by omega)⟩
      exact ⟨fun x hx => hb.1 x ((ep x).mp hx), fun x hx hno => hb.2 x ((ep x).mp hx) (fun w hw hp => hno w hw ((ep w).mpr hp))⟩
    | succ r ih =>
      intro i σ hir hF h24 hb
      have hi : i < cn A d q := by omega
      obtain ⟨t1, t2, t3⟩ := ls_in hi
      have hn := (nth_in hi).2.2
      have hin : vp_in (nI i) 12 := vp_in_nI (by omega) (by decide)
      show qX0_followBirds_17 (qX0_followBirds_l17 Q (r + 1)) Q _ _ _
      unfold qX0_followBirds_17
      have hC : RC σ A := hC0.eq hF.C
      rw [nI_clamp (n := i) (by omega), h24, l1 i hi]
      refine pk_le (cn A d q) i (fun hc => by omega) (fun _ => ⟨hin, fun x3 hx3 => ?_⟩)
      subst hx3
      generalize et : ls A d q i = t at *
      have htn : t < A 0 9 := by omega
      have hkt := (hW.tel t htn).2.2.2.2.1
      have hit : vp_in (nI t) 300 := vp_in_nI (by omega) (by decide)
      have g21 : σ 21 t = enc (LOo A t) := by rw [hF.1 21 (by decide) (by decide) (by decide)]; exact h21 t t1 t2
      rw [nI_clamp (n := t) (by omega), hC.kind, g21]
      refine ⟨hit, fun x4 hx4 => ⟨hit, ?_⟩⟩
      subst hx4
      have next : ∀ v : St, FF A d σ v → v 24 = v1 24 → FB A d q (i + 1) v → qX0_followBirds_133 (qX0_followBirds_l17 Q (r + 1)) Q (nI (cn A d q)) (nI i) v := by
        intro v hFv hv24 hbv
        unfold qX0_followBirds_133
        intro x hx
        rw [hx, nI_1]
        exact ih (i + 1) v (by omega) (hF.tr hFv) hv24 hbv
      cases el : LOo A t with
      | none =>
        refine ⟨fun h => absurd h (show ¬ (0 : Int32) ≤ -1 by decide), fun _ => ⟨hit, fun s12 hs12 => ⟨hit, fun s13 hs13 => ?_⟩⟩⟩
        have ef := fs_none el
        refine next s13 ⟨fun k a b c => by rw [hs13, su_k _ _ _ b, hs12, su_k _ _ _ a], fun x hx => ?_⟩ ?_ (FB_step hW hi et hb (fun x => ?_) (fun x hx => ?_) ⟨A 9 t, hkt, ?_, ?_⟩)
        · have hxt : x ≠ t := fun e => hx (by rw [e]; exact ⟨t1, t2⟩)
          refine ⟨?_, ?_⟩
          · rw [hs13, su_k (k := 23) (q := 22) _ _ _ (by decide), hs12, su_j _ _ _ hxt]
          · rw [hs13, su_j _ _ _ hxt, hs12, su_k (k := 22) (q := 23) _ _ _ (by decide)]
        · rw [hs13, su_k (k := 23) (q := 24) _ _ _ (by decide), hs12, su_k (k := 22) (q := 24) _ _ _ (by decide)]; exact h24
        · rw [hs13, su_k (k := 23) (q := 22) _ _ _ (by decide), hs12, ef]
          by_cases a : x = t
          · subst a; rw [su_s, if_pos rfl]
          · rw [su_j _ _ _ a, if_neg a]
        · rw [ef] at hx
          rw [hs13, su_j _ _ _ hx, hs12, su_k (k := 22) (q := 23) _ _ _ (by decide)]
        · rw [ef, hs13, su_s]
        · rw [ef]; rfl
      | some s =>
        have eu := LO_iff.mp el
        obtain ⟨u1, u2, u3, u4, u5⟩ := UP_in eu
        have ef := fs_some hW el
        have hps : prc A d q i s := ⟨u1, by omega, Or.inl (by omega)⟩
        have hfi := fs_in hW (A 8 t) t (Nat.le_refl _) t1
        obtain ⟨k, k1, k2, k3⟩ := hb.2 s hps (fun w hw hp => by
          have e : t = w := Option.some.inj (eu.symm.trans hw)
          subst e
          obtain ⟨_, _, c⟩ := hp
          have : fb_ct (aAt A d q) t = i := by rw [← et]; exact hn
          omega)
        have g22 := hb.1 s hps
        have his : vp_in (nI s) 300 := vp_in_nI (by omega) (by decide)
        rw [← ef] at g22 k2 k3
        have ifs : vp_in (nI (fs A t)) 300 := vp_in_nI (by omega) (by decide)
        have efs : Int32.toNatClampNeg (nI (fs A t)) = fs A t := nI_clamp (by omega)
        simp only [enc]
        rw [nI_clamp (n := s) (by omega), g22]
        refine ⟨fun _ => ⟨hit, his, fun x5 hx5 => ⟨hit, fun s6 hs6 => ?_⟩⟩, fun h => absurd (nI_pos' (by omega)) h⟩
        subst hx5
        have hF6 : FF A d σ s6 := ⟨fun k a b c => by rw [hs6, su_k _ _ _ a], fun x hx => by
          have hxt : x ≠ t := fun e => hx (by rw [e]; exact ⟨t1, t2⟩)
          exact ⟨by rw [hs6, su_j _ _ _ hxt], by rw [hs6, su_k (k := 22) (q := 23) _ _ _ (by decide)]⟩⟩
        have f23 : s6 23 = σ 23 := by rw [hs6, su_k (k := 22) (q := 23) _ _ _ (by decide)]
        have f24 : s6 24 = v1 24 := by rw [hs6, su_k (k := 22) (q := 24) _ _ _ (by decide)]; exact h24
        have f22 : ∀ x, s6 22 x = if x = t then nI (fs A t) else σ 22 x := fun x => by
          rw [hs6]
          by_cases a : x = t
          · subst a; rw [su_s, if_pos rfl]
          · rw [su_j _ _ _ a, if_neg a]
        have d1 := dp_le20 hW hkt
        have d2 := dp_le20 hW k1
        refine c_depth (hC.eq hF6.C) hW hkt ⟨ifs, ?_⟩
        rw [efs, f23, k2]
        refine c_depth (hC.eq hF6.C) hW k1 ?_
        have ek := kb_some hW (k := k) eu
        refine pk_le (dp A (A 9 t)) (dp A k) (fun hle => ?_) (fun hlt => ⟨ifs, fun s11 hs11 => ?_⟩)
        · refine next s6 hF6 f24 (FB_step hW hi et hb f22 (fun x _ => by rw [f23]) ⟨k, k1, by rw [f23]; exact k2, ?_⟩)
          have e : dk A k (A 9 t) = k := by unfold dk; rw [if_neg (by omega)]
          rw [e] at ek
          rw [← ek]
          exact k3
        · refine next s11 ⟨fun k a b c => by rw [hs11, su_k _ _ _ b]; exact hF6.1 k a b c, fun x hx => ?_⟩ ?_ (FB_step hW hi et hb (fun x => ?_) (fun x hx => ?_) ⟨A 9 t, hkt, ?_, ?_⟩)
          · have hxf : x ≠ fs A t := fun e => hx (by rw [e]; exact ⟨hfi.1, by omega⟩)
            refine ⟨?_, ?_⟩
            · rw [hs11, su_k (k := 23) (q := 22) _ _ _ (by decide)]; exact (hF6.2 x hx).1
            · rw [hs11, su_j _ _ _ hxf]; exact (hF6.2 x hx).2
          · rw [hs11, su_k (k := 23) (q := 24) _ _ _ (by decide)]; exact f24
          · rw [hs11, su_k (k := 23) (q := 22) _ _ _ (by decide)]; exact f22 x
          · rw [hs11, su_j _ _ _ hx, f23]
          · rw [hs11, su_s]
          · have e : dk A k (A 9 t) = A 9 t := by unfold dk; rw [if_pos (by omega)]
            rw [e] at ek
            rw [← ek]
            exact k3
  refine ⟨cn A d q + 1, lp (cn A d q) 0 v1 (by omega) hF1 rfl ?_⟩
  refine ⟨fun x hx => ?_, fun x hx hno => ?_⟩
  · rw [e1 22 (by decide)]; exact hB.1 x hx
  · rw [e1 23 (by decide)]; exact hB.2 x hx hno
/-- what the class keeps of a date -/
def Cch (A : AS) (σ : St) (d : Nat) : Prop := ∀ t, t < aSh A → aDt A t = d → σ 20 t = enc (UPo A t) ∧ σ 21 t = enc (LOo A t) ∧ σ 22 t = nI (fs A t) ∧ (LOo A t = none → σ 23 t = nI (bkd A t))
def Cache (A : AS) (σ : St) : Prop := ∀ d, d < 180 → σ 19 d ≠ 0 → Cch A σ d
/-- pairing keeps what was told and what was paired -/
def PE (A : AS) (σ v : St) : Prop := CE σ v ∧ Cache A v ∧ ∀ x, σ 19 x ≠ 0 → v 19 x ≠ 0
theorem PE.tr {A : AS} {σ v w : St} (h : PE A σ v) (h2 : PE A v w) : PE A σ w := ⟨h.1.tr h2.1, h2.2.1, fun x hx => h2.2.2 x (h.2.2 x hx)⟩
set_option maxHeartbeats 1000000 in
theorem pairDate_ok {A : AS} {σ0 : St} {d : Nat} {Q : St → Prop} (hC0 : RC σ0 A) (hW : WF A) (hK : Cache A σ0) (hd : d < 180) (hQ : ∀ v, PE A σ0 v → v 19 d ≠ 0 → Q v) : pX0_pairDate (nI d) σ0 Q := by
  have h300 := hW.n
  have hp4 := hW.p
  have hsh := sh_le A
  unfold pX0_pairDate
  rw [nI_clamp (n := d) (by omega)]
  refine ⟨vp_in_nI hd (by decide), fun h0 => ?_, fun h0 => hQ σ0 ⟨CE.rf σ0, hK, fun _ a => a⟩ h0⟩
  -- birds
  have l85 : ∀ (σ2 : St), FP σ0 σ2 → (∀ t, σ2 20 t = if t < aSh A ∧ aDt A t = d then enc (UPo A t) else σ0 20 t) → (∀ t, σ2 21 t = if t < aSh A ∧ aDt A t = d then enc (LOo A t) else σ0 21 t) → ∀ (r q : Nat) (σ : St), q + r = A 0 1 → FF A d σ2 σ → FB A d q 0 σ → qX0_pairDate_l85 Q (r + 1) (nI d) (nI q) σ := by
    intro σ2 hP2 h20 h21 r
    induction r with
    | zero =>
      intro q σ hqr hF hB
      have eq : q = A 0 1 := by omega
      subst eq
      have hC : RC σ A := (hC0.eq hP2.C).eq hF.C
      show qX0_pairDate_85 (qX0_pairDate_l85 Q 0) Q _ _ _
      unfold qX0_pairDate_85
      refine pk_le (A 0 1) (A 0 1) (fun _ => ⟨vp_in_nI hd (by decide), fun s7 hs7 => ?_⟩) (fun hc => by omega) (hx := hC.posts)
      rw [nI_clamp (n := d) (by omega), nar_1] at hs7
      have k7 : ∀ k, k ≠ 19 → s7 k = σ k := fun k hk => by rw [hs7, su_k _ _ _ hk]
      have f19 : ∀ x, x ≠ d → s7 19 x = σ0 19 x := fun x hx => by
        rw [hs7, su_j _ _ _ hx, hF.1 19 (by decide) (by decide) (by decide), hP2 19 (by decide) (by decide) (by decide)]
      have f19d : s7 19 d ≠ 0 := by rw [hs7, su_s]; decide
      have hce : CE σ0 s7 := (hP2.C.tr hF.C).tr (by rw [hs7]; exact CE.up σ (by decide) _ _)
      refine hQ s7 ⟨hce, fun d2 hd2 hn t ht1 ht2 => ?_, fun x hx => ?_⟩ f19d
      · rw [k7 20 (by decide), k7 21 (by decide), k7 22 (by decide), k7 23 (by decide), hF.1 20 (by decide) (by decide) (by decide), hF.1 21 (by decide) (by decide) (by decide), h20, h21]
        by_cases a : d2 = d
        · subst a
          rw [if_pos ⟨ht1, ht2⟩, if_pos ⟨ht1, ht2⟩]
          have hpt := (hW.tel t (by omega)).2.2.2.1
          refine ⟨rfl, rfl, hB.1 t ⟨ht1, ht2, Or.inl hpt⟩, fun el => ?_⟩
          obtain ⟨w, w1, w2, w3, w4⟩ := top_of hW (A 0 1) t (by omega) ht1
          have hpw := (hW.tel w (by omega)).2.2.2.1
          obtain ⟨k, k1, k2, k3⟩ := hB.2 w ⟨w1, by omega, Or.inl hpw⟩ (fun z hz => by rw [w4] at hz; cases hz)
          rw [w2, fs_none el] at k2 k3
          rw [kb_none w4] at k3
          rw [k2, k3]
        · have hne : ¬ (t < aSh A ∧ aDt A t = d) := fun e => a (by omega)
          rw [if_neg hne, if_neg hne, (hF.2 t hne).1, (hF.2 t hne).2, hP2 22 (by decide) (by decide) (by decide), hP2 23 (by decide) (by decide) (by decide)]
          exact hK d2 hd2 (by rw [← f19 d2 a]; exact hn) t ht1 ht2
      · by_cases a : x = d
        · subst a; exact f19d
        · rw [f19 x a]; exact hx
    | succ r ih =>
      intro q σ hqr hF hB
      have hC : RC σ A := (hC0.eq hP2.C).eq hF.C
      show qX0_pairDate_85 (qX0_pairDate_l85 Q (r + 1)) Q _ _ _
      unfold qX0_pairDate_85
      refine pk_le (A 0 1) q (fun hc => by omega) (fun _ => ?_) (hx := hC.posts)
      refine followBirds_ok hC hW hd (by omega) (fun t t1 t2 => ?_) hB (fun v hFv hBv x hx => ?_)
      · rw [hF.1 21 (by decide) (by decide) (by decide), h21, if_pos ⟨t1, t2⟩]
      · rw [hx, nI_1]
        exact ih (q + 1) v (by omega) (hF.tr hFv) hBv
  -- pairs
  have l58 : ∀ (σ1 : St), (∀ k, k ≠ 20 → k ≠ 21 → σ1 k = σ0 k) → (∀ x, ¬ (x < aSh A ∧ aDt A x = d) → σ1 20 x = σ0 20 x ∧ σ1 21 x = σ0 21 x) → (∀ x, x < aSh A → aDt A x = d → σ1 20 x = -1 ∧ σ1 21 x = -1) → ∀ (r q : Nat) (σ : St), q + r = A 0 1 - 1 → FP σ1 σ → DU A d q (σ1 20) (σ 20) → DL A d q (σ1 21) (σ 21) → qX0_pairDate_l58 Q (r + 1) (nI d) (nI q) σ := by
    intro σ1 hk1 ho1 hm1 r
    have hP1 : FP σ0 σ1 := fun k _ b c => hk1 k b c
    induction r with
    | zero =>
      intro q σ hqr hP hU hL
      have hC : RC σ A := (hC0.eq hP1.C).eq hP.C
      show qX0_pairDate_58 (qX0_pairDate_l58 Q 0) Q _ _ _
      unfold qX0_pairDate_58
      rw [nI_1]
      refine pk_le (A 0 1) (q + 1) (fun _ => ⟨A 0 1 + 1, ?_⟩) (fun hc => by omega) (hx := hC.posts)
      refine l85 σ (hP1.tr hP) (fun t => ?_) (fun t => ?_) (A 0 1) 0 σ (by omega) (FF.rf A d σ) ⟨fun x hx => ?_, fun x hx _ => ?_⟩
      · rw [DU_end (fun x x1 x2 => (hm1 x x1 x2).1) (by omega) hU t]
        by_cases a : t < aSh A ∧ aDt A t = d
        · rw [if_pos a, if_pos a]
        · rw [if_neg a, if_neg a]; exact (ho1 t a).1
      · rw [DL_end hW (by omega) hL t]
        by_cases a : t < aSh A ∧ aDt A t = d
        · rw [if_pos a, if_pos a]
        · rw [if_neg a, if_neg a]; exact (ho1 t a).2
      · obtain ⟨_, _, c⟩ := hx; omega
      · obtain ⟨_, _, c⟩ := hx; omega
    | succ r ih =>
      intro q σ hqr hP hU hL
      have hC : RC σ A := (hC0.eq hP1.C).eq hP.C
      show qX0_pairDate_58 (qX0_pairDate_l58 Q (r + 1)) Q _ _ _
      unfold qX0_pairDate_58
      rw [nI_1]
      refine pk_le (A 0 1) (q + 1) (fun hc => by omega) (fun _ => ?_) (hx := hC.posts)
      refine pairPosts_ok hC hW hd (by omega) (fun v c hPv hc h20 h21 x hx => ?_)
      rw [hx]
      refine ih (q + 1) v (by omega) (hP.tr hPv) ?_ ?_
      · rw [h20]; exact DU_step (fun x x1 x2 => (hm1 x x1 x2).1) (by omega) hc hU
      · rw [h21]; exact DL_step (fun x x1 x2 => (hm1 x x1 x2).2) (by omega) hc hL
  -- the rows of that date are emptied
  have l12 : ∀ (r t : Nat) (σ : St), t + r = aSh A → (∀ k, k ≠ 20 → k ≠ 21 → σ k = σ0 k) → (∀ x, ¬ (x < aSh A ∧ aDt A x = d) → σ 20 x = σ0 20 x ∧ σ 21 x = σ0 21 x) → (∀ x, x < t → aDt A x = d → σ 20 x = -1 ∧ σ 21 x = -1) → qX0_pairDate_l12 Q (r + 1) (nI d) (nI t) σ := by
    intro r
    induction r with
    | zero =>
      intro t σ htr hk ho hm
      have et : t = aSh A := by omega
      subst et
      show qX0_pairDate_12 (qX0_pairDate_l12 Q 0) Q _ _ _
      unfold qX0_pairDate_12
      refine pk_le (aSh A) (aSh A) (fun _ => ⟨A 0 1 - 1 + 1, ?_⟩) (fun hc => by omega) (hx := by rw [hk 12 (by decide) (by decide)]; exact hC0.shown)
      exact l58 σ hk ho hm (A 0 1 - 1) 0 σ (by omega) (FP.rf σ) (DU_0 A d _) (DL_0 (fun x x1 x2 => (hm x x1 x2).2))
    | succ r ih =>
      intro t σ htr hk ho hm
      have ht : t < A 0 9 := by omega
      have hdt := dt_lt hW ht
      have hin : vp_in (nI t) 300 := vp_in_nI (by omega) (by decide)
      show qX0_pairDate_12 (qX0_pairDate_l12 Q (r + 1)) Q _ _ _
      unfold qX0_pairDate_12
      rw [nI_clamp (n := t) (by omega)]
      refine pk_le (aSh A) t (fun hc => by omega) (fun _ => ⟨hin, ?_⟩) (hx := by rw [hk 12 (by decide) (by decide)]; exact hC0.shown)
      refine pk_ne (aDt A t) d (fun h => ?_) (fun h => ⟨hin, fun s1 hs1 => ⟨hin, fun s2 hs2 => ?_⟩⟩) (hx := by rw [hk 13 (by decide) (by decide)]; exact hC0.date t ht)
      · unfold qX0_pairDate_50
        intro x hx
        rw [hx, nI_1]
        refine ih (t + 1) σ (by omega) hk ho (fun x h1 h2 => hm x ?_ h2)
        by_cases a : x = t
        · subst a; exact absurd h2 h
        · omega
      · unfold qX0_pairDate_50
        intro x hx
        rw [hx, nI_1]
        have g20 : s2 20 = s1 20 := by rw [hs2, su_k (k := 21) (q := 20) _ _ _ (by decide)]
        have g21 : s1 21 = σ 21 := by rw [hs1, su_k (k := 20) (q := 21) _ _ _ (by decide)]
        refine ih (t + 1) s2 (by omega) (fun k a b => by rw [hs2, su_k _ _ _ b, hs1, su_k _ _ _ a]; exact hk k a b) (fun x hx => ?_) (fun x h1 h2 => ?_)
        · have a : x ≠ t := fun e => hx (by rw [e]; exact ⟨by omega, h⟩)
          obtain ⟨b1, b2⟩ := ho x hx
          exact ⟨by rw [g20, hs1, su_j _ _ _ a]; exact b1, by rw [hs2, su_j _ _ _ a, g21]; exact b2⟩
        · by_cases a : x = t
          · subst a
            exact ⟨by rw [g20, hs1, su_s], by rw [hs2, su_s]⟩
          · obtain ⟨b1, b2⟩ := hm x (by omega) h2
            exact ⟨by rw [g20, hs1, su_j _ _ _ a]; exact b1, by rw [hs2, su_j _ _ _ a, g21]; exact b2⟩
  exact ⟨aSh A + 1, l12 (aSh A) 0 σ0 (by omega) (fun _ _ _ => rfl) (fun _ _ => ⟨rfl, rfl⟩) (fun x hx => absurd hx (Nat.not_lt_zero _))⟩
theorem c_isIn {A : AS} {σ : St} {Q : Int32 → St → Prop} {t y : Nat} (hC : RC σ A) (hW : WF A) (ht : t < A 0 9) (hy : y < 6) (hQ : Q (b2i (decide (A 5 t = y))) σ) : pX2_isIn (nI t) (nI y) σ Q := by
  have h300 := hW.n
  have htel := hW.tel t ht
  have hdt := dt_lt hW ht
  unfold pX2_isIn
  rw [nI_clamp (n := t) (by omega), hC.date t ht, show (30 : Int32) = nI 30 from rfl, pk_div (by omega) (by decide) (by decide)]
  have e : aDt A t / 30 = A 5 t := by unfold aDt; omega
  rw [e]
  refine ⟨vp_in_nI (by omega) (by decide), pk_ne (A 5 t) y (fun h => ?_) (fun h => ?_)⟩
  · rw [decide_eq_false h] at hQ; exact hQ
  · rw [decide_eq_true h] at hQ; exact hQ
theorem pairYear_ok {A : AS} {σ0 : St} {y : Nat} {Q : St → Prop} (hC0 : RC σ0 A) (hW : WF A) (hK : Cache A σ0) (hy : y < 6) (hQ : ∀ v, PE A σ0 v → (∀ t, t < aSh A → A 5 t = y → v 19 (aDt A t) ≠ 0) → Q v) : pX0_pairYear (nI y) σ0 Q := by
  have h300 := hW.n
  have hsh := sh_le A
  have lp : ∀ (r t : Nat) (σ : St), t + r = aSh A → PE A σ0 σ → (∀ x, x < t → A 5 x = y → σ 19 (aDt A x) ≠ 0) → qX0_pairYear_l2 Q (r + 1) (nI y) (nI t) σ := by
    intro r
    induction r with
    | zero =>
      intro t σ htr hP hx
      have et : t = aSh A := by omega
      subst et
      have hC : RC σ A := hC0.eq hP.1
      show qX0_pairYear_2 (qX0_pairYear_l2 Q 0) Q _ _ _
      unfold qX0_pairYear_2
      exact pk_le (aSh A) (aSh A) (fun _ => hQ σ hP hx) (fun hc => by omega) (hx := hC.shown)
    | succ r ih =>
      intro t σ htr hP hx
      have ht : t < A 0 9 := by omega
      have hC : RC σ A := hC0.eq hP.1
      show qX0_pairYear_2 (qX0_pairYear_l2 Q (r + 1)) Q _ _ _
      unfold qX0_pairYear_2
      refine pk_le (aSh A) t (fun hc => by omega) (fun _ => ?_) (hx := hC.shown)
      refine c_isIn hC hW ht hy (b2i_p (fun h => ?_) (fun h => ⟨vp_in_nI (by omega) (by decide), ?_⟩))
      · unfold qX0_pairYear_38
        intro x hx2
        rw [hx2, nI_1]
        refine ih (t + 1) σ (by omega) hP (fun x h1 h2 => hx x ?_ h2)
        by_cases a : x = t
        · subst a; exact absurd h2 (of_decide_eq_false h)
        · omega
      · rw [nI_clamp (n := t) (by omega), hC.date t ht]
        refine pairDate_ok hC hW hP.2.1 (dt_lt hW ht) (fun v hPv hv => ?_)
        unfold qX0_pairYear_38
        intro x hx2
        rw [hx2, nI_1]
        refine ih (t + 1) v (by omega) (hP.tr hPv) (fun x h1 h2 => ?_)
        by_cases a : x = t
        · subst a; exact hv
        · exact hPv.2.2 _ (hx x (by omega) h2)
  unfold pX0_pairYear
  exact ⟨aSh A + 1, lp (aSh A) 0 σ0 (by omega) ⟨CE.rf σ0, hK, fun _ a => a⟩ (fun x hx => absurd hx (Nat.not_lt_zero _))⟩
