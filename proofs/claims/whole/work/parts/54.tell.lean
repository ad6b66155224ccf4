/-! tell() -/
theorem c_toldAt {A : AS} {σ : St} {d p : Nat} {Q : Int32 → St → Prop} (hC : RC σ A) (hW : WF A) (hd : d < 180) (hp : p < 100) (hQ : Q (nI (fb_ct (aAt A d p) (A 0 9))) σ) : pX2_toldAt (nI d) (nI p) σ Q := by
  have h300 := hW.n
  have hp4 := hW.p
  unfold pX2_toldAt
  refine lpG (fun n c i => qX2_toldAt_l5 Q n (nI d) (nI p) c i σ) (fb_ct (aAt A d p)) (A 0 9) rfl (fun n => ?_) (fun n i hi ih => ?_)
  · show qX2_toldAt_5 (qX2_toldAt_l5 Q n) Q _ _ _ _ _
    unfold qX2_toldAt_5
    exact pk_le (A 0 9) (A 0 9) (fun _ => hQ) (fun h => by omega) (hx := hC.num)
  · have hdt := dt_lt hW hi
    have hpt := (hW.tel i hi).2.2.2.1
    have hin : vp_in (nI i) 300 := vp_in_nI (by omega) (by decide)
    show qX2_toldAt_5 (qX2_toldAt_l5 Q n) Q _ _ _ _ _
    unfold qX2_toldAt_5
    rw [nI_clamp (n := i) (by omega)]
    have skip : ¬ (aDt A i = d ∧ A 8 i = p) → qX2_toldAt_39 (qX2_toldAt_l5 Q n) Q (nI d) (nI p) (nI (fb_ct (aAt A d p) i)) (nI i) σ := by
      intro h
      unfold qX2_toldAt_39
      intro x hx
      rw [hx, nI_1, ← ct_n (P := aAt A d p) (decide_eq_false h)]
      exact ih
    refine pk_le (A 0 9) i (fun h => by omega) (fun _ => ⟨hin, pk_ne (aDt A i) d (fun h => skip (fun a => h a.1)) (fun h => ⟨hin, pk_ne (A 8 i) p (fun h2 => skip (fun a => h2 a.2)) (fun h2 x hx => ?_) (hx := hC.post i)⟩) (hx := hC.date i hi)⟩) (hx := hC.num)
    unfold qX2_toldAt_39
    intro x2 hx2
    rw [hx2, hx, nI_1, nI_1, ← ct_y (P := aAt A d p) (decide_eq_true ⟨h, h2⟩)]
    exact ih
/-- one telling more -/
def TB (A B : AS) (y dy m p k : Nat) : Prop := B 0 9 = A 0 9 + 1 ∧ (∀ j, j ≠ 9 → B 0 j = A 0 j) ∧ (∀ r, r ≠ 0 → (r < 5 ∨ 10 < r) → B r = A r) ∧ (∀ r i, r ≠ 0 → i ≠ A 0 9 → B r i = A r i) ∧ B 5 (A 0 9) = y ∧ B 6 (A 0 9) = dy ∧ B 7 (A 0 9) = m ∧ B 8 (A 0 9) = p ∧ B 9 (A 0 9) = k ∧ B 10 (A 0 9) = A 0 7
theorem TB_ex (A : AS) (y dy m p k : Nat) : ∃ B, TB A B y dy m p k := by
  refine ⟨fun r i => if r = 0 then (if i = 9 then A 0 9 + 1 else A 0 i) else if i = A 0 9 then (if r = 5 then y else if r = 6 then dy else if r = 7 then m else if r = 8 then p else if r = 9 then k else if r = 10 then A 0 7 else A r i) else A r i, ?_, fun j hj => ?_, fun r h0 hr => ?_, fun r i h0 hi => ?_, ?_, ?_, ?_, ?_, ?_, ?_⟩
  · simp
  · simp [hj]
  · funext i
    have a5 : ¬ r = 5 := by omega
    have a6 : ¬ r = 6 := by omega
    have a7 : ¬ r = 7 := by omega
    have a8 : ¬ r = 8 := by omega
    have a9 : ¬ r = 9 := by omega
    have a10 : ¬ r = 10 := by omega
    simp [h0, a5, a6, a7, a8, a9, a10]
  · simp [h0, hi]
  · simp
  · simp
  · simp
  · simp
  · simp
  · simp
theorem nthP_cong {P P2 : Nat → Bool} : ∀ {n : Nat}, (∀ k, k < n → P k = P2 k) → ∀ i, nthP P n i = nthP P2 n i := by
  intro n
  induction n with
  | zero => intro _ i; rfl
  | succ n ih =>
    intro h i
    show (if P n = true ∧ fb_ct P n = i then n else nthP P n i) = (if P2 n = true ∧ fb_ct P2 n = i then n else nthP P2 n i)
    rw [h n (by omega), fb_ct_cong (fun k hk => h k (by omega)), ih (fun k hk => h k (by omega)) i]
theorem nthP_no {P : Nat → Bool} {n : Nat} (h : P n = false) (i : Nat) : nthP P (n + 1) i = nthP P n i := by
  show (if P n = true ∧ fb_ct P n = i then n else nthP P n i) = nthP P n i
  rw [if_neg (fun a => by rw [h] at a; exact absurd a.1 (by decide))]
theorem nthP_lt (P : Nat → Bool) : ∀ (n i : Nat), nthP P n i < n ∨ nthP P n i = 0 := by
  intro n
  induction n with
  | zero => intro i; exact Or.inr rfl
  | succ n ih =>
    intro i
    show (if P n = true ∧ fb_ct P n = i then n else nthP P n i) < n + 1 ∨ (if P n = true ∧ fb_ct P n = i then n else nthP P n i) = 0
    split
    · left; omega
    · rcases ih i with a | a
      · left; omega
      · right; exact a
theorem TB.wf {A B : AS} {y dy m p k : Nat} (h : TB A B y dy m p k) (hW : WF A) (hy : y < 6) (hdy : dy < 30) (hm : m < 600) (hp : p < A 0 1) (hk : k < A 0 3) (hn : A 0 9 < 300) (hc : fb_ct (aAt A (30 * y + dy) p) (A 0 9) < 12) : WF B := by
  obtain ⟨f09, f0, fk, fo, g5, g6, g7, g8, g9, g10⟩ := h
  have hdt : ∀ t, t ≠ A 0 9 → aDt B t = aDt A t := fun t ht => by unfold aDt; rw [fo 5 t (by decide) ht, fo 6 t (by decide) ht]
  refine ⟨?_, ?_, ?_, ?_, ?_, by omega, ?_, fun t ht => ?_, fun s t hst ht => ?_, fun d q => ?_, ?_, ?_, ?_⟩
  · rw [f0 1 (by decide)]; exact hW.p
  · rw [f0 3 (by decide)]; exact hW.k1
  · rw [f0 3 (by decide)]; exact hW.k
  · rw [f0 7 (by decide)]; exact hW.now
  · rw [f0 7 (by decide), f0 8 (by decide)]; exact hW.asOf
  · rw [f0 3 (by decide), fk 2 (by decide) (by omega)]; exact hW.par
  · rw [f0 1 (by decide), f0 3 (by decide), f0 7 (by decide)]
    by_cases a : t = A 0 9
    · subst a
      rw [g5, g6, g7, g8, g9, g10]
      exact ⟨hy, hdy, hm, hp, hk, Nat.le_refl _⟩
    · rw [fo 5 t (by decide) a, fo 6 t (by decide) a, fo 7 t (by decide) a, fo 8 t (by decide) a, fo 9 t (by decide) a, fo 10 t (by decide) a]
      exact hW.tel t (by omega)
  · rw [fo 10 s (by decide) (by omega)]
    by_cases a : t = A 0 9
    · subst a
      rw [g10]
      exact (hW.tel s hst).2.2.2.2.2
    · rw [fo 10 t (by decide) a]
      exact hW.mono s t hst (by omega)
  · have e : fb_ct (aAt B d q) (A 0 9) = fb_ct (aAt A d q) (A 0 9) := fb_ct_cong (fun t ht => by
      unfold aAt
      rw [hdt t (by omega), fo 8 t (by decide) (by omega)])
    rw [f09, fb_ct_succ, e]
    have h12 := hW.at12 d q
    by_cases a : aAt B d q (A 0 9) = true
    · rw [if_pos a]
      have a2 := of_decide_eq_true a
      have ed : aDt B (A 0 9) = 30 * y + dy := by unfold aDt; rw [g5, g6]
      rw [ed, g8] at a2
      rw [← a2.1, ← a2.2]
      omega
    · rw [if_neg a]
      omega
  · rw [fk 11 (by decide) (by omega)]; exact hW.off
  · rw [fk 12 (by decide) (by omega)]; exact hW.wd
  · rw [fk 1 (by decide) (by omega)]; exact hW.pl
theorem TB.sh {A B : AS} {y dy m p k : Nat} (h : TB A B y dy m p k) (hW : WF A) : (aSh B = aSh A) ∨ (aSh B = A 0 9 + 1 ∧ aSh A = A 0 9) := by
  obtain ⟨f09, f0, fk, fo, g5, g6, g7, g8, g9, g10⟩ := h
  have ekd : aKd B = aKd A := by unfold aKd; rw [f0 8 (by decide), f0 7 (by decide)]
  have e : fb_ct (fun t => decide (B 10 t ≤ aKd B)) (A 0 9) = aSh A := fb_ct_cong (fun t ht => by rw [ekd, fo 10 t (by decide) (by omega)])
  have e2 : aSh B = aSh A + (if decide (A 0 7 ≤ aKd A) = true then 1 else 0) := by
    show fb_ct (fun t => decide (B 10 t ≤ aKd B)) (B 0 9) = _
    rw [f09, fb_ct_succ, e, g10, ekd]
  by_cases a : A 0 7 ≤ aKd A
  · right
    have all : aSh A = A 0 9 := fb_ct_all.mpr (fun t ht => decide_eq_true (Nat.le_trans (hW.tel t ht).2.2.2.2.2 a))
    rw [e2, if_pos (decide_eq_true a), all]
    exact ⟨rfl, rfl⟩
  · left
    rw [e2, if_neg (fun b => a (of_decide_eq_true b))]
    rfl
theorem TB.sd {A B : AS} {y dy m p k d : Nat} (h : TB A B y dy m p k) (hW : WF A) (hd : d ≠ 30 * y + dy) : SD A B d ∨ ∀ t, t < aSh B → aDt B t ≠ d := by
  have hs := h.sh hW
  obtain ⟨f09, f0, fk, fo, g5, g6, g7, g8, g9, g10⟩ := h
  have hsh := sh_le A
  have hdt : ∀ t, t ≠ A 0 9 → aDt B t = aDt A t := fun t ht => by unfold aDt; rw [fo 5 t (by decide) ht, fo 6 t (by decide) ht]
  have ed : aDt B (A 0 9) = 30 * y + dy := by unfold aDt; rw [g5, g6]
  have hat : ∀ q t, t < A 0 9 → aAt B d q t = aAt A d q t := fun q t ht => by
    unfold aAt
    rw [hdt t (by omega), fo 8 t (by decide) (by omega)]
  have hno : ∀ q, aAt B d q (A 0 9) = false := fun q => decide_eq_false (fun a => hd (by rw [← ed]; exact a.1.symm))
  by_cases h0 : A 0 9 = 0
  · right
    intro t ht e
    have : t = A 0 9 := by omega
    subst this
    exact hd (by rw [← ed]; exact e.symm)
  · left
    have el : ∀ q i, ls A d q i = ls B d q i := by
      intro q i
      unfold ls
      rcases hs with s | ⟨s1, s2⟩
      · rw [s]
        exact nthP_cong (fun t ht => (hat q t (by omega)).symm) i
      · rw [s1, s2, nthP_no (hno q)]
        exact nthP_cong (fun t ht => (hat q t ht).symm) i
    have ec : ∀ q, cn A d q = cn B d q := by
      intro q
      unfold cn
      rcases hs with s | ⟨s1, s2⟩
      · rw [s]
        exact fb_ct_cong (fun t ht => (hat q t (by omega)).symm)
      · rw [s1, s2, ct_n (hno q)]
        exact fb_ct_cong (fun t ht => (hat q t ht).symm)
    have hlt : ∀ q i, ls A d q i < A 0 9 := fun q i => by
      have := nthP_lt (aAt A d q) (aSh A) i
      unfold ls
      omega
    refine ⟨(f0 1 (by decide)).symm, (fk 2 (by decide) (by omega)).symm, el, ec, fun q i j => ?_, fun t ht _ => (fo 9 t (by decide) (by omega)).symm⟩
    unfold met
    rw [← el, ← el]
    have l1 := hlt q i
    have l2 := hlt (q + 1) j
    exact mt_cong (fk 2 (by decide) (by omega)).symm (fk 1 (by decide) (by omega)).symm (fk 3 (by decide) (by omega)).symm (fk 4 (by decide) (by omega)).symm (fo 7 _ (by decide) (by omega)).symm (fo 7 _ (by decide) (by omega)).symm (fo 8 _ (by decide) (by omega)).symm (fo 8 _ (by decide) (by omega)).symm (fo 9 _ (by decide) (by omega)).symm (fo 9 _ (by decide) (by omega)).symm
/-- the class's and the model's rows with one telling more -/
theorem TB.rc {A B : AS} {y dy m p k : Nat} {σ v : St} (h : TB A B y dy m p k) (hC : RC σ A) (hk : ∀ q, isW q = true → (q < 12 ∨ 17 < q) → v q = σ q) (h5 : v 12 5 = nI (A 0 9 + 1)) (h6 : v 12 6 = nI (aSh B)) (h13 : v 13 (A 0 9) = nI (30 * y + dy)) (h14 : v 14 (A 0 9) = nI m) (h15 : v 15 (A 0 9) = nI p) (h16 : v 16 (A 0 9) = nI k) (h17 : v 17 (A 0 9) = nI (A 0 7)) (ho : ∀ q i, 13 ≤ q → q ≤ 17 → i ≠ A 0 9 → v q i = σ q i) : RC v B := by
  obtain ⟨f09, f0, fk, fo, g5, g6, g7, g8, g9, g10⟩ := h
  have hdt : ∀ t, t ≠ A 0 9 → aDt B t = aDt A t := fun t ht => by unfold aDt; rw [fo 5 t (by decide) ht, fo 6 t (by decide) ht]
  have ed : aDt B (A 0 9) = 30 * y + dy := by unfold aDt; rw [g5, g6]
  have eas : aAs B = aAs A := by unfold aAs; rw [f0 8 (by decide)]
  refine ⟨?_, ?_, ?_, ?_, by rw [h5, f09], h6, ?_, ?_, ?_, ?_, fun j hj => ?_, ?_, ?_, fun t ht => ?_, fun i => ?_, fun i => ?_, fun i => ?_, fun i => ?_⟩
  · rw [hk 0 (by decide) (by omega), f0 7 (by decide)]; exact hC.now
  · rw [hk 0 (by decide) (by omega), eas]; exact hC.asOf
  · rw [hk 2 (by decide) (by omega), f0 1 (by decide)]; exact hC.posts
  · rw [hk 4 (by decide) (by omega), f0 3 (by decide)]; exact hC.kinds
  · rw [hk 3 (by decide) (by omega), fk 1 (by decide) (by omega)]; exact hC.place
  · rw [hk 5 (by decide) (by omega), fk 3 (by decide) (by omega)]; exact hC.slow
  · rw [hk 6 (by decide) (by omega), fk 4 (by decide) (by omega)]; exact hC.fast
  · rw [hk 7 (by decide) (by omega), f0 3 (by decide), un_cong (fk 2 (by decide) (by omega))]; exact hC.up
  · rw [f0 3 (by decide)] at hj
    have e : lf B j = lf A j := by unfold lf; rw [f0 3 (by decide), fk 2 (by decide) (by omega)]
    rw [hk 8 (by decide) (by omega), e]; exact hC.leaf j hj
  · rw [hk 10 (by decide) (by omega), fk 12 (by decide) (by omega)]; exact hC.wind
  · rw [hk 11 (by decide) (by omega), fk 11 (by decide) (by omega)]; exact hC.shut
  · by_cases a : t = A 0 9
    · subst a; rw [h13, ed]
    · rw [ho 13 t (by decide) (by decide) a, hdt t a]; exact hC.date t (by omega)
  · by_cases a : i = A 0 9
    · subst a; rw [h14, g7]
    · rw [ho 14 i (by decide) (by decide) a, fo 7 i (by decide) a]; exact hC.min i
  · by_cases a : i = A 0 9
    · subst a; rw [h15, g8]
    · rw [ho 15 i (by decide) (by decide) a, fo 8 i (by decide) a]; exact hC.post i
  · by_cases a : i = A 0 9
    · subst a; rw [h16, g9]
    · rw [ho 16 i (by decide) (by decide) a, fo 9 i (by decide) a]; exact hC.kind i
  · by_cases a : i = A 0 9
    · subst a; rw [h17, g10]
    · rw [ho 17 i (by decide) (by decide) a, fo 10 i (by decide) a]; exact hC.since i
theorem TB.rm {A B : AS} {y dy m p k : Nat} {u v : SM} (h : TB A B y dy m p k) (hM : RM u A) (h9 : v.1 0 9 = nI (A 0 9 + 1)) (h0 : ∀ j, j = 1 ∨ j = 3 ∨ j = 7 ∨ j = 8 → v.1 0 j = u.1 0 j) (hk : ∀ q, 1 ≤ q → q ≤ 12 → (q < 5 ∨ 10 < q) → v.1 q = u.1 q) (h5 : v.1 5 (A 0 9) = nI y) (h6 : v.1 6 (A 0 9) = nI dy) (h7 : v.1 7 (A 0 9) = nI m) (h8 : v.1 8 (A 0 9) = nI p) (h10 : v.1 9 (A 0 9) = nI k) (h11 : v.1 10 (A 0 9) = nI (A 0 7)) (ho : ∀ q i, 5 ≤ q → q ≤ 10 → i ≠ A 0 9 → v.1 q i = u.1 q i) : RM v B := by
  obtain ⟨f09, f0, fk, fo, g5, g6, g7, g8, g9, g10⟩ := h
  have eas : aAs B = aAs A := by unfold aAs; rw [f0 8 (by decide)]
  refine ⟨?_, ?_, ?_, ?_, by rw [h9, f09], ?_, ?_, fun q hq i => ?_⟩
  · rw [h0 1 (by omega), f0 1 (by decide)]; exact hM.posts
  · rw [h0 3 (by omega), f0 3 (by decide)]; exact hM.kinds
  · rw [h0 7 (by omega), f0 7 (by decide)]; exact hM.now
  · rw [h0 8 (by omega), eas]; exact hM.asOf
  · rw [hk 2 (by decide) (by decide) (by omega)]; exact hM.root
  · rw [hk 2 (by decide) (by decide) (by omega), fk 2 (by decide) (by omega)]; exact hM.par
  · by_cases c : q < 5 ∨ 10 < q
    · rw [hk q (by omega) (by omega) c, fk q (by omega) c]; exact hM.row q hq i
    · by_cases a : i = A 0 9
      · subst a
        rcases (show q = 5 ∨ q = 6 ∨ q = 7 ∨ q = 8 ∨ q = 9 ∨ q = 10 by omega) with e | e | e | e | e | e
        · subst e; rw [h5, g5]
        · subst e; rw [h6, g6]
        · subst e; rw [h7, g7]
        · subst e; rw [h8, g8]
        · subst e; rw [h10, g9]
        · subst e; rw [h11, g10]
      · rw [ho q i (by omega) (by omega) a, fo q i (by omega) a]; exact hM.row q hq i
theorem m_tell_loop {A : AS} {u : SM} {Q : Int32 → SM → Prop} {y dy m p k : Nat} (hM : RM u A) (hW : WF A) (hdy : dy < 30) (hy : y < 6) (hp : p < 100) (hn : A 0 9 < 300) (h1 : fb_ct (aAt A (30 * y + dy) p) (A 0 9) = 12 → Q (-1) u)
    (h2 : fb_ct (aAt A (30 * y + dy) p) (A 0 9) ≠ 12 → ∀ v : SM, v.1 0 9 = nI (A 0 9 + 1) → (∀ j, j ≠ 9 → v.1 0 j = u.1 0 j) → (∀ q, 1 ≤ q → (q < 5 ∨ 10 < q) → v.1 q = u.1 q) → v.1 5 (A 0 9) = nI y → v.1 6 (A 0 9) = nI dy → v.1 7 (A 0 9) = nI m → v.1 8 (A 0 9) = nI p → v.1 9 (A 0 9) = nI k → v.1 10 (A 0 9) = nI (A 0 7) → (∀ q i, 5 ≤ q → q ≤ 10 → i ≠ A 0 9 → v.1 q i = u.1 q i) → Q (nI (A 0 9)) v) : ∃ n, qX9_tell_l82 Q n (nI y) (nI dy) (nI m) (nI p) (nI k) 0 0 u := by
  have h300 := hW.n
  have hp4 := hW.p
  have h12 := hW.at12 (30 * y + dy) p
  refine lpG (fun n c i => qX9_tell_l82 Q n (nI y) (nI dy) (nI m) (nI p) (nI k) c i u) (fb_ct (aAt A (30 * y + dy) p)) (A 0 9) rfl (fun n => ?_) (fun n i hi ih => ?_)
  · show qX9_tell_82 (qX9_tell_l82 Q n) Q _ _ _ _ _ _ _ _
    unfold qX9_tell_82
    refine pk_le (A 0 9) (A 0 9) (fun _ => pk_ne (fb_ct (aAt A (30 * y + dy) p) (A 0 9)) 12 (fun hne => ?_) h1) (fun h => by omega) (hx := hM.num)
    have hin : vp_in (nI (A 0 9)) 300 := vp_in_nI hn (by decide)
    have ec : Int32.toNatClampNeg (nI (A 0 9)) = A 0 9 := nI_clamp (by omega)
    rw [hM.num, ec]
    refine ⟨hin, fun s8 e8 => ?_⟩
    have c8 : s8.1 0 = u.1 0 := by rw [e8, mk_k _ _ _ (by decide)]
    rw [c8, hM.num, ec]
    refine ⟨hin, fun s9 e9 => ?_⟩
    have c9 : s9.1 0 = u.1 0 := by rw [e9, mk_k _ _ _ (by decide), c8]
    rw [c9, hM.num, ec]
    refine ⟨hin, fun s10 e10 => ?_⟩
    have c10 : s10.1 0 = u.1 0 := by rw [e10, mk_k _ _ _ (by decide), c9]
    rw [c10, hM.num, ec]
    refine ⟨hin, fun s11 e11 => ?_⟩
    have c11 : s11.1 0 = u.1 0 := by rw [e11, mk_k _ _ _ (by decide), c10]
    rw [c11, hM.num, ec]
    refine ⟨hin, fun s12 e12 => ?_⟩
    have c12 : s12.1 0 = u.1 0 := by rw [e12, mk_k _ _ _ (by decide), c11]
    rw [c12, hM.num, ec, hM.now]
    refine ⟨hin, fun s13 e13 s14 e14 => ?_⟩
    have c13 : s13.1 0 = u.1 0 := by rw [e13, mk_k _ _ _ (by decide), c12]
    rw [c13, hM.num, nI_1] at e14
    rw [show s14.1 0 9 - 1 = nI (A 0 9) by rw [e14, mk_s, nI_pred]]
    refine h2 hne s14 (by rw [e14, mk_s]) (fun j hj => by rw [e14, mk_j _ _ _ hj, c13]) (fun q a b => ?_) ?_ ?_ ?_ ?_ ?_ ?_ (fun q i a b c => ?_)
    · rw [e14, mk_k _ _ _ (by omega), e13, mk_k _ _ _ (by omega), e12, mk_k _ _ _ (by omega), e11, mk_k _ _ _ (by omega), e10, mk_k _ _ _ (by omega), e9, mk_k _ _ _ (by omega), e8, mk_k _ _ _ (by omega)]
    · rw [e14, mk_k _ _ _ (by decide), e13, mk_k _ _ _ (by decide), e12, mk_k _ _ _ (by decide), e11, mk_k _ _ _ (by decide), e10, mk_k _ _ _ (by decide), e9, mk_k _ _ _ (by decide), e8, mk_s]
    · rw [e14, mk_k _ _ _ (by decide), e13, mk_k _ _ _ (by decide), e12, mk_k _ _ _ (by decide), e11, mk_k _ _ _ (by decide), e10, mk_k _ _ _ (by decide), e9, mk_s]
    · rw [e14, mk_k _ _ _ (by decide), e13, mk_k _ _ _ (by decide), e12, mk_k _ _ _ (by decide), e11, mk_k _ _ _ (by decide), e10, mk_s]
    · rw [e14, mk_k _ _ _ (by decide), e13, mk_k _ _ _ (by decide), e12, mk_k _ _ _ (by decide), e11, mk_s]
    · rw [e14, mk_k _ _ _ (by decide), e13, mk_k _ _ _ (by decide), e12, mk_s]
    · rw [e14, mk_k _ _ _ (by decide), e13, mk_s]
    · have st : ∀ (w w2 : SM) (r : Nat) (x : Int32), w2 = (st_up w.1 r (A 0 9) x, w.2) → w2.1 q i = w.1 q i := fun w w2 r x e => by
        rw [e]
        by_cases d : q = r
        · subst d; exact mk_j _ _ _ c
        · rw [mk_k _ _ _ d]
      rw [e14, mk_k _ _ _ (by omega), st s12 s13 10 _ e13, st s11 s12 9 _ e12, st s10 s11 8 _ e11, st s9 s10 7 _ e10, st s8 s9 6 _ e9, st u s8 5 _ e8]
  · have htel := hW.tel i hi
    have hdt := dt_iff hW (y := y) (dy := dy) hi hdy
    have hin : vp_in (nI i) 300 := vp_in_nI (by omega) (by decide)
    show qX9_tell_82 (qX9_tell_l82 Q n) Q _ _ _ _ _ _ _ _
    unfold qX9_tell_82
    rw [nI_clamp (n := i) (by omega)]
    have skip : ¬ (aDt A i = 30 * y + dy ∧ A 8 i = p) → qX9_tell_131 (qX9_tell_l82 Q n) Q (nI y) (nI dy) (nI m) (nI p) (nI k) (nI i) (nI (fb_ct (aAt A (30 * y + dy) p) i)) u := by
      intro h
      unfold qX9_tell_131 qX9_tell_132
      intro x hx x2 hx2
      rw [hx2, hx, nI_1, show (0 : Int32) = nI 0 from rfl, nI_add, Nat.add_zero, ← ct_n (P := aAt A (30 * y + dy) p) (decide_eq_false h)]
      exact ih
    refine pk_le (A 0 9) i (fun h => by omega) (fun _ => ⟨hin, pk_ne (A 5 i) y (fun h => skip (fun a => h (hdt.mp a.1).1)) (fun h => ⟨hin, pk_ne (A 6 i) dy (fun h2 => skip (fun a => h2 (hdt.mp a.1).2)) (fun h2 => ⟨hin, pk_ne (A 8 i) p (fun h3 => skip (fun a => h3 a.2)) (fun h3 => ?_) (hx := hM.row 8 (by omega) i)⟩) (hx := hM.row 6 (by omega) i)⟩) (hx := hM.row 5 (by omega) i)⟩) (hx := hM.num)
    unfold qX9_tell_132
    intro x hx x2 hx2
    rw [hx2, hx, nI_1, nI_1, ← ct_y (P := aAt A (30 * y + dy) p) (decide_eq_true ⟨hdt.mpr ⟨h, h2⟩, h3⟩)]
    exact ih
theorem c_hasP {A : AS} {σ : St} {Q : Int32 → St → Prop} {x : Int32} (hC : RC σ A) (hW : WF A) (h0 : (∀ k, k < A 0 1 → x ≠ nI k) → Q 0 σ) (h1 : ∀ k, k < A 0 1 → x = nI k → Q 1 σ) : pX6_has x σ Q := by
  have hp4 := hW.p
  unfold pX6_has
  rw [hC.posts]
  refine ⟨fun h => h0 (fun t ht e => ?_), fun h => ⟨fun h2 => h0 (fun t ht e => ?_), fun h2 => ?_⟩⟩
  · rw [e] at h; exact nI_pos (by omega) h
  · rw [e] at h2; exact nI_ge ht (by omega) h2
  · obtain ⟨t, ht, e⟩ := ix1 h h2 (by omega)
    exact h1 t ht e
/-- the arguments are well told -/
def TG (A : AS) (x1 x2 x3 x4 x5 : Int32) (y dy m p k : Nat) : Prop := y < 6 ∧ dy < 30 ∧ m < 600 ∧ p < A 0 1 ∧ k < A 0 3 ∧ x1 = nI y ∧ x2 = nI dy ∧ x3 = nI m ∧ x4 = nI p ∧ x5 = nI k
theorem m_tell {A : AS} {u : SM} {Q : Int32 → SM → Prop} {x1 x2 x3 x4 x5 : Int32} (hM0 : RM u A) (hW : WF A)
    (h1 : ∀ v : SM, v = (st_up u.1 0 0 0, u.2) → (∀ y dy m p k, TG A x1 x2 x3 x4 x5 y dy m p k → ¬ (A 11 (10 * (30 * y + dy) + m / 60) = 0 ∧ A 0 9 < 300 ∧ fb_ct (aAt A (30 * y + dy) p) (A 0 9) < 12)) → Q (-1) v)
    (h2 : ∀ (u1 : SM) (y dy m p k : Nat), u1 = (st_up u.1 0 0 0, u.2) → TG A x1 x2 x3 x4 x5 y dy m p k → A 11 (10 * (30 * y + dy) + m / 60) = 0 → A 0 9 < 300 → fb_ct (aAt A (30 * y + dy) p) (A 0 9) < 12 → ∃ n, qX9_tell_l82 Q n (nI y) (nI dy) (nI m) (nI p) (nI k) 0 0 u1) : pX9_tell x1 x2 x3 x4 x5 u Q := by
  have h300 := hW.n
  have hp4 := hW.p
  have hk20 := hW.k
  unfold pX9_tell
  intro t1 ht1
  have hM : RM t1 A := hM0.eq (by rw [ht1]; exact MEq.t0 u 0)
  have no := h1 t1 ht1
  refine m_isDay (fun h => ⟨fun _ => no (fun y dy m p k g => absurd g.2.2.2.2.2.2.1 (h y dy g.1 g.2.1 g.2.2.2.2.2.1)), fun h => absurd rfl h⟩) (fun y dy hy hdy e1 e2 => ⟨fun h => absurd h (by decide), fun _ => ⟨fun h => no (fun y dy m p k g => ?_), fun c0 => ⟨fun h => no (fun y dy m p k g => ?_), fun c1 => ⟨fun h => no (fun y dy m p k g => ?_), fun c2 => ?_⟩⟩⟩⟩)
  · obtain ⟨_, _, gm, _, _, _, _, e, _⟩ := g
    rw [e] at h; exact absurd h (nI_pos (by omega))
  · obtain ⟨_, _, gm, _, _, _, _, e, _⟩ := g
    rw [e] at h; exact absurd h (nI_nlt (a := 599) (by omega) (by omega))
  · obtain ⟨_, _, _, gp, _, _, _, _, e, _⟩ := g
    rw [e] at h; exact absurd h (nI_pos (by omega))
  obtain ⟨m, hm, e3⟩ := ix4 (n := 599) c0 c1 (by decide)
  rw [hM.posts]
  refine ⟨fun h => no (fun y dy m p k g => ?_), fun c3 => ?_⟩
  · obtain ⟨_, _, _, gp, _, _, _, _, e, _⟩ := g
    rw [e] at h; exact absurd h (nI_ge gp (by omega))
  obtain ⟨p, hp, e4⟩ := ix1 c2 c3 (by omega)
  refine m_isKind hM hW (fun h => ⟨fun _ => no (fun y dy m p k g => absurd g.2.2.2.2.2.2.2.2.2 (h k g.2.2.2.2.1)), fun h => absurd rfl h⟩) (fun k hk e5 => ⟨fun h => absurd h (by decide), fun _ => ?_⟩)
  have g0 : TG A x1 x2 x3 x4 x5 y dy m p k := ⟨hy, hdy, hm, hp, hk, e1, e2, e3, e4, e5⟩
  have one : ∀ y2 dy2 m2 p2 k2, TG A x1 x2 x3 x4 x5 y2 dy2 m2 p2 k2 → y2 = y ∧ dy2 = dy ∧ m2 = m ∧ p2 = p := by
    intro y2 dy2 m2 p2 k2 g
    obtain ⟨a1, a2, a3, a4, a5, b1, b2, b3, b4, b5⟩ := g
    exact ⟨nI_inj (b1.symm.trans e1) (by omega) (by omega), nI_inj (b2.symm.trans e2) (by omega) (by omega), nI_inj (b3.symm.trans e3) (by omega) (by omega), nI_inj (b4.symm.trans e4) (by omega) (by omega)⟩
  have no2 : ¬ (A 11 (10 * (30 * y + dy) + m / 60) = 0 ∧ A 0 9 < 300 ∧ fb_ct (aAt A (30 * y + dy) p) (A 0 9) < 12) → Q (-1) t1 := by
    intro hb
    refine no (fun y2 dy2 m2 p2 k2 g => ?_)
    obtain ⟨d1, d2, d3, d4⟩ := one y2 dy2 m2 p2 k2 g
    subst d1 d2 d3 d4
    exact hb
  refine pk_eq (A 0 9) 300 (fun h => no2 (fun a => by omega)) (fun h9 => ?_) (hx := hM.num)
  unfold pX9_hourOf
  rw [e1, e2, e3, show (60 : Int32) = nI 60 from rfl, pk_div (by omega) (by decide) (by decide), hr_nI]
  have hoff := hW.off (10 * (30 * y + dy) + m / 60)
  refine ⟨vp_in_nI (by omega) (by decide), ?_⟩
  rw [nI_clamp (n := 10 * (30 * y + dy) + m / 60) (by omega)]
  refine pk_eq (A 11 (10 * (30 * y + dy) + m / 60)) 0 (fun h0 => ?_) (fun h0 => no2 (fun a => h0 a.1)) (hx := hM.row 11 (by omega) _)
  rw [e4, e5]
  by_cases hc : fb_ct (aAt A (30 * y + dy) p) (A 0 9) < 12
  · exact h2 t1 y dy m p k ht1 g0 h0 (by omega) hc
  · have h12 := hW.at12 (30 * y + dy) p
    exact m_tell_loop hM hW hdy hy (by omega) (by omega) (fun _ => no2 (fun a => hc a.2.2)) (fun hne => by omega)
set_option maxHeartbeats 1000000 in
theorem sim_tell {σ : St} {u : SM} (hR : RelCM σ u) (x1 x2 x3 x4 x5 : Int32) : pX8_tell x1 x2 x3 x4 x5 σ (fun r v => pX9_tell x1 x2 x3 x4 x5 u (fun r2 u2 => r = r2 ∧ RelCM v u2)) := by
  obtain ⟨A, hW, hC, hM, hK⟩ := hR
  have h300 := hW.n
  have hp4 := hW.p
  have hk20 := hW.k
  have hnow := hW.now
  by_cases hg : ∃ y dy m p k, TG A x1 x2 x3 x4 x5 y dy m p k ∧ A 11 (10 * (30 * y + dy) + m / 60) = 0 ∧ A 0 9 < 300 ∧ fb_ct (aAt A (30 * y + dy) p) (A 0 9) < 12
  · obtain ⟨y, dy, m, p, k, g, h0, h9, hc⟩ := hg
    obtain ⟨hy, hdy, hm, hp, hk, e1, e2, e3, e4, e5⟩ := g
    subst e1 e2 e3 e4 e5
    obtain ⟨B, hB⟩ := TB_ex A y dy m p k
    have hWB := hB.wf hW hy hdy hm hp hk h9 hc
    have hshB := sh_le B
    have fB := hB
    obtain ⟨f09, f0, fk, fo, g5, g6, g7, g8, g9, g10⟩ := fB
    -- the model
    have mod : ∀ v : St, RC v B → Cache B v → pX9_tell (nI y) (nI dy) (nI m) (nI p) (nI k) u (fun r2 u2 => nI (A 0 9) = r2 ∧ RelCM v u2) := by
      intro v hCv hKv
      refine m_tell hM hW (fun w _ hno => absurd ⟨h0, h9, hc⟩ (hno y dy m p k ⟨hy, hdy, hm, hp, hk, rfl, rfl, rfl, rfl, rfl⟩)) (fun u1 y2 dy2 m2 p2 k2 hu1 g _ _ _ => ?_)
      obtain ⟨a1, a2, a3, a4, a5, b1, b2, b3, b4, b5⟩ := g
      have d1 := nI_inj b1 (by omega) (by omega)
      have d2 := nI_inj b2 (by omega) (by omega)
      have d3 := nI_inj b3 (by omega) (by omega)
      have d4 := nI_inj b4 (by omega) (by omega)
      have d5 := nI_inj b5 (by omega) (by omega)
      subst d1 d2 d3 d4 d5
      have hM1 : RM u1 A := hM.eq (by rw [hu1]; exact MEq.t0 u 0)
      refine m_tell_loop hM1 hW hdy hy (by omega) h9 (fun e => by omega) (fun _ w w9 w0 wk w5 w6 w7 w8 w10 w11 wo => ⟨rfl, B, hWB, hCv, ?_, hKv⟩)
      exact hB.rm hM1 w9 (fun j hj => w0 j (by omega)) (fun q a _ c => wk q a c) w5 w6 w7 w8 w10 w11 wo
    unfold pX8_tell
    refine c_isDay (fun h => absurd rfl (h y dy hy hdy rfl)) (fun _ _ _ _ _ _ => ⟨fun h => absurd h (by decide), fun _ => ⟨fun h => absurd h (nI_pos (by omega)), fun _ => pk_lt m 600 (fun _ => ?_) (fun h => by omega)⟩⟩)
    refine c_hasP hC hW (fun h => absurd rfl (h p hp)) (fun _ _ _ => ⟨fun h => absurd h (by decide), fun _ => c_has hC hW (fun h => absurd rfl (h k hk)) (fun _ _ _ => ⟨fun _ => ?_, fun h => absurd h (by decide)⟩)⟩)
    unfold pX8_dateOf
    rw [dt_nI, show (60 : Int32) = nI 60 from rfl, pk_div (by omega) (by decide) (by decide)]
    refine c_isOff hC (by omega) (by omega) ?_
    rw [decide_eq_false (fun h => h h0)]
    refine ⟨fun _ => pk_le 300 (A 0 9) (fun h => by omega) (fun _ => ?_) (hy := hC.num), fun h => absurd rfl h⟩
    refine c_toldAt hC hW (by omega) (by omega) (pk_lt (fb_ct (aAt A (30 * y + dy) p) (A 0 9)) 12 (fun _ => ?_) (fun h => by omega))
    unfold pX2_add
    have hin : vp_in (nI (A 0 9)) 300 := vp_in_nI h9 (by decide)
    have ec : Int32.toNatClampNeg (nI (A 0 9)) = A 0 9 := nI_clamp (by omega)
    refine pk_lt (A 0 9) 300 (fun _ => ?_) (fun h => by omega) (hx := hC.num)
    rw [hC.num, ec, hC.now]
    refine ⟨hin, fun s1 q1 => ?_⟩
    have c1 : s1 12 = σ 12 := by rw [q1, su_k (k := 13) (q := 12) _ _ _ (by decide)]
    rw [c1, hC.num, ec]
    refine ⟨hin, fun s2 q2 => ?_⟩
    have c2 : s2 12 = σ 12 := by rw [q2, su_k (k := 14) (q := 12) _ _ _ (by decide), c1]
    rw [c2, hC.num, ec]
    refine ⟨hin, fun s3 q3 => ?_⟩
    have c3 : s3 12 = σ 12 := by rw [q3, su_k (k := 15) (q := 12) _ _ _ (by decide), c2]
    rw [c3, hC.num, ec]
    refine ⟨hin, fun s4 q4 => ?_⟩
    have c4 : s4 12 = σ 12 := by rw [q4, su_k (k := 16) (q := 12) _ _ _ (by decide), c3]
    rw [c4, hC.num, ec]
    refine ⟨hin, fun s5 q5 s6 q6 => ?_⟩
    have c5 : s5 12 = σ 12 := by rw [q5, su_k (k := 17) (q := 12) _ _ _ (by decide), c4]
    rw [c5, hC.num, nI_1] at q6
    have kk : ∀ q, (q < 12 ∨ 17 < q) → s6 q = σ q := fun q hq => by rw [q6, su_k _ _ _ (by omega), q5, su_k _ _ _ (by omega), q4, su_k _ _ _ (by omega), q3, su_k _ _ _ (by omega), q2, su_k _ _ _ (by omega), q1, su_k _ _ _ (by omega)]
    have w13 : s6 13 (A 0 9) = nI (30 * y + dy) := by rw [q6, su_k (k := 12) (q := 13) _ _ _ (by decide), q5, su_k (k := 17) (q := 13) _ _ _ (by decide), q4, su_k (k := 16) (q := 13) _ _ _ (by decide), q3, su_k (k := 15) (q := 13) _ _ _ (by decide), q2, su_k (k := 14) (q := 13) _ _ _ (by decide), q1, su_s]
    have w14 : s6 14 (A 0 9) = nI m := by rw [q6, su_k (k := 12) (q := 14) _ _ _ (by decide), q5, su_k (k := 17) (q := 14) _ _ _ (by decide), q4, su_k (k := 16) (q := 14) _ _ _ (by decide), q3, su_k (k := 15) (q := 14) _ _ _ (by decide), q2, su_s]
    have w15 : s6 15 (A 0 9) = nI p := by rw [q6, su_k (k := 12) (q := 15) _ _ _ (by decide), q5, su_k (k := 17) (q := 15) _ _ _ (by decide), q4, su_k (k := 16) (q := 15) _ _ _ (by decide), q3, su_s]
    have w16 : s6 16 (A 0 9) = nI k := by rw [q6, su_k (k := 12) (q := 16) _ _ _ (by decide), q5, su_k (k := 17) (q := 16) _ _ _ (by decide), q4, su_s]
    have w17 : s6 17 (A 0 9) = nI (A 0 7) := by rw [q6, su_k (k := 12) (q := 17) _ _ _ (by decide), q5, su_s]
    have wo : ∀ q i, 13 ≤ q → q ≤ 17 → i ≠ A 0 9 → s6 q i = σ q i := by
      intro q i a b c
      have st : ∀ (w w2 : St) (r : Nat) (x : Int32), w2 = st_up w r (A 0 9) x → w2 q i = w q i := fun w w2 r x e => by
        rw [e]
        by_cases d : q = r
        · subst d; exact su_j _ _ _ c
        · rw [su_k _ _ _ d]
      rw [q6, su_k _ _ _ (by omega), st s4 s5 17 _ q5, st s3 s4 16 _ q4, st s2 s3 15 _ q3, st s1 s2 14 _ q2, st σ s1 13 _ q1]
    rw [show s6 12 5 - 1 = nI (A 0 9) by rw [q6, su_s, nI_pred]]
    refine c_knownDay (B := B) (by rw [kk 0 (by omega), f0 7 (by decide)]; exact hC.now) (by rw [kk 0 (by omega), show aAs B = aAs A by unfold aAs; rw [f0 8 (by decide)]]; exact hC.asOf) (by have := hWB.asOf; have := hWB.now; omega) ?_
    have hkd := kd_le hWB
    refine c_showUpTo (n := B 0 9) (S := B 10) hWB.n (by omega) (by rw [q6, su_s, f09]) (fun t ht => ?_) (fun t ht => by have := (hWB.tel t ht).2.2.2.2.2; have := hWB.now; omega) (fun v2 k2 j2 h6 => ?_)
    · by_cases a : t = A 0 9
      · subst a; rw [w17, g10]
      · rw [wo 17 t (by decide) (by decide) a, fo 10 t (by decide) a]; exact hC.since t
    unfold pX0_forget
    rw [nI_clamp (n := 30 * y + dy) (by omega), nar_0]
    refine ⟨vp_in_nI (by omega) (by decide), fun v hv => mod v ?_ ?_⟩
    · have kv : ∀ q, q ≠ 12 → q ≠ 19 → v q = s6 q := fun q a b => by rw [hv, su_k _ _ _ b, k2 q a]
      refine hB.rc hC (fun q a b => ?_) ?_ ?_ ?_ ?_ ?_ ?_ ?_ (fun q i a b c => ?_)
      · rw [kv q (by omega) (fun e => by rw [e] at a; exact absurd a (by decide))]; exact kk q b
      · rw [hv, su_k (k := 19) (q := 12) _ _ _ (by decide), j2 5 (by decide), q6, su_s]
      · rw [hv, su_k (k := 19) (q := 12) _ _ _ (by decide), h6]; rfl
      · rw [kv 13 (by decide) (by decide)]; exact w13
      · rw [kv 14 (by decide) (by decide)]; exact w14
      · rw [kv 15 (by decide) (by decide)]; exact w15
      · rw [kv 16 (by decide) (by decide)]; exact w16
      · rw [kv 17 (by decide) (by decide)]; exact w17
      · rw [kv q (by omega) (by omega)]; exact wo q i a b c
    · have kv : ∀ q, 20 ≤ q → q ≤ 23 → v q = σ q := fun q a b => by rw [hv, su_k _ _ _ (by omega), k2 q (by omega), kk q (by omega)]
      have v19 : ∀ d, d ≠ 30 * y + dy → v 19 d = σ 19 d := fun d hd => by rw [hv, su_j _ _ _ hd, k2 19 (by decide), kk 19 (by omega)]
      have v19z : v 19 (30 * y + dy) = 0 := by rw [hv, su_s]
      refine Cache_cong hW hWB hK kv (fun d _ hn => ?_) (fun d _ hn => hB.sd hW (fun e => ?_))
      · by_cases e : d = 30 * y + dy
        · subst e; exact absurd v19z hn
        · rw [← v19 d e]; exact hn
      · subst e; exact absurd v19z hn
  · have fin : pX9_tell x1 x2 x3 x4 x5 u (fun r2 u2 => (-1 : Int32) = r2 ∧ RelCM σ u2) := by
      refine m_tell hM hW (fun w hw _ => ⟨rfl, relK hW hC hM (CE.rf σ) hK (by rw [hw]; exact MEq.t0 u 0)⟩) (fun u1 y dy m p k _ g a b c => absurd ⟨y, dy, m, p, k, g, a, b, c⟩ hg)
    unfold pX8_tell
    refine c_isDay (fun _ => ⟨fun _ => fin, fun h => absurd rfl h⟩) (fun y dy hy hdy e1 e2 => ⟨fun _ => fin, fun _ => ⟨fun _ => fin, fun c0 => ⟨fun c1 => ?_, fun _ => fin⟩⟩⟩)
    obtain ⟨m, hm, e3⟩ := ix2 (n := 600) c0 c1 (by decide)
    refine c_hasP hC hW (fun _ => ⟨fun _ => fin, fun h => absurd rfl h⟩) (fun p hp e4 => ⟨fun _ => fin, fun _ => c_has hC hW (fun _ => ⟨fun h => absurd rfl h, fun _ => fin⟩) (fun k hk e5 => ⟨fun _ => ?_, fun _ => fin⟩)⟩)
    unfold pX8_dateOf
    have g : TG A x1 x2 x3 x4 x5 y dy m p k := ⟨hy, hdy, hm, hp, hk, e1, e2, e3, e4, e5⟩
    have ed : x1 * 30 + x2 = nI (30 * y + dy) := by rw [e1, e2]; exact dt_nI y dy
    have em : x3 / 60 = nI (m / 60) := by rw [e3, show (60 : Int32) = nI 60 from rfl]; exact pk_div (by omega) (by decide) (by decide)
    rw [ed, em]
    refine c_isOff hC (by omega) (by omega) (b2i_p (fun h => ?_) (fun _ => fin))
    have h0 : A 11 (10 * (30 * y + dy) + m / 60) = 0 := by
      have := of_decide_eq_false h
      omega
    refine pk_le 300 (A 0 9) (fun _ => fin) (fun h9 => ?_) (hy := hC.num)
    rw [e4]
    have h12 := hW.at12 (30 * y + dy) p
    exact c_toldAt hC hW (by omega) (by omega) (pk_lt (fb_ct (aAt A (30 * y + dy) p) (A 0 9)) 12 (fun hc => absurd ⟨y, dy, m, p, k, g, h0, h9, hc⟩ hg) (fun _ => by rw [← e4]; exact fin))
