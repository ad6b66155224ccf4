/-! the model's collect() and pairs() -/
/-- as MEq, and 'thrown' stays -/
def MES (u v : SM) : Prop := (∀ j, j ≠ 20 → j ≠ 21 → v.1 0 j = u.1 0 j) ∧ ∀ k, 1 ≤ k → k ≤ 12 → v.1 k = u.1 k
theorem MES.M {u v : SM} (h : MES u v) : MEq u v := ⟨fun j _ b c => h.1 j b c, h.2⟩
theorem MES.rf (u : SM) : MES u u := ⟨fun _ _ _ => rfl, fun _ _ _ => rfl⟩
theorem MES.tr {u v w : SM} (h : MES u v) (h2 : MES v w) : MES u w := ⟨fun j b c => (h2.1 j b c).trans (h.1 j b c), fun k a b => (h2.2 k a b).trans (h.2 k a b)⟩
theorem MES.up (u : SM) {k0 : Nat} (hk : 13 ≤ k0) (j : Nat) (v : Int32) : MES u (st_up u.1 k0 j v, u.2) := ⟨fun q _ _ => by show st_up u.1 k0 j v 0 q = u.1 0 q; rw [su_k u.1 j v (by omega)], fun k _ b => su_k u.1 j v (by omega)⟩
theorem MES.up0 (u : SM) {j : Nat} (hj : j = 20 ∨ j = 21) (v : Int32) : MES u (st_up u.1 0 j v, u.2) := ⟨fun q b c => su_j u.1 0 v (by omega), fun k a _ => su_k u.1 j v (by omega)⟩
theorem FEq2.S {u v : SM} (h : FEq2 u v) : MES u v := ⟨fun j _ _ => by rw [h.2 0 (by decide) (by decide) (by decide) (by decide) (by decide) (by decide)], fun k _ b => h.2 k (by omega) (by omega) (by omega) (by omega) (by omega) (by omega)⟩
theorem RM.eqS {u v : SM} {A : AS} (h : RM u A) (e : MES u v) : RM v A := h.eq e.M
theorem mk_k (u : SM) {k q : Nat} (j : Nat) (v : Int32) (h : q ≠ k) : ((st_up u.1 k j v, u.2) : SM).1 q = u.1 q := su_k u.1 j v h
theorem mk_s (u : SM) (k j : Nat) (v : Int32) : ((st_up u.1 k j v, u.2) : SM).1 k j = v := su_s u.1 k j v
theorem mk_j (u : SM) (k : Nat) {j i : Nat} (v : Int32) (h : i ≠ j) : ((st_up u.1 k j v, u.2) : SM).1 k i = u.1 k i := su_j u.1 k v h
def met (A : AS) (d p : Nat) : Nat → Nat → Bool := fun i j => mt A (ls A d p i) (ls A d (p + 1) j)
/-- what collect leaves -/
def Col (A : AS) (d p : Nat) (u0 v : SM) : Prop := MES u0 v ∧ v.1 13 = u0.1 13 ∧ v.1 14 = u0.1 14 ∧ v.1 0 20 = nI (cn A d p) ∧ v.1 0 21 = nI (cn A d (p + 1)) ∧ (∀ i, i < cn A d p → v.1 15 i = nI (ls A d p i)) ∧ ∀ j, j < cn A d (p + 1) → v.1 16 j = nI (ls A d (p + 1) j)
theorem nar_b (b : Bool) : vp_nar .boolean (b2i b) = b2i b := by cases b <;> decide
set_option maxHeartbeats 2000000 in
theorem col_fill {A : AS} {d p : Nat} {u0 : SM} {Q : SM → Prop} (hM0 : RM u0 A) (hW : WF A) (hQ : ∀ v, Col A d p u0 v → (∀ i j, i < cn A d p → j < cn A d (p + 1) → v.1 17 (12 * i + j) = b2i (met A d p i j)) → (∀ i, i < cn A d p → v.1 19 i = 0) → (0 < cn A d p → ∀ j, j < cn A d (p + 1) → v.1 20 j = 0) → Q v) :
    ∀ (r i : Nat) (u : SM), i + r = cn A d p → Col A d p u0 u → (∀ i2 j, i2 < i → j < cn A d (p + 1) → u.1 17 (12 * i2 + j) = b2i (met A d p i2 j)) → (∀ i2, i2 < i → u.1 19 i2 = 0) → (0 < i → ∀ j, j < cn A d (p + 1) → u.1 20 j = 0) → qX9_collect_l162 Q (r + 1) (nI i) u := by
  have n12 := cn_le hW d p
  have m12 := cn_le hW d (p + 1)
  have hsh := sh_le A
  intro r
  induction r with
  | zero =>
    intro i u hir hc h17 h19 h20
    have ei : i = cn A d p := by omega
    subst ei
    show qX9_collect_162 (qX9_collect_l162 Q 0) Q _ _
    unfold qX9_collect_162
    exact pk_le (cn A d p) (cn A d p) (fun _ => hQ u hc h17 h19 h20) (fun hc => by omega) (hx := hc.2.2.2.1)
  | succ r ih =>
    intro i u hir hc h17 h19 h20
    have hi : i < cn A d p := by omega
    show qX9_collect_162 (qX9_collect_l162 Q (r + 1)) Q _ _
    unfold qX9_collect_162
    have ei : Int32.toNatClampNeg (nI i) = i := nI_clamp (by omega)
    rw [ei]
    refine pk_le (cn A d p) i (fun h => by omega) (fun _ => ⟨vp_in_nI (by omega) (by decide), fun s7 hs7 => ?_⟩) (hx := hc.2.2.2.1)
    rw [nar_0] at hs7
    have upc : ∀ {v w : SM} {k j : Nat} {x : Int32}, Col A d p u0 v → w = (st_up v.1 k j x, v.2) → (k = 17 ∨ k = 19 ∨ k = 20) → Col A d p u0 w := by
      intro v w k j x hv hw hk
      obtain ⟨a1, a2, a3, a4, a5, a6, a7⟩ := hv
      subst hw
      refine ⟨a1.tr (MES.up v (by omega) j x), ?_, ?_, ?_, ?_, fun q hq => ?_, fun q hq => ?_⟩
      · exact (su_k v.1 j x (by omega)).trans a2
      · exact (su_k v.1 j x (by omega)).trans a3
      · show st_up v.1 k j x 0 20 = _; rw [su_k v.1 j x (by omega)]; exact a4
      · show st_up v.1 k j x 0 21 = _; rw [su_k v.1 j x (by omega)]; exact a5
      · show st_up v.1 k j x 15 q = _; rw [su_k v.1 j x (by omega)]; exact a6 q hq
      · show st_up v.1 k j x 16 q = _; rw [su_k v.1 j x (by omega)]; exact a7 q hq
    have hc7 : Col A d p u0 s7 := upc hc hs7 (by omega)
    have lp : ∀ (r2 j : Nat) (v : SM), j + r2 = cn A d (p + 1) → Col A d p u0 v → (∀ i2 q, i2 < i → q < cn A d (p + 1) → v.1 17 (12 * i2 + q) = b2i (met A d p i2 q)) → (∀ q, q < j → v.1 17 (12 * i + q) = b2i (met A d p i q)) → (∀ i2, i2 < i + 1 → v.1 19 i2 = 0) → (∀ q, q < j → v.1 20 q = 0) → qX9_collect_l182 (qX9_collect_l162 Q (r + 1)) Q (r2 + 1) (nI i) (nI j) v := by
      intro r2
      induction r2 with
      | zero =>
        intro j v hjr hv h17a h17b h19v h20v
        have ej : j = cn A d (p + 1) := by omega
        show qX9_collect_182 (qX9_collect_l162 Q (r + 1)) (qX9_collect_l182 (qX9_collect_l162 Q (r + 1)) Q 0) Q _ _ _
        unfold qX9_collect_182
        refine pk_le (cn A d (p + 1)) j (fun _ => fun x hx => ?_) (fun h => by omega) (hx := hv.2.2.2.2.1)
        rw [hx, nI_1]
        refine ih (i + 1) v (by omega) hv (fun i2 q h1 h2 => ?_) h19v (fun _ q hq => h20v q (by omega))
        by_cases a : i2 = i
        · subst a; exact h17b q (by omega)
        · exact h17a i2 q (by omega) h2
      | succ r2 ih2 =>
        intro j v hjr hv h17a h17b h19v h20v
        have hj : j < cn A d (p + 1) := by omega
        have hMv := hM0.eqS hv.1
        obtain ⟨l1, l2, l3⟩ := ls_in hi
        obtain ⟨k1, k2, k3⟩ := ls_in hj
        have ej : Int32.toNatClampNeg (nI j) = j := nI_clamp (by omega)
        have e12 : (12 : Int32) * nI i + nI j = nI (12 * i + j) := by
          rw [show (12 : Int32) = nI 12 from rfl, pk_mul, nI_add]
        show qX9_collect_182 (qX9_collect_l162 Q (r + 1)) (qX9_collect_l182 (qX9_collect_l162 Q (r + 1)) Q (r2 + 1)) Q _ _ _
        unfold qX9_collect_182
        rw [e12, ei, ej, nI_clamp (n := 12 * i + j) (by omega), hv.2.2.2.2.2.1 i hi, hv.2.2.2.2.2.2 j hj]
        refine pk_le (cn A d (p + 1)) j (fun h => by omega) (fun _ => ⟨vp_in_nI (by omega) (by decide), vp_in_nI (by omega) (by decide), ?_⟩) (hx := hv.2.2.2.2.1)
        refine m_meets hMv hW (by omega) (by omega) ⟨vp_in_nI (by omega) (by decide), fun s16 hs16 => ⟨vp_in_nI (by omega) (by decide), fun s17 hs17 x hx => ?_⟩⟩
        rw [nar_b] at hs16
        rw [nar_0] at hs17
        have hc16 : Col A d p u0 s16 := upc hv hs16 (by omega)
        have hc17 : Col A d p u0 s17 := upc hc16 hs17 (by omega)
        have g17 : ∀ q, s17.1 17 q = if q = 12 * i + j then b2i (met A d p i j) else v.1 17 q := by
          intro q
          rw [hs17]
          show st_up s16.1 20 j 0 17 q = _
          rw [su_k (k := 20) (q := 17) _ _ _ (by decide), hs16]
          show st_up v.1 17 (12 * i + j) (b2i (mt A (ls A d p i) (ls A d (p + 1) j))) 17 q = _
          by_cases a : q = 12 * i + j
          · subst a; rw [su_s, if_pos rfl]; rfl
          · rw [su_j _ _ _ a, if_neg a]
        have g19 : s17.1 19 = v.1 19 := by
          rw [hs17]
          rw [mk_k _ _ _ (by decide), hs16, mk_k _ _ _ (by decide)]
        have g20 : ∀ q, s17.1 20 q = if q = j then 0 else v.1 20 q := by
          intro q
          rw [hs17]
          show st_up s16.1 20 j 0 20 q = _
          by_cases a : q = j
          · subst a; rw [su_s, if_pos rfl]
          · rw [su_j _ _ _ a, if_neg a, hs16]
            show st_up v.1 17 (12 * i + j) (b2i (mt A (ls A d p i) (ls A d (p + 1) j))) 20 q = _
            rw [su_k (k := 17) (q := 20) _ _ _ (by decide)]
        rw [hx, nI_1]
        refine ih2 (j + 1) s17 (by omega) hc17 (fun i2 q h1 h2 => ?_) (fun q hq => ?_) (fun i2 h1 => by rw [g19]; exact h19v i2 h1) (fun q hq => ?_)
        · rw [g17, if_neg (by omega)]; exact h17a i2 q h1 h2
        · rw [g17]
          by_cases a : q = j
          · subst a; rw [if_pos rfl]
          · rw [if_neg (by omega)]; exact h17b q (by omega)
        · rw [g20]
          by_cases a : q = j
          · rw [if_pos a]
          · rw [if_neg a]; exact h20v q (by omega)
    refine ⟨cn A d (p + 1) + 1, lp (cn A d (p + 1)) 0 s7 (by omega) hc7 (fun i2 q h1 h2 => ?_) (fun q hq => absurd hq (Nat.not_lt_zero _)) (fun i2 h1 => ?_) (fun q hq => absurd hq (Nat.not_lt_zero _))⟩
    · rw [hs7]
      show st_up u.1 19 i 0 17 _ = _
      rw [su_k (k := 19) (q := 17) _ _ _ (by decide)]
      exact h17 i2 q h1 h2
    · rw [hs7]
      show st_up u.1 19 i 0 19 i2 = 0
      by_cases a : i2 = i
      · subst a; exact su_s _ _ _ _
      · rw [su_j _ _ _ a]; exact h19 i2 (by omega)
/-- the scan: t are read -/
def Scn (A : AS) (d p : Nat) (u0 : SM) (t : Nat) (v : SM) : Prop := MES u0 v ∧ v.1 13 = u0.1 13 ∧ v.1 14 = u0.1 14 ∧ v.1 0 20 = nI (fb_ct (aAt A d p) (min t (aSh A))) ∧ v.1 0 21 = nI (fb_ct (aAt A d (p + 1)) (min t (aSh A))) ∧ (∀ i, i < fb_ct (aAt A d p) (min t (aSh A)) → v.1 15 i = nI (ls A d p i)) ∧ ∀ j, j < fb_ct (aAt A d (p + 1)) (min t (aSh A)) → v.1 16 j = nI (ls A d (p + 1) j)
set_option maxHeartbeats 2000000 in
theorem collect_ok {A : AS} {y dy p : Nat} {u0 : SM} {Q : SM → Prop} (hM0 : RM u0 A) (hW : WF A) (hy : y < 6) (hdy : dy < 30) (hp : p < 100) (hQ : ∀ v, Col A (30 * y + dy) p u0 v → (∀ i j, i < cn A (30 * y + dy) p → j < cn A (30 * y + dy) (p + 1) → v.1 17 (12 * i + j) = b2i (met A (30 * y + dy) p i j)) → (∀ i, i < cn A (30 * y + dy) p → v.1 19 i = 0) → (0 < cn A (30 * y + dy) p → ∀ j, j < cn A (30 * y + dy) (p + 1) → v.1 20 j = 0) → Q v) : pX9_collect (nI y) (nI dy) (nI p) u0 Q := by
  have h300 := hW.n
  have hp4 := hW.p
  have hsh := sh_le A
  have n12 := cn_le hW (30 * y + dy) p
  have m12 := cn_le hW (30 * y + dy) (p + 1)
  have lp : ∀ (r t : Nat) (u : SM), t + r = A 0 9 → Scn A (30 * y + dy) p u0 t u → qX9_collect_l13 Q (r + 1) (nI y) (nI dy) (nI p) (nI t) u := by
    intro r
    induction r with
    | zero =>
      intro t u htr hs
      have hM := hM0.eqS hs.1
      have em : min t (aSh A) = aSh A := by omega
      obtain ⟨a1, a2, a3, a4, a5, a6, a7⟩ := hs
      rw [em] at a4 a5 a6 a7
      show qX9_collect_13 (qX9_collect_l13 Q 0) Q _ _ _ _ _
      unfold qX9_collect_13
      refine pk_le (A 0 9) t (fun _ => ⟨cn A (30 * y + dy) p + 1, ?_⟩) (fun hc => by omega) (hx := hM.num)
      exact col_fill hM0 hW hQ (cn A (30 * y + dy) p) 0 u (by omega) ⟨a1, a2, a3, a4, a5, a6, a7⟩ (fun i2 j h => absurd h (Nat.not_lt_zero _)) (fun i2 h => absurd h (Nat.not_lt_zero _)) (fun h => absurd h (Nat.not_lt_zero _))
    | succ r ih =>
      intro t u htr hs
      have hM := hM0.eqS hs.1
      have ht : t < A 0 9 := by omega
      have hdt := dt_iff hW (y := y) (dy := dy) ht hdy
      have htel := hW.tel t ht
      have et : Int32.toNatClampNeg (nI t) = t := nI_clamp (by omega)
      have hin : vp_in (nI t) 300 := vp_in_nI (by omega) (by decide)
      show qX9_collect_13 (qX9_collect_l13 Q (r + 1)) Q _ _ _ _ _
      unfold qX9_collect_13
      rw [et]
      refine pk_le (A 0 9) t (fun hc => by omega) (fun _ => ?_) (hx := hM.num)
      -- nothing is taken
      have skip : (t < aSh A → ¬ (aDt A t = 30 * y + dy ∧ A 8 t = p) ∧ ¬ (aDt A t = 30 * y + dy ∧ A 8 t = p + 1)) → qX9_collect_153 (qX9_collect_l13 Q (r + 1)) Q (nI y) (nI dy) (nI p) (nI t) u := by
        intro hn
        unfold qX9_collect_153
        intro x hx
        rw [hx, nI_1]
        refine ih (t + 1) u (by omega) ?_
        have ee : fb_ct (aAt A (30 * y + dy) p) (min (t + 1) (aSh A)) = fb_ct (aAt A (30 * y + dy) p) (min t (aSh A)) ∧ fb_ct (aAt A (30 * y + dy) (p + 1)) (min (t + 1) (aSh A)) = fb_ct (aAt A (30 * y + dy) (p + 1)) (min t (aSh A)) := by
          rcases Nat.lt_or_ge t (aSh A) with h | h
          · have e1 : min (t + 1) (aSh A) = t + 1 := by omega
            have e2 : min t (aSh A) = t := by omega
            rw [e1, e2, fb_ct_succ, fb_ct_succ]
            have b1 : aAt A (30 * y + dy) p t = false := decide_eq_false (hn h).1
            have b2 : aAt A (30 * y + dy) (p + 1) t = false := decide_eq_false (hn h).2
            rw [b1, b2]
            exact ⟨rfl, rfl⟩
          · have e1 : min (t + 1) (aSh A) = aSh A := by omega
            have e2 : min t (aSh A) = aSh A := by omega
            rw [e1, e2]
            exact ⟨rfl, rfl⟩
        unfold Scn
        rw [ee.1, ee.2]
        exact hs
      obtain ⟨a1, a2, a3, a4, a5, a6, a7⟩ := hs
      have h88 : ¬ (t < aSh A ∧ aDt A t = 30 * y + dy ∧ A 8 t = p) → qX9_collect_88 (qX9_collect_l13 Q (r + 1)) Q (nI y) (nI dy) (nI p) (nI t) u := by
        intro hn1
        unfold qX9_collect_88
        rw [et]
        refine m_isKnown hM hW ht (b2i_p (fun h => skip (fun h2 => absurd h2 (of_decide_eq_false h))) (fun h => ⟨hin, ?_⟩))
        have hk := of_decide_eq_true h
        refine pk_ne (A 5 t) y (fun h1 => skip (fun _ => ⟨fun a => hn1 ⟨hk, a⟩, fun a => h1 (hdt.mp a.1).1⟩)) (fun h1 => ⟨hin, ?_⟩) (hx := hM.row 5 (by omega) t)
        refine pk_ne (A 6 t) dy (fun h2 => skip (fun _ => ⟨fun a => hn1 ⟨hk, a⟩, fun a => h2 (hdt.mp a.1).2⟩)) (fun h2 => ⟨hin, ?_⟩) (hx := hM.row 6 (by omega) t)
        refine pk_ne (A 8 t) (p + 1) (fun h3 => skip (fun _ => ⟨fun a => hn1 ⟨hk, a⟩, fun a => h3 a.2⟩)) (fun h3 => ?_) (hx := hM.row 8 (by omega) t) (hy := nI_1 p)
        have e0 : aAt A (30 * y + dy) (p + 1) t = true := decide_eq_true ⟨hdt.mpr ⟨h1, h2⟩, h3⟩
        have e9 : aAt A (30 * y + dy) p t = false := decide_eq_false (fun a => hn1 ⟨hk, a⟩)
        have hlt : fb_ct (aAt A (30 * y + dy) (p + 1)) t < cn A (30 * y + dy) (p + 1) := ct_lt e0 hk
        have em : min t (aSh A) = t := by omega
        have em1 : min (t + 1) (aSh A) = t + 1 := by omega
        rw [em] at a4 a5 a6 a7
        have es := fb_ct_succ (aAt A (30 * y + dy) (p + 1)) t
        rw [if_pos e0] at es
        have es9 : fb_ct (aAt A (30 * y + dy) p) (t + 1) = fb_ct (aAt A (30 * y + dy) p) t := by rw [fb_ct_succ, e9]; rfl
        rw [a5]
        refine ⟨vp_in_nI (by omega) (by decide), fun s10 hs10 s11 hs11 => ?_⟩
        rw [nI_clamp (by omega)] at hs10
        have f21 : s10.1 0 21 = nI (fb_ct (aAt A (30 * y + dy) (p + 1)) t) := by
          rw [hs10, mk_k _ _ _ (by decide)]; exact a5
        rw [f21, nI_1, ← es] at hs11
        unfold qX9_collect_153
        intro x hx
        rw [hx, nI_1]
        have hE10 : MES u s10 := by rw [hs10]; exact MES.up u (by omega) _ _
        have hE11 : MES s10 s11 := by rw [hs11]; exact MES.up0 s10 (by omega) _
        have kk : ∀ k, k ≠ 0 → k ≠ 16 → s11.1 k = u.1 k := fun k b1 b2 => by
          rw [hs11, mk_k _ _ _ b1, hs10, mk_k _ _ _ b2]
        have k0 : ∀ j, j ≠ 21 → s11.1 0 j = u.1 0 j := fun j b1 => by
          rw [hs11, mk_j _ _ _ b1, hs10, mk_k _ _ _ (by decide)]
        refine ih (t + 1) s11 (by omega) ⟨a1.tr (hE10.tr hE11), (kk 13 (by decide) (by decide)).trans a2, (kk 14 (by decide) (by decide)).trans a3, ?_, ?_, ?_, ?_⟩
        · rw [em1, es9, k0 20 (by decide)]; exact a4
        · rw [em1, hs11, mk_s]
        · rw [em1, es9, kk 15 (by decide) (by decide)]; exact a6
        · rw [em1]
          intro j hj
          rw [hs11, mk_k _ _ _ (by decide), hs10]
          by_cases b : j = fb_ct (aAt A (30 * y + dy) (p + 1)) t
          · subst b
            rw [mk_s]
            show nI t = nI (nthP (aAt A (30 * y + dy) (p + 1)) (aSh A) (fb_ct (aAt A (30 * y + dy) (p + 1)) t))
            rw [nth_at e0 hk]
          · rw [mk_j _ _ _ b]; exact a7 j (by omega)
      refine m_isKnown hM hW ht (b2i_p (fun h => h88 (fun a => absurd a.1 (of_decide_eq_false h))) (fun h => ⟨hin, ?_⟩))
      have hk := of_decide_eq_true h
      refine pk_ne (A 5 t) y (fun h1 => h88 (fun a => h1 (hdt.mp a.2.1).1)) (fun h1 => ⟨hin, ?_⟩) (hx := hM.row 5 (by omega) t)
      refine pk_ne (A 6 t) dy (fun h2 => h88 (fun a => h2 (hdt.mp a.2.1).2)) (fun h2 => ⟨hin, ?_⟩) (hx := hM.row 6 (by omega) t)
      refine pk_ne (A 8 t) p (fun h3 => h88 (fun a => h3 a.2.2)) (fun h3 => ?_) (hx := hM.row 8 (by omega) t)
      have e0 : aAt A (30 * y + dy) p t = true := decide_eq_true ⟨hdt.mpr ⟨h1, h2⟩, h3⟩
      have e9 : aAt A (30 * y + dy) (p + 1) t = false := decide_eq_false (fun a => by omega)
      have hlt : fb_ct (aAt A (30 * y + dy) p) t < cn A (30 * y + dy) p := ct_lt e0 hk
      have em : min t (aSh A) = t := by omega
      have em1 : min (t + 1) (aSh A) = t + 1 := by omega
      rw [em] at a4 a5 a6 a7
      have es := fb_ct_succ (aAt A (30 * y + dy) p) t
      rw [if_pos e0] at es
      have es9 : fb_ct (aAt A (30 * y + dy) (p + 1)) (t + 1) = fb_ct (aAt A (30 * y + dy) (p + 1)) t := by rw [fb_ct_succ, e9]; rfl
      rw [a4]
      refine ⟨vp_in_nI (by omega) (by decide), fun s10 hs10 s11 hs11 => ?_⟩
      rw [nI_clamp (by omega)] at hs10
      have f21 : s10.1 0 20 = nI (fb_ct (aAt A (30 * y + dy) p) t) := by
        rw [hs10, mk_k _ _ _ (by decide)]; exact a4
      rw [f21, nI_1, ← es] at hs11
      unfold qX9_collect_153
      intro x hx
      rw [hx, nI_1]
      have hE10 : MES u s10 := by rw [hs10]; exact MES.up u (by omega) _ _
      have hE11 : MES s10 s11 := by rw [hs11]; exact MES.up0 s10 (by omega) _
      have kk : ∀ k, k ≠ 0 → k ≠ 15 → s11.1 k = u.1 k := fun k b1 b2 => by
        rw [hs11, mk_k _ _ _ b1, hs10, mk_k _ _ _ b2]
      have k0 : ∀ j, j ≠ 20 → s11.1 0 j = u.1 0 j := fun j b1 => by
        rw [hs11, mk_j _ _ _ b1, hs10, mk_k _ _ _ (by decide)]
      refine ih (t + 1) s11 (by omega) ⟨a1.tr (hE10.tr hE11), (kk 13 (by decide) (by decide)).trans a2, (kk 14 (by decide) (by decide)).trans a3, ?_, ?_, ?_, ?_⟩
      · rw [em1, hs11, mk_s]
      · rw [em1, es9, k0 21 (by decide)]; exact a5
      · rw [em1]
        intro j hj
        rw [hs11, mk_k _ _ _ (by decide), hs10]
        by_cases b : j = fb_ct (aAt A (30 * y + dy) p) t
        · subst b
          rw [mk_s]
          show nI t = nI (nthP (aAt A (30 * y + dy) p) (aSh A) (fb_ct (aAt A (30 * y + dy) p) t))
          rw [nth_at e0 hk]
        · rw [mk_j _ _ _ b]; exact a6 j (by omega)
      · rw [em1, es9, kk 16 (by decide) (by decide)]; exact a7
  unfold pX9_collect
  intro s1 hs1 s2 hs2
  refine ⟨A 0 9 + 1, lp (A 0 9) 0 s2 (by omega) ?_⟩
  have e0 : min 0 (aSh A) = 0 := by omega
  have hE1 : MES u0 s1 := by rw [hs1]; exact MES.up0 u0 (by omega) 0
  have hE2 : MES s1 s2 := by rw [hs2]; exact MES.up0 s1 (by omega) 0
  have kk : ∀ k, k ≠ 0 → s2.1 k = u0.1 k := fun k b1 => by
    rw [hs2, mk_k _ _ _ b1, hs1, mk_k _ _ _ b1]
  refine ⟨hE1.tr hE2, kk 13 (by decide), kk 14 (by decide), ?_, ?_, ?_, ?_⟩
  · rw [e0, hs2, mk_j _ _ _ (by decide), hs1, mk_s]; rfl
  · rw [e0, hs2, mk_s]; rfl
  · rw [e0]; exact fun i hi => absurd hi (Nat.not_lt_zero _)
  · rw [e0]; exact fun i hi => absurd hi (Nat.not_lt_zero _)
theorem pairs_ok {A : AS} {y dy p : Nat} {u0 : SM} {Q : SM → Prop} (hM0 : RM u0 A) (hW : WF A) (hy : y < 6) (hdy : dy < 30) (hp : p < 100) (hQ : ∀ v c, MES u0 v → LexS (met A (30 * y + dy) p) (cn A (30 * y + dy) p) (cn A (30 * y + dy) (p + 1)) c → v.1 13 = uUp (ls A (30 * y + dy) p) (ls A (30 * y + dy) (p + 1)) c (u0.1 13) (cn A (30 * y + dy) p) → v.1 14 = uLo (ls A (30 * y + dy) p) (ls A (30 * y + dy) (p + 1)) c (u0.1 14) (cn A (30 * y + dy) p) → Q v) : pX9_pairs (nI y) (nI dy) (nI p) u0 Q := by
  have h300 := hW.n
  have hsh := sh_le A
  have n12 := cn_le hW (30 * y + dy) p
  have m12 := cn_le hW (30 * y + dy) (p + 1)
  unfold pX9_pairs
  refine collect_ok hM0 hW hy hdy hp (fun v hc h17 h19 h20 => ?_)
  obtain ⟨a1, a2, a3, a4, a5, a6, a7⟩ := hc
  have hF : FMet (cn A (30 * y + dy) (p + 1)) (cn A (30 * y + dy) p) v (met A (30 * y + dy) p) := by
    refine ⟨a5, m12, n12, fun i j hi hj => ?_⟩
    rw [h17 i j hi hj]
    cases met A (30 * y + dy) p i j with
    | false => exact ⟨fun _ => rfl, fun _ => rfl⟩
    | true => exact ⟨fun h => absurd h (show ¬ (1 : Int32) = 0 by decide), (fun h => by cases h)⟩
  refine most_ok (b0 := 0) (T := fun j => decide (v.1 20 j ≠ 0)) hF a4 (Nat.zero_le _) (fun i hi => ⟨fun _ => Nat.zero_le _, fun _ => h19 i hi⟩) (fun j hj => ?_) (fun w k hEw hmx => ?_)
  · constructor
    · intro e; have := of_decide_eq_false e; exact Decidable.not_not.mp this
    · intro e; exact decide_eq_false (fun h => h e)
  have w20 : w.1 20 = v.1 20 := hEw.2 20 (by decide) (by decide)
  have w19 : w.1 19 = v.1 19 := hEw.2 19 (by decide) (by decide)
  have w13 : w.1 13 = u0.1 13 := (hEw.2 13 (by decide) (by decide)).trans a2
  have w14 : w.1 14 = u0.1 14 := (hEw.2 14 (by decide) (by decide)).trans a3
  rcases Nat.eq_zero_or_pos (cn A (30 * y + dy) p) with hz | hpos
  · refine ⟨1, ?_⟩
    show qX9_pairs_16 (qX9_pairs_l16 Q 0) Q _ _ _
    unfold qX9_pairs_16
    refine pk_le (cn A (30 * y + dy) p) 0 (fun _ => ?_) (fun h => by omega) (hx := by rw [hEw.2 0 (by decide) (by decide)]; exact a4)
    refine hQ w (fun _ => none) (a1.tr hEw.two.S) (fun i hi => by omega) ?_ ?_
    · rw [hz, w13]; rfl
    · rw [hz, w14]; rfl
  · have hT : ∀ j, j < cn A (30 * y + dy) (p + 1) → decide (v.1 20 j ≠ 0) = false := fun j hj => decide_eq_false (fun h => h (h20 hpos j hj))
    have hmx2 : IsMax (met A (30 * y + dy) p) (cn A (30 * y + dy) p) (cn A (30 * y + dy) (p + 1)) 0 (fun _ => false) k := by
      have vt : ∀ g, VT (met A (30 * y + dy) p) (cn A (30 * y + dy) p) (cn A (30 * y + dy) (p + 1)) 0 (fun j => decide (v.1 20 j ≠ 0)) g ↔ VT (met A (30 * y + dy) p) (cn A (30 * y + dy) p) (cn A (30 * y + dy) (p + 1)) 0 (fun _ => false) g := by
        intro g
        exact ⟨fun h => ⟨fun j l b1 _ b3 => h.1 j l b1 (hT j b1) b3, fun j q l b1 _ b3 _ => h.2 j q l b1 (hT j b1) b3 (hT q b3)⟩, fun h => ⟨fun j l b1 _ b3 => h.1 j l b1 rfl b3, fun j q l b1 _ b3 _ => h.2 j q l b1 rfl b3 rfl⟩⟩
      have sz : ∀ g, szT (cn A (30 * y + dy) (p + 1)) (fun j => decide (v.1 20 j ≠ 0)) g = szT (cn A (30 * y + dy) (p + 1)) (fun _ => false) g := by
        intro g
        refine fb_ct_cong (fun j hj => ?_)
        show (!(decide (v.1 20 j ≠ 0)) && (g j).isSome) = (!false && (g j).isSome)
        rw [hT j hj]
      obtain ⟨⟨g, g1, g2⟩, g3⟩ := hmx
      refine ⟨⟨g, (vt g).mp g1, by rw [← sz]; exact g2⟩, fun g2 h2 => ?_⟩
      rw [← sz]
      exact g3 g2 ((vt g2).mpr h2)
    refine ⟨cn A (30 * y + dy) p + 1, ?_⟩
    refine pairs_loop (on := ls A (30 * y + dy) p) (tw := ls A (30 * y + dy) (p + 1)) (u0 := w) (hF.eq hEw) (by rw [hEw.2 0 (by decide) (by decide)]; exact a4) (fun q hq => ⟨by have := (ls_in hq).1; omega, by rw [hEw.2 15 (by decide) (by decide)]; exact a6 q hq⟩) (fun q hq => ⟨by have := (ls_in hq).1; omega, by rw [hEw.2 16 (by decide) (by decide)]; exact a7 q hq⟩) (fun v2 c hE2 hL e13 e14 => ?_) (cn A (30 * y + dy) p) 0 w (fun _ => none) k (by omega) ⟨FEq2.rf w, fun q hq => ⟨fun _ => Nat.zero_le _, fun _ => by rw [w19]; exact h19 q hq⟩, fun j hj => ⟨fun _ => by rw [w20]; exact h20 hpos j hj, fun _ => rfl⟩, rfl, rfl, hmx2, fun q hq => absurd hq (Nat.not_lt_zero _)⟩
    refine hQ v2 c ((a1.tr hEw.two.S).tr hE2.S) hL ?_ ?_
    · rw [e13, w13]
    · rw [e14, w14]
