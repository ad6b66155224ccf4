/-! the model's parting -/
def mo (R : Nat → Int32) (i : Nat) : Int32 := if 0 < i ∧ 0 ≤ R (bs R i) then nI (bs R i) else -1
theorem mo_neg {R : Nat → Int32} {i : Nat} (h : R i < 0) : mo R (i + 1) = mo R i := by
  have es : bs R (i + 1) = if R i ≤ R (bs R i) then bs R i else i := rfl
  have h2 : ¬ 0 ≤ R i := (fa_of_lt h).2.1
  unfold mo
  by_cases c : R i ≤ R (bs R i)
  · rw [es, if_pos c]
    by_cases e : i = 0
    · subst e
      have e0 : bs R 0 = 0 := rfl
      rw [e0, if_neg (fun a => h2 a.2), if_neg (fun a => h2 a.2)]
    · exact if_iff ⟨fun a => ⟨by omega, a.2⟩, fun a => ⟨by omega, a.2⟩⟩ _ _
  · rw [es, if_neg c, if_neg (fun a => h2 a.2), if_neg]
    intro a
    have a2 := a.2
    rw [fa_le] at c a2 h2
    omega
theorem mo_set {R : Nat → Int32} {i : Nat} (h : 0 ≤ R i) (h2 : ¬ (0 < i ∧ 0 ≤ R (bs R i))) : mo R (i + 1) = nI i := by
  have es : bs R (i + 1) = if R i ≤ R (bs R i) then bs R i else i := rfl
  have e : bs R (i + 1) = i := by
    rw [es]
    by_cases e : i = 0
    · subst e; exact ite_self _
    · rw [if_neg]
      intro c
      refine h2 ⟨by omega, ?_⟩
      rw [fa_le] at c h ⊢
      omega
  unfold mo
  rw [e, if_pos ⟨by omega, h⟩]
theorem mo_keep {R : Nat → Int32} {i : Nat} (h0 : 0 < i) (h : 0 ≤ R (bs R i)) (c : R i ≤ R (bs R i)) : mo R (i + 1) = nI (bs R i) := by
  have es : bs R (i + 1) = bs R i := if_pos c
  unfold mo
  rw [es, if_pos ⟨by omega, h⟩]
theorem mo_new {R : Nat → Int32} {i : Nat} (h : 0 ≤ R i) (c : ¬ R i ≤ R (bs R i)) : mo R (i + 1) = nI i := by
  have es : bs R (i + 1) = i := if_neg c
  unfold mo
  rw [es, if_pos ⟨by omega, h⟩]
theorem m_give {A : AS} {u0 : SM} {R180 : Int32 → SM → Prop} {Q : SM → Prop} {left : Nat} (hM : RM u0 A) (hW : WF A) (hpos : 0 ≤ u0.1 24 (bs (u0.1 24) (A 0 3))) (hQ : ∀ v s : SM, s = (st_up u0.1 22 (bs (u0.1 24) (A 0 3)) (u0.1 22 (bs (u0.1 24) (A 0 3)) + 1), u0.2) → v = (st_up s.1 24 (bs (u0.1 24) (A 0 3)) (-1), s.2) → R180 (nI left) v) : ∃ n, qX9_parts_l191 R180 Q n (nI (left + 1)) (-1) 0 u0 := by
  have hk1 := hW.k1
  have hk20 := hW.k
  have key : ∀ (r i : Nat), i + r = A 0 3 → qX9_parts_l191 R180 Q (r + 1) (nI (left + 1)) (mo (u0.1 24) i) (nI i) u0 := by
    intro r
    induction r with
    | zero =>
      intro i hi
      have e : i = A 0 3 := by omega
      subst e
      have hb := bs_lt (u0.1 24) (A 0 3) (by omega)
      have em : mo (u0.1 24) (A 0 3) = nI (bs (u0.1 24) (A 0 3)) := by unfold mo; rw [if_pos ⟨by omega, hpos⟩]
      have hin : vp_in (nI (bs (u0.1 24) (A 0 3))) 20 := vp_in_nI (by omega) (by decide)
      show qX9_parts_191 R180 (qX9_parts_l191 R180 Q 0) Q _ _ _ _
      unfold qX9_parts_191
      rw [em, nI_clamp (n := bs (u0.1 24) (A 0 3)) (by omega)]
      refine pk_le (A 0 3) (A 0 3) (fun _ => ⟨hin, hin, fun s17 h17 => ⟨hin, fun s18 h18 x hx => ?_⟩⟩) (fun h => by omega) (hx := hM.kinds)
      rw [hx, pk_m1]
      exact hQ s18 s17 h17 h18
    | succ r ih =>
      intro i hir
      have nx := ih (i + 1) (by omega)
      have hin : vp_in (nI i) 20 := vp_in_nI (by omega) (by decide)
      show qX9_parts_191 R180 (qX9_parts_l191 R180 Q (r + 1)) Q _ _ _ _
      unfold qX9_parts_191
      rw [nI_clamp (n := i) (by omega)]
      have keep : mo (u0.1 24) (i + 1) = mo (u0.1 24) i → qX9_parts_237 R180 (qX9_parts_l191 R180 Q (r + 1)) Q (nI (left + 1)) (mo (u0.1 24) i) (nI i) u0 := by
        intro e
        unfold qX9_parts_237 qX9_parts_239
        intro x hx
        rw [hx, nI_1]
        rw [e] at nx
        exact nx
      have set : mo (u0.1 24) (i + 1) = nI i → qX9_parts_232 R180 (qX9_parts_l191 R180 Q (r + 1)) Q (nI (left + 1)) (nI i) u0 := by
        intro e
        unfold qX9_parts_232 qX9_parts_239
        intro x hx
        rw [hx, nI_1]
        rw [e] at nx
        exact nx
      refine pk_le (A 0 3) i (fun h => by omega) (fun _ => ⟨hin, fun c => keep (mo_neg c), fun c => ?_⟩) (hx := hM.kinds)
      have c2 := fa_of_nlt c
      by_cases g : 0 < i ∧ 0 ≤ u0.1 24 (bs (u0.1 24) i)
      · have hb := bs_lt (u0.1 24) i g.1
        have em : mo (u0.1 24) i = nI (bs (u0.1 24) i) := by unfold mo; rw [if_pos g]
        rw [em] at keep ⊢
        rw [nI_clamp (n := bs (u0.1 24) i) (by omega)]
        exact ⟨fun h => absurd h (nI_pos (by omega)), fun _ => ⟨hin, vp_in_nI (by omega) (by decide), fun d => keep (mo_keep g.1 g.2 d), fun d => set (mo_new c2 d)⟩⟩
      · have em : mo (u0.1 24) i = -1 := by unfold mo; rw [if_neg g]
        rw [em]
        exact ⟨fun _ => set (mo_set c2 g), fun h => absurd neg1_lt h⟩
  have k0 := key (A 0 3) 0 (by omega)
  have e0 : mo (u0.1 24) 0 = -1 := by unfold mo; rw [if_neg (by omega)]
  rw [e0] at k0
  exact ⟨_, k0⟩
/-- rows 22 and 24 apart -/
def GM (u v : SM) : Prop := ∀ k, k ≠ 22 → k ≠ 24 → v.1 k = u.1 k
theorem GM.rf (u : SM) : GM u u := fun _ _ _ => rfl
theorem GM.tr {u v w : SM} (h : GM u v) (h2 : GM v w) : GM u w := fun k a b => (h2 k a b).trans (h k a b)
theorem GM.S {u v : SM} (h : GM u v) : MES u v := ⟨fun j _ _ => by rw [h 0 (by decide) (by decide)], fun k a b => h k (by omega) (by omega)⟩
theorem m_gives {A : AS} {y p : Nat} {u0 : SM} {Q : SM → Prop} {n0 : Nat → Nat} (hM : RM u0 A) (hW : WF A) (hp : p < A 0 3) (h22 : ∀ q, q < A 0 3 → u0.1 22 q = nI (n0 q)) (h24 : ∀ q, q < A 0 3 → u0.1 24 q = rr A y p q) (hQ : ∀ v, GM u0 v → (∀ q, q < A 0 3 → v.1 22 q = nI (n0 q + exN (A 0 3) (rr A y p) (lft A y p) q)) → Q v) : ∃ n, qX9_parts_l180 Q n (nI (lft A y p)) u0 := by
  have hk1 := hW.k1
  have hk20 := hW.k
  have hll := lft_lt hW y hp
  have hlv : lvN A p ≤ A 0 3 := fb_ct_le _ _
  have key : ∀ (r g : Nat) (u : SM), g + r = lft A y p → GM u0 u → (∀ q, q < A 0 3 → u.1 22 q = nI (n0 q + exN (A 0 3) (rr A y p) g q)) → (∀ q, q < A 0 3 → u.1 24 q = Rg (A 0 3) (rr A y p) g q) → qX9_parts_l180 Q (r + 1) (nI r) u := by
    intro r
    induction r with
    | zero =>
      intro g u hg hG h2 h4
      have e : g = lft A y p := by omega
      subst e
      show qX9_parts_180 (qX9_parts_l180 Q 0) Q _ _
      unfold qX9_parts_180
      exact pk_le 0 0 (fun _ => hQ u hG h2) (fun h => by omega)
    | succ r ih =>
      intro g u hg hG h2 h4
      have eb : bs (u.1 24) (A 0 3) = bs (Rg (A 0 3) (rr A y p) g) (A 0 3) := bs_cong (A 0 3) h4
      have hb := bs_lt (Rg (A 0 3) (rr A y p) g) (A 0 3) (by omega)
      have hpos := Rg_pos hW y hp (show g < lft A y p by omega)
      show qX9_parts_180 (qX9_parts_l180 Q (r + 1)) Q _ _
      unfold qX9_parts_180
      refine pk_le (r + 1) 0 (fun h => by omega) (fun _ => ?_)
      refine m_give (left := r) (hM.eqS hG.S) hW (by rw [eb, h4 _ hb]; exact hpos) (fun v s hs hv => ?_)
      rw [eb] at hs hv
      refine ih (g + 1) v (by omega) (hG.tr (fun k a b => by rw [hv, mk_k _ _ _ b, hs, mk_k _ _ _ a])) (fun q hq => ?_) (fun q hq => ?_)
      · rw [hv, mk_k _ _ _ (by decide), hs]
        show _ = nI (n0 q + (exN (A 0 3) (rr A y p) g q + if q = bs (Rg (A 0 3) (rr A y p) g) (A 0 3) then 1 else 0))
        by_cases a : q = bs (Rg (A 0 3) (rr A y p) g) (A 0 3)
        · rw [if_pos a, ← a, mk_s, h2 q hq, nI_1, Nat.add_assoc]
        · rw [if_neg a, mk_j _ _ _ a, h2 q hq, Nat.add_zero]
      · rw [hv]
        show _ = upd (Rg (A 0 3) (rr A y p) g) (bs (Rg (A 0 3) (rr A y p) g) (A 0 3)) (-1) q
        by_cases a : q = bs (Rg (A 0 3) (rr A y p) g) (A 0 3)
        · rw [← a, mk_s, pk_us]
        · rw [mk_j _ _ _ a, pk_un a, hs, mk_k _ _ _ (by decide)]
          exact h4 q hq
  exact ⟨_, key (lft A y p) 0 u0 (by omega) (GM.rf u0) (fun q hq => h22 q hq) (fun q hq => h24 q hq)⟩
set_option maxHeartbeats 1000000 in
theorem m_parts {A : AS} {y p : Nat} {u0 : SM} {Q : SM → Prop} {n0 : Nat → Nat} (hM : RM u0 A) (hW : WF A) (hp : p < A 0 3) (h23 : ∀ q, q < A 0 3 → u0.1 23 q = nI (ow A y q)) (h22 : ∀ q, q < A 0 3 → u0.1 22 q = nI (n0 q)) (hQ : ∀ v, GM u0 v → (∀ q, q < A 0 3 → v.1 22 q = nI (n0 q + ctb A y p q)) → Q v) : pX9_parts (nI p) u0 Q := by
  have hk1 := hW.k1
  have hk20 := hW.k
  have hby := by_pos hW y hp
  have hby2 := by_le hW y p
  have hal := al_le hW y p
  have howp := ow_le hW y p
  have hqt := qt_le hW y hp
  have hinp : vp_in (nI p) 20 := vp_in_nI (by omega) (by decide)
  have ep : Int32.toNatClampNeg (nI p) = p := nI_clamp (by omega)
  have l86 : ∀ (r i : Nat) (u : SM), i + r = A 0 3 → GM u0 u → (∀ q, q < A 0 3 → u.1 22 q = nI (n0 q + if q < i then qt A y p q else 0)) → (∀ q, q < i → u.1 24 q = rr A y p q) → qX9_parts_l86 Q (r + 1) (nI p) (nI (alN A y p)) (nI (ow A y p - fb_sm (qt A y p) i)) (nI (byN A y p)) (nI i) u := by
    intro r
    induction r with
    | zero =>
      intro i u hi hG h2 h4
      have e : i = A 0 3 := by omega
      subst e
      have hMs := hM.eqS hG.S
      show qX9_parts_86 (qX9_parts_l86 Q 0) Q _ _ _ _ _ _
      unfold qX9_parts_86
      refine pk_le (A 0 3) (A 0 3) (fun _ => ?_) (fun h => by omega) (hx := hMs.kinds)
      refine m_gives (y := y) (p := p) (n0 := fun q => n0 q + qt A y p q) hMs hW hp (fun q hq => by rw [h2 q hq, if_pos hq]) h4 (fun v hv hv2 => hQ v (hG.tr hv) (fun q hq => ?_))
      rw [hv2 q hq]
      unfold ctb
      rw [Nat.add_assoc]
    | succ r ih =>
      intro i u hir hG h2 h4
      have hi : i < A 0 3 := by omega
      have hMs := hM.eqS hG.S
      have hin : vp_in (nI i) 20 := vp_in_nI (by omega) (by decide)
      have ei : Int32.toNatClampNeg (nI i) = i := nI_clamp (by omega)
      have hm : fb_sm (qt A y p) (i + 1) ≤ fb_sm (qt A y p) (A 0 3) := by
        have := fb_sm_mono (qt A y p) (i + 1) (A 0 3 - (i + 1))
        rw [show i + 1 + (A 0 3 - (i + 1)) = A 0 3 by omega] at this
        exact this
      rw [fb_sm_succ] at hm
      show qX9_parts_86 (qX9_parts_l86 Q (r + 1)) Q _ _ _ _ _ _
      unfold qX9_parts_86
      rw [ei]
      refine pk_le (A 0 3) i (fun h => by omega) (fun _ => ⟨hin, fun s7 h7 => ?_⟩) (hx := hMs.kinds)
      have hG7 : GM u s7 := fun k a b => by rw [h7, mk_k _ _ _ b]
      have hM7 := hMs.eqS hG7.S
      have f22 : s7.1 22 = u.1 22 := by rw [h7, mk_k _ _ _ (by decide)]
      refine m_isLeafOf hM7 hW hi (by omega) (b2i_p (fun hL => ?_) (fun hL => ⟨hinp, ?_⟩))
      · have eL : Lu A p i = false := hL
        have eq0 : qt A y p i = 0 := by unfold qt; rw [if_neg (fun c => by rw [eL] at c; cases c)]
        have er : rr A y p i = -1 := by unfold rr; rw [if_neg (fun c => by rw [eL] at c; cases c)]
        unfold qX9_parts_174
        intro x hx
        rw [hx, nI_1]
        have nx := ih (i + 1) s7 (by omega) (hG.tr hG7) (fun q hq => ?_) (fun q hq => ?_)
        · rw [fb_sm_succ, eq0, Nat.add_zero] at nx
          exact nx
        · rw [f22, h2 q hq]
          congr 2
          by_cases a : q = i
          · subst a; rw [if_neg (by omega), if_pos (by omega), eq0]
          · exact if_iff (by omega) _ _
        · rw [h7]
          by_cases a : q = i
          · subst a; rw [mk_s, er]
          · rw [mk_j _ _ _ a]; exact h4 q (by omega)
      · have eL : Lu A p i = true := hL
        have eqt : qt A y p i = wg A y p i / byN A y p := by unfold qt; rw [if_pos eL]
        have er : rr A y p i = nI (wg A y p i % byN A y p) := by unfold rr; rw [if_pos eL]
        have hwg := wg_le hW y p i
        have f23 : ∀ q, q < A 0 3 → s7.1 23 q = nI (ow A y q) := fun q hq => by rw [hG7 23 (by decide) (by decide), hG 23 (by decide) (by decide)]; exact h23 q hq
        have fin : ∀ k0 : Nat, ow A y p * k0 = wg A y p i → qX9_parts_134 (qX9_parts_l86 Q (r + 1)) Q (nI p) (nI (alN A y p)) (nI (ow A y p - fb_sm (qt A y p) i)) (nI (byN A y p)) (nI i) (nI k0) (nI (ow A y p)) s7 := by
          intro k0 hk0
          unfold qX9_parts_134
          rw [pk_mul, hk0]
          intro x13 h13
          subst h13
          have hne : ¬ nI (byN A y p) = 0 := nI_ne0 hby (by omega)
          rw [ei, pk_rem (by omega) hby (by omega), pk_div (by omega) hby (by omega), ← eqt, ← er, f22, h2 i hi, if_neg (Nat.lt_irrefl i), Nat.add_zero, nI_add]
          refine ⟨hin, hne, hin, fun s14 h14 => ⟨hne, hin, fun s15 h15 => ⟨hne, fun x16 h16 => ?_⟩⟩⟩
          rw [pk_sub (by omega), Nat.sub_sub, ← fb_sm_succ] at h16
          unfold qX9_parts_174
          intro x hx
          rw [hx, nI_1, h16]
          have g24 : s14.1 24 = s7.1 24 := by rw [h14, mk_k _ _ _ (by decide)]
          refine ih (i + 1) s15 (by omega) ((hG.tr hG7).tr (fun k a b => by rw [h15, mk_k _ _ _ b, h14, mk_k _ _ _ a])) (fun q hq => ?_) (fun q hq => ?_)
          · rw [h15, mk_k _ _ _ (by decide), h14]
            by_cases a : q = i
            · subst a; rw [mk_s, if_pos (by omega)]
            · rw [mk_j _ _ _ a, f22, h2 q hq]
              congr 2
              exact if_iff (by omega) _ _
          · rw [h15]
            by_cases a : q = i
            · subst a; rw [mk_s]
            · rw [mk_j _ _ _ a, g24, h7, mk_j _ _ _ a]; exact h4 q (by omega)
        rw [ep, f23 p hp, f23 i hi]
        refine pk_ne (alN A y p) 0 (fun c => ⟨hin, fin (ow A y i) ?_⟩) (fun c => fin 1 ?_)
        · unfold wg; rw [if_neg c]
        · unfold wg; rw [if_pos c]
  have start : qX9_parts_81 Q (nI p) (nI (alN A y p)) (nI (ow A y p)) (nI (byN A y p)) u0 := by
    unfold qX9_parts_81
    exact ⟨A 0 3 + 1, l86 (A 0 3) 0 u0 (by omega) (GM.rf u0) (fun q hq => by rw [if_neg (Nat.not_lt_zero q), Nat.add_zero]; exact h22 q hq) (fun q hq => absurd hq (Nat.not_lt_zero _))⟩
  have l7 : ∀ (r i : Nat), i + r = A 0 3 → qX9_parts_l7 Q (r + 1) (nI p) (nI (fb_sm (fun q => if Lu A p q = true then ow A y q else 0) i)) (nI (fb_ct (Lu A p) i)) (nI i) u0 := by
    intro r
    induction r with
    | zero =>
      intro i hi
      have e : i = A 0 3 := by omega
      subst e
      show qX9_parts_7 (qX9_parts_l7 Q 0) Q _ _ _ _ _
      unfold qX9_parts_7
      rw [ep, h23 p hp]
      refine pk_le (A 0 3) (A 0 3) (fun _ => ⟨hinp, fun x1 h1 => ?_⟩) (fun h => by omega) (hx := hM.kinds)
      subst h1
      refine pk_ne (alN A y p) 0 (fun hne => ?_) (fun hz => ?_)
      · have eb : byN A y p = alN A y p := by unfold byN; rw [if_neg hne]
        have st := start
        rw [eb] at st
        exact st
      · have eb : byN A y p = lvN A p := by unfold byN; rw [if_pos hz]
        have st := start
        rw [eb] at st
        exact st
    | succ r ih =>
      intro i hir
      have hi : i < A 0 3 := by omega
      have nx := ih (i + 1) (by omega)
      show qX9_parts_7 (qX9_parts_l7 Q (r + 1)) Q _ _ _ _ _
      unfold qX9_parts_7
      have two : ∀ k0 : Nat, fb_sm (fun q => if Lu A p q = true then ow A y q else 0) (i + 1) = fb_sm (fun q => if Lu A p q = true then ow A y q else 0) i + k0 → qX9_parts_38 (qX9_parts_l7 Q (r + 1)) Q (nI p) (nI (fb_ct (Lu A p) i)) (nI i) (nI k0) (nI (fb_sm (fun q => if Lu A p q = true then ow A y q else 0) i)) u0 := by
        intro k0 hk0
        unfold qX9_parts_38
        intro x4 h4
        rw [nI_add, ← hk0] at h4
        subst h4
        refine m_isLeafOf hM hW hi (by omega) (b2i_p (fun hL => ?_) (fun hL => ?_))
        · have eL : Lu A p i = false := hL
          unfold qX9_parts_56
          intro x hx x2 hx2
          rw [hx2, hx, nI_1, show (0 : Int32) = nI 0 from rfl, nI_add, Nat.add_zero]
          rw [ct_n eL] at nx
          exact nx
        · have eL : Lu A p i = true := hL
          unfold qX9_parts_56
          intro x hx x2 hx2
          rw [hx2, hx, nI_1, nI_1]
          rw [ct_y eL] at nx
          exact nx
      refine pk_le (A 0 3) i (fun h => by omega) (fun _ => m_isLeafOf hM hW hi (by omega) (b2i_p (fun hL => ?_) (fun hL => ⟨vp_in_nI (by omega) (by decide), ?_⟩))) (hx := hM.kinds)
      · have eL : Lu A p i = false := hL
        exact two 0 (by rw [fb_sm_succ, if_neg (fun c => by rw [eL] at c; cases c)])
      · have eL : Lu A p i = true := hL
        rw [nI_clamp (n := i) (by omega), h23 i hi]
        exact two (ow A y i) (by rw [fb_sm_succ, if_pos eL])
  unfold pX9_parts
  exact ⟨A 0 3 + 1, l7 (A 0 3) 0 (by omega)⟩
/-- rows 22 to 24 apart -/
def GN (u v : SM) : Prop := ∀ k, k < 22 → v.1 k = u.1 k
theorem GN.S {u v : SM} (h : GN u v) : MES u v := ⟨fun j _ _ => by rw [h 0 (by decide)], fun k a b => h k (by omega)⟩
theorem GN.Y {A : AS} {y : Nat} {u v : SM} (h : GN u v) (hR : YR A y u) : YR A y v := fun t ht => by rw [h 13 (by decide), h 14 (by decide)]; exact hR t ht
theorem m_numbers {A : AS} {y : Nat} {u0 : SM} {Q : SM → Prop} (hM : RM u0 A) (hW : WF A) (hR : YR A y u0) (hy : y < 6) (hQ : ∀ v, GN u0 v → (∀ q, q < A 0 3 → v.1 23 q = nI (ow A y q)) → (∀ q, q < A 0 3 → v.1 22 q = nI (nuN A y q)) → Q v) : pX9_numbers (nI y) u0 Q := by
  have hk20 := hW.k
  have l54 : ∀ u1 : SM, GN u0 u1 → (∀ q, q < A 0 3 → u1.1 23 q = nI (ow A y q)) → (∀ q, q < A 0 3 → u1.1 22 q = nI (if lf A q = true then ow A y q else 0)) → ∃ n, qX9_numbers_l54 Q n 0 u1 := by
    intro u1 hG1 h23 h22
    refine lpS (fun n i u => qX9_numbers_l54 Q n i u) (fun i u => GN u0 u ∧ (∀ q, q < A 0 3 → u.1 23 q = nI (ow A y q)) ∧ ∀ q, q < A 0 3 → u.1 22 q = nI ((if lf A q = true then ow A y q else 0) + fb_sm (fun p => if lf A p = true then 0 else ctb A y p q) i)) (A 0 3) (fun n u hI => ?_) (fun n i u hi hI ih => ?_) u1 ⟨hG1, h23, fun q hq => h22 q hq⟩
    · have hMs := hM.eqS hI.1.S
      show qX9_numbers_54 (qX9_numbers_l54 Q n) Q _ _
      unfold qX9_numbers_54
      exact pk_le (A 0 3) (A 0 3) (fun _ => hQ u hI.1 hI.2.1 hI.2.2) (fun h => by omega) (hx := hMs.kinds)
    · have hMs := hM.eqS hI.1.S
      have hle := ow_le hW y i
      show qX9_numbers_54 (qX9_numbers_l54 Q n) Q _ _
      unfold qX9_numbers_54
      refine pk_le (A 0 3) i (fun h => by omega) (fun _ => m_isLeaf hMs hW hi (b2i_q (fun hl => ⟨vp_in_nI (by omega) (by decide), ?_⟩) (fun hl => ?_))) (hx := hMs.kinds)
      · rw [nI_clamp (n := i) (by omega), hI.2.1 i hi]
        refine pk_le (ow A y i) 0 (fun h0 => ?_) (fun h0 => ?_)
        · unfold qX9_numbers_84
          intro x hx
          rw [hx, nI_1]
          refine ih u ⟨hI.1, hI.2.1, fun q hq => ?_⟩
          rw [fb_sm_succ, if_neg (show ¬ lf A i = true from fun c => by rw [hl] at c; cases c), ctb_0 (by omega), Nat.add_zero]
          exact hI.2.2 q hq
        · refine m_parts hMs hW hi hI.2.1 hI.2.2 (fun v hv hv2 => ?_)
          unfold qX9_numbers_84
          intro x hx
          rw [hx, nI_1]
          refine ih v ⟨fun k hk => (hv k (by omega) (by omega)).trans (hI.1 k hk), fun q hq => by rw [hv 23 (by decide) (by decide)]; exact hI.2.1 q hq, fun q hq => ?_⟩
          rw [hv2 q hq, fb_sm_succ, if_neg (show ¬ lf A i = true from fun c => by rw [hl] at c; cases c), Nat.add_assoc]
      · unfold qX9_numbers_84
        intro x hx
        rw [hx, nI_1]
        refine ih u ⟨hI.1, hI.2.1, fun q hq => ?_⟩
        rw [fb_sm_succ, if_pos hl, Nat.add_zero]
        exact hI.2.2 q hq
  unfold pX9_numbers
  refine lpS (fun n i u => qX9_numbers_l2 Q n (nI y) i u) (fun i u => GN u0 u ∧ ∀ q, q < i → u.1 23 q = nI (ow A y q) ∧ u.1 22 q = nI (if lf A q = true then ow A y q else 0)) (A 0 3) (fun n u hI => ?_) (fun n i u hi hI ih => ?_) u0 ⟨fun _ _ => rfl, fun q hq => absurd hq (Nat.not_lt_zero _)⟩
  · have hMs := hM.eqS hI.1.S
    show qX9_numbers_2 (qX9_numbers_l2 Q n) Q _ _ _
    unfold qX9_numbers_2
    exact pk_le (A 0 3) (A 0 3) (fun _ => l54 u hI.1 (fun q hq => (hI.2 q hq).1) (fun q hq => (hI.2 q hq).2)) (fun h => by omega) (hx := hMs.kinds)
  · have hMs := hM.eqS hI.1.S
    have hRs := hI.1.Y hR
    have hin : vp_in (nI i) 20 := vp_in_nI (by omega) (by decide)
    show qX9_numbers_2 (qX9_numbers_l2 Q n) Q _ _ _
    unfold qX9_numbers_2
    refine pk_le (A 0 3) i (fun h => by omega) (fun _ => m_just hMs hW hRs hy (by omega) ⟨hin, fun s3 h3 => ?_⟩) (hx := hMs.kinds)
    rw [nI_clamp (n := i) (by omega)] at h3
    have hG3 : GN u s3 := fun k hk => by rw [h3, mk_k _ _ _ (by omega)]
    have hM3 := hMs.eqS hG3.S
    have last : ∀ k0 : Nat, (if lf A i = true then ow A y i else 0) = k0 → qX9_numbers_45 (qX9_numbers_l2 Q n) Q (nI y) (nI i) (nI k0) (nI i) s3 := by
      intro k0 hk0
      unfold qX9_numbers_45
      rw [nI_clamp (n := i) (by omega)]
      refine ⟨hin, fun s10 h10 x hx => ?_⟩
      rw [hx, nI_1]
      refine ih s10 ⟨fun k hk => by rw [h10, mk_k _ _ _ (by omega), hG3 k hk]; exact hI.1 k hk, fun q hq => ?_⟩
      by_cases a : q = i
      · subst a
        refine ⟨?_, ?_⟩
        · rw [h10, mk_k _ _ _ (by decide), h3, mk_s]
        · rw [h10, mk_s, hk0]
      · obtain ⟨b1, b2⟩ := hI.2 q (by omega)
        refine ⟨?_, ?_⟩
        · rw [h10, mk_k _ _ _ (by decide), h3, mk_j _ _ _ a]; exact b1
        · rw [h10, mk_j _ _ _ a, h3, mk_k _ _ _ (by decide)]; exact b2
    refine m_isLeaf hM3 hW hi (b2i_p (fun hl => last 0 (by rw [if_neg (fun c => by rw [hl] at c; cases c)])) (fun hl => ⟨hin, ?_⟩))
    have e23 : s3.1 23 i = nI (ow A y i) := by rw [h3, mk_s]
    rw [nI_clamp (n := i) (by omega), e23]
    exact last (ow A y i) (by rw [if_pos hl])
/-! birds() -/
noncomputable def bv (A : AS) (y k w : Nat) : Nat := if w = 0 then ow A y k else if w = 1 then fb_sm (fun q => if un A q k = true then ow A y q else 0) (A 0 3) else fb_sm (fun q => if un A q k = true then nuN A y q else 0) (A 0 3)
theorem m_birds {A : AS} {y k w : Nat} {u0 : SM} {Q : Int32 → SM → Prop} (hM0 : RM u0 A) (hW : WF A) (hy : y < 6) (hk : k < A 0 3) (hw : w < 3) (hQ : ∀ v : SM, MEq u0 v → v.1 0 0 = 0 → Q (nI (bv A y k w)) v) : pX9_birds (nI y) (nI k) (nI w) u0 Q := by
  have hk20 := hW.k
  unfold pX9_birds
  refine ⟨fun h => absurd h (nI_pos (by omega)), fun _ => pk_le 6 y (fun h => by omega) (fun _ => m_isKind hM0 hW (fun h => absurd rfl (h k hk)) (fun _ _ _ => ⟨fun h => absurd h (by decide), fun _ => ⟨fun h => absurd h (nI_pos (by omega)), fun _ => pk_lt 2 w (fun h => by omega) (fun _ => ?_)⟩⟩))⟩
  unfold qX9_birds_33
  intro s3 h3
  have hu3 : MEq u0 s3 := by rw [h3]; exact MEq.t0 u0 0
  have e0 : s3.1 0 0 = 0 := by rw [h3, mk_s]
  have hM3 := hM0.eq hu3
  rw [e0]
  refine ⟨fun _ => ?_, fun h => absurd (by decide) h⟩
  refine pairsOf_s hM3 hW hy (fun u hu hR => ?_)
  have eu : u.1 0 0 = 0 := by rw [hu.1 0 (by decide) (by decide)]; exact e0
  have hMu := hM3.eqS hu
  have hu0 := hu3.tr hu.M
  refine pk_ne w 0 (fun hne => ?_) (fun hz => ?_)
  · refine m_numbers hMu hW hR hy (fun v hG h23 h22 => ?_)
    have hMv := hMu.eqS hG.S
    have ev : v.1 0 0 = 0 := by rw [hG 0 (by decide)]; exact eu
    have hv0 := hu0.tr hG.S.M
    have hq := hQ v hv0 ev
    refine lpG (fun n c i => qX9_birds_l72 Q n (nI k) (nI w) c i v) (fb_sm (fun q => if un A q k = true then (if w = 1 then ow A y q else nuN A y q) else 0)) (A 0 3) rfl (fun n => ?_) (fun n i hi ih => ?_)
    · show qX9_birds_72 (qX9_birds_l72 Q n) Q _ _ _ _ _
      unfold qX9_birds_72
      refine pk_le (A 0 3) (A 0 3) (fun _ => ?_) (fun h => by omega) (hx := hMv.kinds)
      unfold bv at hq
      rw [if_neg hne] at hq
      by_cases e1 : w = 1
      · rw [if_pos e1] at hq
        have e : fb_sm (fun q => if un A q k = true then (if w = 1 then ow A y q else nuN A y q) else 0) (A 0 3) = fb_sm (fun q => if un A q k = true then ow A y q else 0) (A 0 3) := fb_sm_cong (fun q _ => by rw [if_pos e1])
        rw [e]
        exact hq
      · rw [if_neg e1] at hq
        have e : fb_sm (fun q => if un A q k = true then (if w = 1 then ow A y q else nuN A y q) else 0) (A 0 3) = fb_sm (fun q => if un A q k = true then nuN A y q else 0) (A 0 3) := fb_sm_cong (fun q _ => by rw [if_neg e1])
        rw [e]
        exact hq
    · have hin : vp_in (nI i) 20 := vp_in_nI (by omega) (by decide)
      show qX9_birds_72 (qX9_birds_l72 Q n) Q _ _ _ _ _
      unfold qX9_birds_72
      rw [nI_clamp (n := i) (by omega)]
      have add : ∀ k0 : Nat, fb_sm (fun q => if un A q k = true then (if w = 1 then ow A y q else nuN A y q) else 0) (i + 1) = fb_sm (fun q => if un A q k = true then (if w = 1 then ow A y q else nuN A y q) else 0) i + k0 → qX9_birds_119 (qX9_birds_l72 Q n) Q (nI k) (nI w) (nI i) (nI k0) (nI (fb_sm (fun q => if un A q k = true then (if w = 1 then ow A y q else nuN A y q) else 0) i)) v := by
        intro k0 hk0
        unfold qX9_birds_119
        intro x hx x2 hx2
        rw [hx2, hx, nI_1, nI_add, ← hk0]
        exact ih
      refine pk_le (A 0 3) i (fun h => by omega) (fun _ => m_isUnder hMv hW hi (by omega) (b2i_p (fun h => add 0 ?_) (fun h => pk_ne w 1 (fun e1 => ⟨hin, ?_⟩) (fun e1 => ⟨hin, ?_⟩)))) (hx := hMv.kinds)
      · rw [fb_sm_succ, if_neg (show ¬ un A i k = true from fun c => by rw [h] at c; cases c)]
      · rw [h22 i hi]
        exact add (nuN A y i) (by rw [fb_sm_succ, if_pos h, if_neg e1])
      · rw [h23 i hi]
        exact add (ow A y i) (by rw [fb_sm_succ, if_pos h, if_pos e1])
  · refine m_just hMu hW hR hy (by omega) ?_
    have hq := hQ u hu0 eu
    unfold bv at hq
    rw [if_pos hz] at hq
    exact hq
theorem c_clear20 {σ0 : St} {Q : St → Prop} (hQ : ∀ v, (∀ k, k ≠ 33 → k ≠ 34 → v k = σ0 k) → (∀ q, q < 20 → v 33 q = 0 ∧ v 34 q = 0) → Q v) : pX5_clear σ0 Q := by
  unfold pX5_clear
  refine lpS (fun m i σ => qX5_clear_l2 Q m i σ) (fun i σ => (∀ k, k ≠ 33 → k ≠ 34 → σ k = σ0 k) ∧ ∀ q, q < i → σ 33 q = 0 ∧ σ 34 q = 0) 20 (fun m σ hI => ?_) (fun m i σ hi hI ih => ?_) σ0 ⟨fun _ _ _ => rfl, fun d hd => absurd hd (Nat.not_lt_zero _)⟩
  · show qX5_clear_2 (qX5_clear_l2 Q m) Q _ _
    unfold qX5_clear_2
    exact pk_le 20 20 (fun _ => hQ σ hI.1 hI.2) (fun h => by omega)
  · have hin : vp_in (nI i) 20 := vp_in_nI hi (by decide)
    show qX5_clear_2 (qX5_clear_l2 Q m) Q _ _
    unfold qX5_clear_2
    rw [nI_clamp (n := i) (by omega)]
    refine pk_le 20 i (fun h => by omega) (fun _ => ⟨hin, fun s1 h1 => ⟨hin, fun s2 h2 x hx => ?_⟩⟩)
    rw [hx, nI_1]
    have g33 : s2 33 = s1 33 := by rw [h2, su_k (k := 34) (q := 33) _ _ _ (by decide)]
    have g34 : s1 34 = σ 34 := by rw [h1, su_k (k := 33) (q := 34) _ _ _ (by decide)]
    refine ih s2 ⟨fun k a b => by rw [h2, su_k _ _ _ b, h1, su_k _ _ _ a]; exact hI.1 k a b, fun q hq => ?_⟩
    by_cases a : q = i
    · subst a
      exact ⟨by rw [g33, h1, su_s], by rw [h2, su_s]⟩
    · obtain ⟨b1, b2⟩ := hI.2 q (by omega)
      exact ⟨by rw [g33, h1, su_j _ _ _ a]; exact b1, by rw [h2, su_j _ _ _ a, g34]; exact b2⟩
theorem sim_birds {σ : St} {u : SM} (hR : RelCM σ u) (x1 x2 x3 : Int32) (Q : Int32 → St → Prop) (E : St → Prop) (hQ : ∀ (r : Int32) (v : St), pX9_birds x1 x2 x3 u (fun r2 u2 => pX9_thrown u2 (fun t u3 => t = 0 ∧ r = r2 ∧ RelCM v u3)) → Q r v) (hE : ∀ v : St, pX9_birds x1 x2 x3 u (fun _ u2 => pX9_thrown u2 (fun t u3 => t = 1 ∧ RelCM v u3)) → E v) : pX8_birds x1 x2 x3 σ Q E := by
  obtain ⟨A, hW, hC, hM, hK⟩ := hR
  have hk20 := hW.k
  by_cases hg : ∃ y k w, y < 6 ∧ k < A 0 3 ∧ w < 3 ∧ x1 = nI y ∧ x2 = nI k ∧ x3 = nI w
  · obtain ⟨y, k, w, hy, hk, hw, e1, e2, e3⟩ := hg
    subst e1 e2 e3
    unfold pX8_birds
    refine c_isYear (fun h => absurd rfl (h y hy)) (fun _ _ _ => ⟨fun h => absurd h (by decide), fun _ => c_has hC hW (fun h => absurd rfl (h k hk)) (fun _ _ _ => ⟨fun h => absurd h (by decide), fun _ => ⟨fun h => absurd h (nI_pos (by omega)), fun _ => pk_le w 2 (fun _ => ?_) (fun h => by omega)⟩⟩)⟩)
    refine pairYear_ok hC hW hK hy (fun v hP h19 => ?_)
    have hCv := hC.eq hP.1
    have hY : YC A y v := YC.of hW hP.2.1 h19
    have fin : ∀ (z : St) (r : Int32), r = nI (bv A y k w) → (∀ q, q < 24 → z q = v q) → Q r z := by
      intro z r er hz
      refine hQ r z (m_birds hM hW hy hk hw (fun t ht ht0 => ⟨ht0, er, ?_⟩))
      exact PE.rk hW hC hM hP (fun q a _ => hz q a) ht
    refine c_clear20 (fun v1 k1 z1 => ?_)
    have c1 : ∀ z : St, (∀ q, q ≠ 33 → q ≠ 34 → q ≠ 35 → z q = v q) → RC z A ∧ YC A y z := fun z hz => ⟨hCv.eq (fun q a => by
      have a2 : q ≠ 33 ∧ q ≠ 34 ∧ q ≠ 35 := by
        unfold isW at a
        have := of_decide_eq_true a
        omega
      exact hz q a2.1 a2.2.1 a2.2.2), hY.eq (fun q a b => hz q (by omega) (by omega) (by omega))⟩
    obtain ⟨hC1, hY1⟩ := c1 v1 (fun q a b _ => k1 q a b)
    refine c_addKinds hC1 hW hY1 hy (fun q hq => (z1 q hq).1) (fun v2 k2 z2 => ?_)
    have k12 : ∀ q, q ≠ 33 → q ≠ 34 → q ≠ 35 → v2 q = v q := fun q a b _ => (k2 q a).trans (k1 q a b)
    obtain ⟨hC2, hY2⟩ := c1 v2 k12
    refine pk_ne w 0 (fun n0 => pk_ne w 1 (fun n1 => ?_) (fun e1 => ?_)) (fun e0 => ?_)
    · refine c_partAll hC2 hW z2 (fun q hq => by rw [k2 34 (by decide)]; exact (z1 q hq).2) (fun v3 k3 z3 => ?_)
      have k13 : ∀ q, q ≠ 33 → q ≠ 34 → q ≠ 35 → v3 q = v q := fun q a b c => (k3 q b c).trans (k12 q a b c)
      refine c_numberUnder (c1 v3 k13).1 hW hk z3 (fin v3 _ ?_ (fun q hq => k13 q (by omega) (by omega) (by omega)))
      unfold bv
      rw [if_neg n0, if_neg n1]
    · refine c_ownUnder hC2 hW hk z2 (fin v2 _ ?_ (fun q hq => k12 q (by omega) (by omega) (by omega)))
      unfold bv
      rw [if_neg n0, if_pos e1]
    · rw [nI_clamp (n := k) (by omega)]
      refine ⟨vp_in_nI (by omega) (by decide), fin v2 _ ?_ (fun q hq => k12 q (by omega) (by omega) (by omega))⟩
      unfold bv
      rw [if_pos e0]
      exact z2 k (by omega)
  · have fin : E σ := by
      refine hE σ ?_
      have go : qX9_birds_32 (fun _ u2 => pX9_thrown u2 (fun t u3 => t = 1 ∧ RelCM σ u3)) x1 x2 x3 u := by
        unfold qX9_birds_32 qX9_birds_33
        intro s1 hs1
        have hu : MEq u s1 := by rw [hs1]; exact MEq.t0 u 1
        have e0 : s1.1 0 0 = 1 := by rw [hs1, mk_s]
        rw [e0]
        exact ⟨fun h => absurd h (by decide), fun _ => ⟨e0, relK hW hC hM (CE.rf σ) hK hu⟩⟩
      unfold pX9_birds
      refine ⟨fun _ => go, fun h0 => ⟨fun _ => go, fun h1 => m_isKind hM hW (fun _ => ⟨fun _ => go, fun h => absurd rfl h⟩) (fun k hk e2 => ⟨fun _ => go, fun _ => ⟨fun _ => go, fun h2 => ⟨fun _ => go, fun h3 => ?_⟩⟩⟩)⟩⟩
      obtain ⟨y, hy, e1⟩ := ix1 (n := 6) h0 h1 (by decide)
      obtain ⟨w, hw, e3⟩ := ix4 (n := 2) h2 h3 (by decide)
      exact absurd ⟨y, k, w, hy, hk, hw, e1, e2, e3⟩ hg
    unfold pX8_birds qX8_birds_27
    refine c_isYear (fun _ => ⟨fun _ => fin, fun h => absurd rfl h⟩) (fun y hy e1 => ⟨fun _ => fin, fun _ => c_has hC hW (fun _ => ⟨fun _ => fin, fun h => absurd rfl h⟩) (fun k hk e2 => ⟨fun _ => fin, fun _ => ⟨fun _ => fin, fun h2 => ⟨fun h3 => ?_, fun _ => fin⟩⟩⟩)⟩)
    obtain ⟨w, hw, e3⟩ := ix3 (n := 2) h2 h3 (by decide)
    exact absurd ⟨y, k, w, hy, hk, hw, e1, e2, e3⟩ hg
