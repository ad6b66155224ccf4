/-! the class's parting -/
theorem c_give {A : AS} {σ0 : St} {Q : St → Prop} (hC : RC σ0 A) (hW : WF A) (hQ : ∀ v, v = st_up (st_up σ0 34 (bs (σ0 35) (A 0 3)) (σ0 34 (bs (σ0 35) (A 0 3)) + 1)) 35 (bs (σ0 35) (A 0 3)) (-1) → Q v) : pX5_giveToGreatestRest σ0 Q := by
  have hk1 := hW.k1
  have hk20 := hW.k
  have key : ∀ (r i : Nat), 0 < i → i + r = A 0 3 → qX5_giveToGreatestRest_l4 Q (r + 1) (nI (bs (σ0 35) i)) (nI i) σ0 := by
    intro r
    induction r with
    | zero =>
      intro i h0 hi
      have e : i = A 0 3 := by omega
      subst e
      have hb := bs_lt (σ0 35) (A 0 3) h0
      have hin : vp_in (nI (bs (σ0 35) (A 0 3))) 20 := vp_in_nI (by omega) (by decide)
      show qX5_giveToGreatestRest_4 (qX5_giveToGreatestRest_l4 Q 0) Q _ _ _
      unfold qX5_giveToGreatestRest_4
      rw [nI_clamp (n := bs (σ0 35) (A 0 3)) (by omega)]
      refine pk_le (A 0 3) (A 0 3) (fun _ => ⟨hin, hin, fun s1 h1 => ⟨hin, fun s2 h2 => hQ s2 ?_⟩⟩) (fun h => by omega) (hx := hC.kinds)
      rw [h2, h1]
    | succ r ih =>
      intro i h0 hi
      have hb := bs_lt (σ0 35) i h0
      have nx := ih (i + 1) (by omega) (by omega)
      have es : bs (σ0 35) (i + 1) = if σ0 35 i ≤ σ0 35 (bs (σ0 35) i) then bs (σ0 35) i else i := rfl
      show qX5_giveToGreatestRest_4 (qX5_giveToGreatestRest_l4 Q (r + 1)) Q _ _ _
      unfold qX5_giveToGreatestRest_4
      rw [nI_clamp (n := bs (σ0 35) i) (by omega), nI_clamp (n := i) (by omega)]
      refine pk_le (A 0 3) i (fun h => by omega) (fun _ => ⟨vp_in_nI (by omega) (by decide), vp_in_nI (by omega) (by decide), fun c => ?_, fun c => ?_⟩) (hx := hC.kinds)
      · unfold qX5_giveToGreatestRest_32
        intro x hx
        rw [hx, nI_1]
        rw [es, if_pos c] at nx
        exact nx
      · unfold qX5_giveToGreatestRest_32
        intro x hx
        rw [hx, nI_1]
        rw [es, if_neg c] at nx
        exact nx
  unfold pX5_giveToGreatestRest
  have k0 := key (A 0 3 - 1) 1 (by omega) (by omega)
  have e1 : bs (σ0 35) 1 = 0 := by have := bs_lt (σ0 35) 1 (by omega); omega
  rw [e1] at k0
  exact ⟨_, k0⟩
/-- rows 34 and 35 apart -/
def GP (σ v : St) : Prop := ∀ k, k ≠ 34 → k ≠ 35 → v k = σ k
theorem GP.rf (σ : St) : GP σ σ := fun _ _ _ => rfl
theorem GP.tr {σ v w : St} (h : GP σ v) (h2 : GP v w) : GP σ w := fun k a b => (h2 k a b).trans (h k a b)
theorem GP.C {σ v : St} (h : GP σ v) : CE σ v := fun k a => by
  have a2 : k ≠ 34 ∧ k ≠ 35 := by
    unfold isW at a
    have := of_decide_eq_true a
    omega
  exact h k a2.1 a2.2
theorem c_gives {A : AS} {σ0 : St} {Q : St → Prop} {left : Nat} {n0 : Nat → Nat} {R : Nat → Int32} (hC : RC σ0 A) (hW : WF A) (hl : left < 2 ^ 30) (h34 : ∀ q, q < A 0 3 → σ0 34 q = nI (n0 q)) (h35 : ∀ q, q < A 0 3 → σ0 35 q = R q) (hQ : ∀ v, GP σ0 v → (∀ q, q < A 0 3 → v 34 q = nI (n0 q + exN (A 0 3) R left q)) → Q v) : ∃ n, qX5_part_l195 Q n (nI left) 0 σ0 := by
  have hk1 := hW.k1
  have hk20 := hW.k
  refine lpS (fun n i σ => qX5_part_l195 Q n (nI left) i σ) (fun g σ => GP σ0 σ ∧ (∀ q, q < A 0 3 → σ 34 q = nI (n0 q + exN (A 0 3) R g q)) ∧ ∀ q, q < A 0 3 → σ 35 q = Rg (A 0 3) R g q) left (fun n σ hI => ?_) (fun n g σ hg hI ih => ?_) σ0 ⟨GP.rf σ0, fun q hq => h34 q hq, fun q hq => h35 q hq⟩
  · show qX5_part_195 (qX5_part_l195 Q n) Q _ _ _
    unfold qX5_part_195
    exact pk_le left left (fun _ => hQ σ hI.1 hI.2.1) (fun h => by omega)
  · show qX5_part_195 (qX5_part_l195 Q n) Q _ _ _
    unfold qX5_part_195
    refine pk_le left g (fun h => by omega) (fun _ => c_give (hC.eq hI.1.C) hW (fun v hv x hx => ?_))
    rw [hx, nI_1]
    have eb : bs (σ 35) (A 0 3) = bs (Rg (A 0 3) R g) (A 0 3) := bs_cong (A 0 3) hI.2.2
    have hb := bs_lt (Rg (A 0 3) R g) (A 0 3) (by omega)
    rw [eb] at hv
    refine ih v ⟨hI.1.tr (fun k a b => by rw [hv, su_k _ _ _ b, su_k _ _ _ a]), fun q hq => ?_, fun q hq => ?_⟩
    · rw [hv, su_k (k := 35) (q := 34) _ _ _ (by decide)]
      show _ = nI (n0 q + (exN (A 0 3) R g q + if q = bs (Rg (A 0 3) R g) (A 0 3) then 1 else 0))
      by_cases a : q = bs (Rg (A 0 3) R g) (A 0 3)
      · rw [if_pos a, ← a, su_s, hI.2.1 q hq, nI_1, Nat.add_assoc]
      · rw [if_neg a, su_j _ _ _ a, hI.2.1 q hq, Nat.add_zero]
    · rw [hv]
      show _ = upd (Rg (A 0 3) R g) (bs (Rg (A 0 3) R g) (A 0 3)) (-1) q
      by_cases a : q = bs (Rg (A 0 3) R g) (A 0 3)
      · rw [← a, su_s, pk_us]
      · rw [su_j _ _ _ a, pk_un a, su_k (k := 34) (q := 35) _ _ _ (by decide)]
        exact hI.2.2 q hq
set_option maxHeartbeats 1000000 in
theorem c_part {A : AS} {y p : Nat} {σ0 : St} {Q : St → Prop} {n0 : Nat → Nat} (hC : RC σ0 A) (hW : WF A) (hp : p < A 0 3) (h33 : ∀ q, q < 20 → σ0 33 q = nI (ow A y q)) (h34 : ∀ q, q < A 0 3 → σ0 34 q = nI (n0 q)) (hQ : ∀ v, GP σ0 v → (∀ q, q < A 0 3 → v 34 q = nI (n0 q + ctb A y p q)) → Q v) : pX5_part (nI p) σ0 Q := by
  have hk1 := hW.k1
  have hk20 := hW.k
  have hby := by_pos hW y hp
  have hby2 := by_le hW y p
  have hal := al_le hW y p
  have howp := ow_le hW y p
  have hqt := qt_le hW y hp
  have hinp : vp_in (nI p) 20 := vp_in_nI (by omega) (by decide)
  have ep : Int32.toNatClampNeg (nI p) = p := nI_clamp (by omega)
  -- the shares
  have l91 : ∀ al : Int32, (al = 0 ↔ alN A y p ≠ 0) → ∀ (r i : Nat) (σ : St), i + r = A 0 3 → GP σ0 σ → (∀ q, q < A 0 3 → σ 34 q = nI (n0 q + if q < i then qt A y p q else 0)) → (∀ q, q < i → σ 35 q = rr A y p q) → qX5_part_l91 Q (r + 1) (nI p) al (nI (byN A y p)) (nI (ow A y p - fb_sm (qt A y p) i)) (nI i) σ := by
    intro al hal0 r
    induction r with
    | zero =>
      intro i σ hi hG h4 h5
      have e : i = A 0 3 := by omega
      subst e
      have hCs := hC.eq hG.C
      show qX5_part_91 (qX5_part_l91 Q 0) Q _ _ _ _ _ _
      unfold qX5_part_91
      refine pk_le (A 0 3) (A 0 3) (fun _ => ?_) (fun h => by omega) (hx := hCs.kinds)
      refine c_gives (left := lft A y p) (n0 := fun q => n0 q + qt A y p q) (R := rr A y p) hCs hW (by unfold lft; omega) (fun q hq => by rw [h4 q hq, if_pos hq]) (fun q hq => h5 q hq) (fun v hv hv4 => hQ v (hG.tr hv) (fun q hq => ?_))
      rw [hv4 q hq]
      unfold ctb
      rw [Nat.add_assoc]
    | succ r ih =>
      intro i σ hir hG h4 h5
      have hi : i < A 0 3 := by omega
      have hCs := hC.eq hG.C
      have hin : vp_in (nI i) 20 := vp_in_nI (by omega) (by decide)
      have ei : Int32.toNatClampNeg (nI i) = i := nI_clamp (by omega)
      have hm : fb_sm (qt A y p) (i + 1) ≤ fb_sm (qt A y p) (A 0 3) := by
        have := fb_sm_mono (qt A y p) (i + 1) (A 0 3 - (i + 1))
        rw [show i + 1 + (A 0 3 - (i + 1)) = A 0 3 by omega] at this
        exact this
      rw [fb_sm_succ] at hm
      show qX5_part_91 (qX5_part_l91 Q (r + 1)) Q _ _ _ _ _ _
      unfold qX5_part_91
      rw [ei]
      refine pk_le (A 0 3) i (fun h => by omega) (fun _ => ⟨hin, fun s7 h7 => ?_⟩) (hx := hCs.kinds)
      have hG7 : GP σ s7 := fun k a b => by rw [h7, su_k _ _ _ b]
      have hC7 := hCs.eq hG7.C
      have f34 : s7 34 = σ 34 := by rw [h7, su_k (k := 35) (q := 34) _ _ _ (by decide)]
      refine c_isLeafUnder hC7 hW hi (by omega) (b2i_p (fun hL => ?_) (fun hL => ⟨hinp, ?_⟩))
      · have eL : Lu A p i = false := hL
        have eq0 : qt A y p i = 0 := by unfold qt; rw [if_neg (fun c => by rw [eL] at c; cases c)]
        have er : rr A y p i = -1 := by unfold rr; rw [if_neg (fun c => by rw [eL] at c; cases c)]
        unfold qX5_part_186
        intro x hx
        rw [hx, nI_1]
        have nx := ih (i + 1) s7 (by omega) (hG.tr hG7) (fun q hq => ?_) (fun q hq => ?_)
        · rw [fb_sm_succ, eq0, Nat.add_zero] at nx
          exact nx
        · rw [f34, h4 q hq]
          congr 2
          by_cases a : q = i
          · subst a; rw [if_neg (by omega), if_pos (by omega), eq0]
          · exact if_iff (by omega) _ _
        · rw [h7]
          by_cases a : q = i
          · subst a; rw [su_s, er]
          · rw [su_j _ _ _ a]; exact h5 q (by omega)
      · have eL : Lu A p i = true := hL
        have eqt : qt A y p i = wg A y p i / byN A y p := by unfold qt; rw [if_pos eL]
        have er : rr A y p i = nI (wg A y p i % byN A y p) := by unfold rr; rw [if_pos eL]
        have hwg := wg_le hW y p i
        have f33 : ∀ q, q < 20 → s7 33 q = nI (ow A y q) := fun q hq => by rw [hG7 33 (by decide) (by decide), hG 33 (by decide) (by decide)]; exact h33 q hq
        have fin : ∀ k0 : Nat, ow A y p * k0 = wg A y p i → qX5_part_146 (qX5_part_l91 Q (r + 1)) Q (nI p) al (nI (byN A y p)) (nI (ow A y p - fb_sm (qt A y p) i)) (nI i) (nI k0) (nI (ow A y p)) s7 := by
          intro k0 hk0
          unfold qX5_part_146
          rw [pk_mul, hk0]
          intro x14 h14
          subst h14
          have hne : ¬ nI (byN A y p) = 0 := nI_ne0 hby (by omega)
          rw [ei, pk_rem (by omega) hby (by omega), pk_div (by omega) hby (by omega), ← eqt, ← er, f34, h4 i hi, if_neg (Nat.lt_irrefl i), Nat.add_zero, nI_add]
          refine ⟨hin, hne, hin, fun s15 h15 => ⟨hne, fun x16 h16 => ⟨hne, hin, fun s17 h17 => ?_⟩⟩⟩
          rw [pk_sub (by omega), Nat.sub_sub, ← fb_sm_succ] at h16
          unfold qX5_part_186
          intro x hx
          rw [hx, nI_1, h16]
          have g35 : s15 35 = s7 35 := by rw [h15, su_k (k := 34) (q := 35) _ _ _ (by decide)]
          refine ih (i + 1) s17 (by omega) ((hG.tr hG7).tr (fun k a b => by rw [h17, su_k _ _ _ b, h15, su_k _ _ _ a])) (fun q hq => ?_) (fun q hq => ?_)
          · rw [h17, su_k (k := 35) (q := 34) _ _ _ (by decide), h15]
            by_cases a : q = i
            · subst a; rw [su_s, if_pos (by omega)]
            · rw [su_j _ _ _ a, f34, h4 q hq]
              congr 2
              exact if_iff (by omega) _ _
          · rw [h17]
            by_cases a : q = i
            · subst a; rw [su_s]
            · rw [su_j _ _ _ a, g35, h7, su_j _ _ _ a]; exact h5 q (by omega)
        rw [ep, f33 p (by omega), f33 i (by omega)]
        refine ⟨fun c => ⟨hin, fin (ow A y i) ?_⟩, fun c => fin 1 ?_⟩
        · unfold wg; rw [if_neg (hal0.mp c)]
        · have z : alN A y p = 0 := by
            by_cases z : alN A y p = 0
            · exact z
            · exact absurd (hal0.mpr z) c
          unfold wg; rw [if_pos z]
  have start : ∀ al : Int32, (al = 0 ↔ alN A y p ≠ 0) → qX5_part_72 Q (nI p) al (nI (byN A y p)) σ0 := by
    intro al hal0
    unfold qX5_part_72
    rw [ep, h33 p (by omega)]
    refine ⟨fun _ => ⟨hinp, fun x6 h6 => ⟨A 0 3 + 1, ?_⟩⟩, fun h => absurd (nI_lt (a := 0) (b := byN A y p) hby (by omega)) h⟩
    rw [h6]
    exact l91 al hal0 (A 0 3) 0 σ0 (by omega) (GP.rf σ0) (fun q hq => by rw [if_neg (Nat.not_lt_zero q), Nat.add_zero]; exact h34 q hq) (fun q hq => absurd hq (Nat.not_lt_zero _))
  -- the sums
  have l7 : ∀ (r i : Nat), i + r = A 0 3 → qX5_part_l7 Q (r + 1) (nI p) (nI (fb_sm (fun q => if Lu A p q = true then ow A y q else 0) i)) (nI (fb_ct (Lu A p) i)) (nI i) σ0 := by
    intro r
    induction r with
    | zero =>
      intro i hi
      have e : i = A 0 3 := by omega
      subst e
      show qX5_part_7 (qX5_part_l7 Q 0) Q _ _ _ _ _
      unfold qX5_part_7
      refine pk_le (A 0 3) (A 0 3) (fun _ => pk_ne (alN A y p) 0 (fun hne => ?_) (fun hz => ?_)) (fun h => by omega) (hx := hC.kinds)
      · unfold qX5_part_60
        have eb : byN A y p = alN A y p := by unfold byN; rw [if_neg hne]
        have st := start 0 ⟨fun _ => hne, fun _ => rfl⟩
        rw [eb] at st
        exact ⟨fun _ => st, fun h => absurd rfl h⟩
      · unfold qX5_part_60
        have eb : byN A y p = lvN A p := by unfold byN; rw [if_pos hz]
        have st := start 1 ⟨fun h => absurd h (by decide), fun h => absurd hz h⟩
        rw [eb] at st
        exact ⟨fun h => absurd h (by decide), fun _ => st⟩
    | succ r ih =>
      intro i hir
      have hi : i < A 0 3 := by omega
      have nx := ih (i + 1) (by omega)
      show qX5_part_7 (qX5_part_l7 Q (r + 1)) Q _ _ _ _ _
      unfold qX5_part_7
      refine pk_le (A 0 3) i (fun h => by omega) (fun _ => c_isLeafUnder hC hW hi (by omega) (b2i_p (fun hL => ?_) (fun hL => ⟨vp_in_nI (by omega) (by decide), ?_⟩))) (hx := hC.kinds)
      · have eL : Lu A p i = false := hL
        unfold qX5_part_45
        intro x hx
        rw [hx, nI_1]
        rw [fb_sm_succ, ct_n eL, if_neg (fun c => by rw [eL] at c; cases c), Nat.add_zero] at nx
        exact nx
      · have eL : Lu A p i = true := hL
        rw [nI_clamp (n := i) (by omega), h33 i (by omega), nI_add]
        intro x3 h3 x4 h4
        unfold qX5_part_45
        intro x hx
        rw [hx, nI_1, h3, h4, nI_1]
        rw [fb_sm_succ, ct_y eL, if_pos eL] at nx
        exact nx
  unfold pX5_part
  exact ⟨A 0 3 + 1, l7 (A 0 3) 0 (by omega)⟩
theorem c_partAll {A : AS} {y : Nat} {σ0 : St} {Q : St → Prop} (hC : RC σ0 A) (hW : WF A) (h33 : ∀ q, q < 20 → σ0 33 q = nI (ow A y q)) (h34 : ∀ q, q < 20 → σ0 34 q = 0) (hQ : ∀ v, GP σ0 v → (∀ q, q < A 0 3 → v 34 q = nI (nuN A y q)) → Q v) : pX5_partAll σ0 Q := by
  have hk20 := hW.k
  unfold pX5_partAll
  refine lpS (fun n i σ => qX5_partAll_l2 Q n i σ) (fun i σ => GP σ0 σ ∧ ∀ q, q < A 0 3 → σ 34 q = nI (fb_sm (fun p => if lf A p = true then (if p = q then ow A y p else 0) else ctb A y p q) i)) (A 0 3) (fun n σ hI => ?_) (fun n i σ hi hI ih => ?_) σ0 ⟨GP.rf σ0, fun q hq => h34 q (by omega)⟩
  · have hCs := hC.eq hI.1.C
    show qX5_partAll_2 (qX5_partAll_l2 Q n) Q _ _
    unfold qX5_partAll_2
    exact pk_le (A 0 3) (A 0 3) (fun _ => hQ σ hI.1 (fun q hq => by rw [hI.2 q hq, nu_eq hq])) (fun h => by omega) (hx := hCs.kinds)
  · have hCs := hC.eq hI.1.C
    have hin : vp_in (nI i) 20 := vp_in_nI (by omega) (by decide)
    have s33 : ∀ q, q < 20 → σ 33 q = nI (ow A y q) := fun q hq => by rw [hI.1 33 (by decide) (by decide)]; exact h33 q hq
    show qX5_partAll_2 (qX5_partAll_l2 Q n) Q _ _
    unfold qX5_partAll_2
    rw [nI_clamp (n := i) (by omega), hCs.leaf i hi]
    refine pk_le (A 0 3) i (fun h => by omega) (fun _ => ⟨hin, b2i_p (fun hl => ?_) (fun hl => ⟨hin, hin, hin, fun s3 h3 => ?_⟩)⟩) (hx := hCs.kinds)
    · refine c_part hCs hW hi s33 hI.2 (fun v hv hv4 => ?_)
      unfold qX5_partAll_48
      intro x hx
      rw [hx, nI_1]
      refine ih v ⟨hI.1.tr hv, fun q hq => ?_⟩
      rw [hv4 q hq, fb_sm_succ, if_neg (fun c => by rw [hl] at c; cases c)]
    · rw [hI.2 i hi, s33 i (by omega), nI_add] at h3
      unfold qX5_partAll_48
      intro x hx
      rw [hx, nI_1]
      refine ih s3 ⟨hI.1.tr (fun k a b => by rw [h3, su_k _ _ _ a]), fun q hq => ?_⟩
      rw [h3, fb_sm_succ, if_pos hl]
      by_cases a : q = i
      · subst a; rw [su_s, if_pos rfl]
      · rw [su_j _ _ _ a, if_neg (fun e => a e.symm), Nat.add_zero]; exact hI.2 q hq
theorem c_ownUnder {A : AS} {y p : Nat} {σ : St} {Q : Int32 → St → Prop} (hC : RC σ A) (hW : WF A) (hp : p < A 0 3) (h33 : ∀ q, q < 20 → σ 33 q = nI (ow A y q)) (hQ : Q (nI (fb_sm (fun q => if un A q p = true then ow A y q else 0) (A 0 3))) σ) : pX5_ownUnder (nI p) σ Q := by
  have hk20 := hW.k
  unfold pX5_ownUnder
  refine lpG (fun n c i => qX5_ownUnder_l4 Q n (nI p) c i σ) (fb_sm (fun q => if un A q p = true then ow A y q else 0)) (A 0 3) rfl (fun n => ?_) (fun n i hi ih => ?_)
  · show qX5_ownUnder_4 (qX5_ownUnder_l4 Q n) Q _ _ _ _
    unfold qX5_ownUnder_4
    exact pk_le (A 0 3) (A 0 3) (fun _ => hQ) (fun h => by omega) (hx := hC.kinds)
  · show qX5_ownUnder_4 (qX5_ownUnder_l4 Q n) Q _ _ _ _
    unfold qX5_ownUnder_4
    refine pk_le (A 0 3) i (fun h => by omega) (fun _ => c_isUnder hC hW hi (by omega) (b2i_p (fun h => ?_) (fun h => ⟨vp_in_nI (by omega) (by decide), ?_⟩))) (hx := hC.kinds)
    · unfold qX5_ownUnder_36
      intro x hx
      rw [hx, nI_1]
      rw [fb_sm_succ, if_neg (fun c => by rw [h] at c; cases c), Nat.add_zero] at ih
      exact ih
    · rw [nI_clamp (n := i) (by omega), h33 i (by omega), nI_add]
      intro x3 h3
      unfold qX5_ownUnder_36
      intro x hx
      rw [hx, nI_1, h3]
      rw [fb_sm_succ, if_pos h] at ih
      exact ih
theorem c_numberUnder {A : AS} {y p : Nat} {σ : St} {Q : Int32 → St → Prop} (hC : RC σ A) (hW : WF A) (hp : p < A 0 3) (h34 : ∀ q, q < A 0 3 → σ 34 q = nI (nuN A y q)) (hQ : Q (nI (fb_sm (fun q => if un A q p = true then nuN A y q else 0) (A 0 3))) σ) : pX5_numberUnder (nI p) σ Q := by
  have hk20 := hW.k
  have e : fb_sm (fun q => if un A q p = true then nuN A y q else 0) (A 0 3) = fb_sm (fun q => if (lf A q && un A q p) = true then nuN A y q else 0) (A 0 3) := fb_sm_cong (fun q _ => by
    cases hl : lf A q with
    | true => rw [Bool.true_and]
    | false =>
      rw [nu_no hW hl]
      split <;> rfl)
  rw [e] at hQ
  unfold pX5_numberUnder
  refine lpG (fun n c i => qX5_numberUnder_l4 Q n (nI p) c i σ) (fb_sm (fun q => if (lf A q && un A q p) = true then nuN A y q else 0)) (A 0 3) rfl (fun n => ?_) (fun n i hi ih => ?_)
  · show qX5_numberUnder_4 (qX5_numberUnder_l4 Q n) Q _ _ _ _
    unfold qX5_numberUnder_4
    exact pk_le (A 0 3) (A 0 3) (fun _ => hQ) (fun h => by omega) (hx := hC.kinds)
  · show qX5_numberUnder_4 (qX5_numberUnder_l4 Q n) Q _ _ _ _
    unfold qX5_numberUnder_4
    refine pk_le (A 0 3) i (fun h => by omega) (fun _ => c_isLeafUnder hC hW hi (by omega) (b2i_p (fun h => ?_) (fun h => ⟨vp_in_nI (by omega) (by decide), ?_⟩))) (hx := hC.kinds)
    · unfold qX5_numberUnder_36
      intro x hx
      rw [hx, nI_1]
      rw [fb_sm_succ, if_neg (fun c => by rw [h] at c; cases c), Nat.add_zero] at ih
      exact ih
    · rw [nI_clamp (n := i) (by omega), h34 i hi, nI_add]
      intro x3 h3
      unfold qX5_numberUnder_36
      intro x hx
      rw [hx, nI_1, h3]
      rw [fb_sm_succ, if_pos h] at ih
      exact ih
