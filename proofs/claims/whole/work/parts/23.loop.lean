theorem i32_sub6 {L : Nat} (h : L ≤ 3072) : (Int32.ofNat L - 6).toInt = (L : Int) - 6 := by
  have h1 : (Int32.ofNat L).toInt = (L : Int) := nI_toInt (by omega)
  rw [Int32.toInt_sub, h1]
  show ((L : Int) - 6).bmod (2 ^ 32) = (L : Int) - 6
  rw [Int.bmod_eq_of_le] <;> omega
set_option maxRecDepth 100000 in
set_option maxHeartbeats 8000000 in
theorem law_loop {X : XT} {l : Launch} {D : va_G} {A : Nat → Prop} {T : TT} {ad bd : Nat → Nat} {o b L : Nat} {xf : Nat → Int32} {Rel : St → SM → Prop} (hC : ∀ a c : Nat, a ≤ 601024 → c ≤ 7293034 → Cx (xcs X a c) (l, D, A, T) cL_law RL 7 2048 84000) (hZ : ∀ a c : Nat, ZX (xcs X a c)) (hR : ∀ a c : Nat, a ≤ 601024 → c ≤ 7293034 → RX X a c) (hst : l.stackTraces = false) (hs3 : Sep3 ad bd o) (hA3 : ∀ q, A3 ad bd o q → A q) (hSX0 : SX X b L xf) (hL : L ≤ 3072) (hSim : Sim Rel) (hfin : ∀ (a c : Nat) (w : va_W) (lv : List (Nat × Value)), a ≤ 601024 → c ≤ 7293034 → At (xcs X a c) 7 w 780 lv [.int 1]) :
    ∀ (n i cs ss : Nat) (v4 : Int32) (σ : St) (u : SM) (f : Nat → Int64), L + 7 ≤ i + n → i ≤ L → v4 = nI i → cs ≤ 1000 + i → ss ≤ 100000 + 6 * i → Rel σ u → At (xcs X cs ss) 7 (W3 T ad bd o σ u f) 23 [(0, .ref b), (1, .ref (ad 0)), (2, .ref (bd 0)), (3, .ref o), (4, .int v4)] [] := by
  intro n
  induction n with
  | zero => intro i cs ss v4 σ u f h1 h2; exact absurd h1 (by omega)
  | succ n ih =>
    intro i cs ss v4 σ u f hn hi ev hcs hss hrel
    have C := hC cs ss (by omega) (by omega)
    have hSX := SX_xcs hSX0 cs ss
    refine at_iload C dL_law_23 4 rfl ?_
    refine at_aload_n C dL_law_25 0 rfl ?_
    refine at_slen C hSX dL_law_26 ?_
    refine at_bipush (v := 6) C dL_law_27 (by decide) ?_
    refine at_isub C dL_law_29 ?_
    refine at_icmp_gt (tgt := 779) C dL_law_30 (by decide) (fun hc => ?_) (fun hc => ?_)
    · refine at_iconst (v := 1) C dL_law_779 (by decide) ?_
      exact hfin cs ss _ _ (by omega) (by omega)
    · have hi6 : i + 6 ≤ L := by
        rcases Nat.lt_or_ge L (i + 6) with q | q
        · refine absurd ?_ hc
          rw [Int32.lt_iff_toInt_lt, i32_sub6 hL, ev, nI_toInt (by omega)]
          omega
        · exact q
      have hin : ∀ k : Nat, k < 6 → vp_in (v4 + nI k) L := by
        intro k hk
        rw [ev, nI_add]
        exact vp_in_nI (by omega) (by omega)
      have htail : ∀ (σ2 : St) (u2 : SM) (f2 : Nat → Int64) (a c : Nat), Rel σ2 u2 → a ≤ (1000 + i) + 1 → c ≤ (100000 + 6 * i) + 6 → At (xcs X a c) 7 (W3 T ad bd o σ2 u2 f2) 773 [(0, .ref b), (1, .ref (ad 0)), (2, .ref (bd 0)), (3, .ref o), (4, .int v4)] [] := by
        intro σ2 u2 f2 a c hr2 ha hc2
        have C2 := hC a c (by omega) (by omega)
        obtain ⟨x, ex⟩ : ∃ y : Int32, y = v4 + 6 := ⟨_, rfl⟩
        refine at_iinc (v := x) (lv' := [(0, .ref b), (1, .ref (ad 0)), (2, .ref (bd 0)), (3, .ref o), (4, .int x)]) C2 dL_law_773 4 rfl (by rw [ex]; rfl) (by decide) [1, 2, 3, 4, 0] rfl ?_
        refine at_goto (tgt := 23) C2 dL_law_776 (by decide) ?_
        exact ih (i + 6) a c x σ2 u2 f2 (by omega) hi6 (by rw [ex, ev]; exact nI_add i 6) (by omega) (by omega) hr2
      refine at_aload_n C dL_law_33 0 rfl ?_
      refine at_iload C dL_law_34 4 rfl ?_
      refine at_sld C hSX (by have h9 := hin 0 (by decide); rw [show v4 + nI 0 = v4 by rw [ev, nI_add]; rfl] at h9; exact h9) dL_law_36 ?_
      refine at_bipush (v := 15) C dL_law_37 (by decide) ?_
      refine at_iand C dL_law_39 ?_
      refine at_topi (fun x ex => ?_)
      by_cases hc0 : x = 0
      · refine at_tabIn (off := 76) (tgt := 116) C dL_law_40 (by rw [hc0]; decide) (by rw [hc0]; decide) (by rw [hc0]; rfl) (by decide) ?_
        exact law_post hC hZ hR hst hs3 hA3 hSX0 (by omega) (by omega) hcs hss hin hrel hSim htail
      by_cases hc1 : x = 1
      · refine at_tabIn (off := 101) (tgt := 141) C dL_law_40 (by rw [hc1]; decide) (by rw [hc1]; decide) (by rw [hc1]; rfl) (by decide) ?_
        exact law_kind hC hZ hR hst hs3 hA3 hSX0 (by omega) (by omega) hcs hss hin hrel hSim htail
      by_cases hc2 : x = 2
      · refine at_tabIn (off := 150) (tgt := 190) C dL_law_40 (by rw [hc2]; decide) (by rw [hc2]; decide) (by rw [hc2]; rfl) (by decide) ?_
        exact law_later hC hZ hR hst hs3 hA3 hSX0 (by omega) (by omega) hcs hss hin hrel hSim htail
      by_cases hc3 : x = 3
      · refine at_tabIn (off := 163) (tgt := 203) C dL_law_40 (by rw [hc3]; decide) (by rw [hc3]; decide) (by rw [hc3]; rfl) (by decide) ?_
        exact law_tell hC hZ hR hst hs3 hA3 hSX0 (by omega) (by omega) hcs hss hin hrel hSim htail
      by_cases hc4 : x = 4
      · refine at_tabIn (off := 236) (tgt := 276) C dL_law_40 (by rw [hc4]; decide) (by rw [hc4]; decide) (by rw [hc4]; rfl) (by decide) ?_
        exact law_off hC hZ hR hst hs3 hA3 hSX0 (by omega) (by omega) hcs hss hin hrel hSim htail
      by_cases hc5 : x = 5
      · refine at_tabIn (off := 313) (tgt := 353) C dL_law_40 (by rw [hc5]; decide) (by rw [hc5]; decide) (by rw [hc5]; rfl) (by decide) ?_
        exact law_wind hC hZ hR hst hs3 hA3 hSX0 (by omega) (by omega) hcs hss hin hrel hSim htail
      by_cases hc6 : x = 6
      · refine at_tabIn (off := 362) (tgt := 402) C dL_law_40 (by rw [hc6]; decide) (by rw [hc6]; decide) (by rw [hc6]; rfl) (by decide) ?_
        exact law_known hC hZ hR hst hs3 hA3 hSX0 (by omega) (by omega) hcs hss hin hrel hSim htail
      by_cases hc7 : x = 7
      · refine at_tabIn (off := 387) (tgt := 427) C dL_law_40 (by rw [hc7]; decide) (by rw [hc7]; decide) (by rw [hc7]; rfl) (by decide) ?_
        exact law_partner hC hZ hR hst hs3 hA3 hSX0 (by omega) (by omega) hcs hss hin hrel hSim htail
      by_cases hc8 : x = 8
      · refine at_tabIn (off := 412) (tgt := 452) C dL_law_40 (by rw [hc8]; decide) (by rw [hc8]; decide) (by rw [hc8]; rfl) (by decide) ?_
        exact law_bird hC hZ hR hst hs3 hA3 hSX0 (by omega) (by omega) hcs hss hin hrel hSim htail
      by_cases hc9 : x = 9
      · refine at_tabIn (off := 437) (tgt := 477) C dL_law_40 (by rw [hc9]; decide) (by rw [hc9]; decide) (by rw [hc9]; rfl) (by decide) ?_
        exact law_birds hC hZ hR hst hs3 hA3 hSX0 (by omega) (by omega) hcs hss hin hrel hSim htail
      by_cases hc10 : x = 10
      · refine at_tabIn (off := 517) (tgt := 557) C dL_law_40 (by rw [hc10]; decide) (by rw [hc10]; decide) (by rw [hc10]; rfl) (by decide) ?_
        exact law_year hC hZ hR hst hs3 hA3 hSX0 (by omega) (by omega) hcs hss hin hrel hSim htail
      by_cases hc11 : x = 11
      · refine at_tabIn (off := 554) (tgt := 594) C dL_law_40 (by rw [hc11]; decide) (by rw [hc11]; decide) (by rw [hc11]; rfl) (by decide) ?_
        exact law_passage hC hZ hR hst hs3 hA3 hSX0 (by omega) (by omega) hcs hss hin hrel hSim htail
      by_cases hc12 : x = 12
      · refine at_tabIn (off := 603) (tgt := 643) C dL_law_40 (by rw [hc12]; decide) (by rw [hc12]; decide) (by rw [hc12]; rfl) (by decide) ?_
        exact law_change hC hZ hR hst hs3 hA3 hSX0 (by omega) (by omega) hcs hss hin hrel hSim htail
      by_cases hc13 : x = 13
      · refine at_tabIn (off := 640) (tgt := 680) C dL_law_40 (by rw [hc13]; decide) (by rw [hc13]; decide) (by rw [hc13]; rfl) (by decide) ?_
        exact law_look hC hZ hR hst hs3 hA3 hSX0 (by omega) (by omega) hcs hss hin hrel hSim htail
      by_cases hc14 : x = 14
      · refine at_tabIn (off := 708) (tgt := 748) C dL_law_40 (by rw [hc14]; decide) (by rw [hc14]; decide) (by rw [hc14]; rfl) (by decide) ?_
        exact law_count hC hZ hR hst hs3 hA3 hSX0 (by omega) (by omega) hcs hss hin hrel hSim htail
      refine at_tabOut (tgt := 773) C dL_law_40 (by have q0 := lv_neT hc0 (a := 0) (by decide); have q1 := lv_neT hc1 (a := 1) (by decide); have q2 := lv_neT hc2 (a := 2) (by decide); have q3 := lv_neT hc3 (a := 3) (by decide); have q4 := lv_neT hc4 (a := 4) (by decide); have q5 := lv_neT hc5 (a := 5) (by decide); have q6 := lv_neT hc6 (a := 6) (by decide); have q7 := lv_neT hc7 (a := 7) (by decide); have q8 := lv_neT hc8 (a := 8) (by decide); have q9 := lv_neT hc9 (a := 9) (by decide); have q10 := lv_neT hc10 (a := 10) (by decide); have q11 := lv_neT hc11 (a := 11) (by decide); have q12 := lv_neT hc12 (a := 12) (by decide); have q13 := lv_neT hc13 (a := 13) (by decide); have q14 := lv_neT hc14 (a := 14) (by decide); omega) (by decide) ?_
      exact htail σ u f cs ss hrel (by omega) (by omega)
def s0C : St := fun k => match k with
  | 0 => fun j => if j = 9 then (-1) else 0
  | 4 => fun j => if j = 4 then 1 else 0
  | 5 => (upd (fun _ => 0) (Int32.toNatClampNeg 0) 1)
  | 6 => (upd (fun _ => 0) (Int32.toNatClampNeg 0) 400)
  | 7 => (upd (fun _ => 0) (Int32.toNatClampNeg 0) 1)
  | 8 => (upd (fun _ => 0) (Int32.toNatClampNeg 0) (vp_nar .boolean 1))
  | _ => fun _ => 0
def s0M1 : St := fun k => match k with
  | 0 => fun j => if j = 3 then 1 else if j = 8 then (-1) else 0
  | 2 => (upd (fun _ => 0) (Int32.toNatClampNeg 0) (-1))
  | 3 => (upd (fun _ => 0) (Int32.toNatClampNeg 0) 1)
  | 4 => (upd (fun _ => 0) (Int32.toNatClampNeg 0) 400)
  | _ => fun _ => 0
def s0M : SM := (s0M1, fun _ _ => 0)
abbrev adC (h : Nat) (v : Nat → Nat) : Nat → Nat := fun k => [h, (v 38), (v 0), (v 1), (v 2), (v 3), (v 4), (v 5), (v 6), (v 7), (v 8), (v 9), (v 10), (v 11), (v 12), (v 13), (v 14), (v 15), (v 16), (v 23), (v 24), (v 25), (v 26), (v 27), (v 28), (v 29), (v 17), (v 18), (v 19), (v 20), (v 21), (v 22), (v 30), (v 31), (v 32), (v 33), (v 34), (v 35), (v 36), (v 37)].getD k 0
abbrev adM (h : Nat) (v : Nat → Nat) : Nat → Nat := fun k => [h, (v 0), (v 1), (v 2), (v 3), (v 4), (v 5), (v 6), (v 7), (v 8), (v 9), (v 10), (v 11), (v 12), (v 13), (v 14), (v 15), (v 16), (v 17), (v 18), (v 19), (v 20), (v 21), (v 22), (v 23), (v 24), (v 25)].getD k 0
theorem B8_at (T : TT) (h : Nat) (v : Nat → Nat) : ([0, 39, 1, 2, 3, 4, 5, 6, 7, 8, 9, 10, 11, 12, 13, 14, 15, 16, 17, 24, 25, 26, 27, 28, 29, 30, 18, 19, 20, 21, 22, 23, 31, 32, 33, 34, 35, 36, 37, 38] : List Nat).map (fun i => (BX8 T h v)[i]?) = (wC T (adC h v) s0C).map some := rfl
theorem B9_at (T : TT) (h : Nat) (v : Nat → Nat) : ([0, 1, 2, 3, 4, 5, 6, 7, 8, 9, 10, 11, 12, 13, 14, 15, 16, 17, 18, 19, 20, 21, 22, 23, 24, 25, 26] : List Nat).map (fun i => (BX9 T h v)[i]?) = (wM T (adM h v) s0M).map some := rfl
theorem va_P_at {D : va_G} {cl : List vw_C} {ws wc : va_W} {H : Heap} (hP : va_P D cl ws H) (isC : List Nat) (hC : isC.map (fun i => ws[i]?) = wc.map some) : va_P D cl wc H := by
  intro k q hq
  have h1 : (isC.map (fun i => ws[i]?))[k]? = some (some q) := by rw [hC, List.getElem?_map, hq]; rfl
  rw [List.getElem?_map] at h1
  cases hi2 : isC[k]? with
  | none => rw [hi2] at h1; cases h1
  | some i => rw [hi2] at h1; exact hP i q (Option.some.inj h1)
theorem Sep3_of {A : Nat → Prop} {T : TT} {ad bd : Nat → Nat} {o : Nat} {σ : St} {u : SM} {f : Nat → Int64} (hD : va_D A (W3 T ad bd o σ u f)) : Sep3 ad bd o ∧ ∀ q, A3 ad bd o q → A q := by
  have c1 : ∀ i : Nat, i < 40 → ∃ e, (W3 T ad bd o σ u f)[i]? = some (ad i, e) := by
    intro i hi
    have hl : i < (wC T ad σ).length := hi
    have h1 := List.getElem?_eq_getElem hl
    have h2 := (wC_key h1).2
    refine ⟨((wC T ad σ)[i]).2, ?_⟩
    rw [show (W3 T ad bd o σ u f)[i]? = some (wC T ad σ)[i] from w_appL h1, ← h2]
  have c2 : ∀ i : Nat, i < 27 → ∃ e, (W3 T ad bd o σ u f)[40 + i]? = some (bd i, e) := by
    intro i hi
    have hl : i < (wM T bd u).length := hi
    have h1 := List.getElem?_eq_getElem hl
    have h2 := (wM_key h1).2
    refine ⟨((wM T bd u)[i]).2, ?_⟩
    have h3 : (wC T ad σ ++ (wM T bd u ++ [(o, .inl (T.2.2, 1, .inr (.inl f)))]))[(wC T ad σ).length + i]? = some (wM T bd u)[i] := w_appR (w_appL h1)
    rw [show (W3 T ad bd o σ u f)[40 + i]? = some (wM T bd u)[i] from h3, ← h2]
  have c3 := W3_g67 T ad bd o σ u f
  refine ⟨⟨?_, ?_, ?_, ?_, ?_⟩, ?_⟩
  · intro i j hi hj e
    obtain ⟨e1, h1⟩ := c1 i hi
    obtain ⟨e2, h2⟩ := c1 j hj
    exact hD.1 i j _ _ h1 h2 e
  · intro i j hi hj e
    obtain ⟨e1, h1⟩ := c2 i hi
    obtain ⟨e2, h2⟩ := c2 j hj
    have := hD.1 _ _ _ _ h1 h2 e
    omega
  · intro i j hi hj e
    obtain ⟨e1, h1⟩ := c1 i hi
    obtain ⟨e2, h2⟩ := c2 j hj
    have := hD.1 _ _ _ _ h1 h2 e
    omega
  · intro i hi e
    obtain ⟨e1, h1⟩ := c1 i hi
    have := hD.1 _ _ _ _ h1 c3 e
    omega
  · intro j hj e
    obtain ⟨e1, h1⟩ := c2 j hj
    have := hD.1 _ _ _ _ h1 c3 e
    omega
  · intro q hq
    rcases hq with ⟨k, hk, rfl⟩ | ⟨k, hk, rfl⟩ | rfl
    · obtain ⟨e1, h1⟩ := c1 k hk
      exact hD.2 _ _ h1
    · obtain ⟨e1, h1⟩ := c2 k hk
      exact hD.2 _ _ h1
    · exact hD.2 _ _ c3
