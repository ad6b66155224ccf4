/-! THE LAW'S WORLD: the class's cells, the model's cells, the row 'out' -/
def W3 (T : TT) (ad bd : Nat → Nat) (o : Nat) (σ : St) (u : SM) (f : Nat → Int64) : va_W := wC T ad σ ++ (wM T bd u ++ [(o, .inl (T.2.2, 1, .inr (.inl f)))])
def A3 (ad bd : Nat → Nat) (o : Nat) : Nat → Prop := fun q => wA 40 ad q ∨ wA 27 bd q ∨ q = o
def Sep3 (ad bd : Nat → Nat) (o : Nat) : Prop := injA 40 ad ∧ injA 27 bd ∧ (∀ i j : Nat, i < 40 → j < 27 → ad i ≠ bd j) ∧ (∀ i : Nat, i < 40 → ad i ≠ o) ∧ ∀ j : Nat, j < 27 → bd j ≠ o
theorem w_key {n : Nat} {ad : Nat → Nat} {w : va_W} (h : w.map (fun q => q.1) = (List.range n).map ad) {i : Nat} {p : Nat × va_E} (hp : w[i]? = some p) : i < n ∧ p.1 = ad i := by
  have h1 : (w.map (fun q => q.1))[i]? = some p.1 := by rw [List.getElem?_map, hp]; rfl
  rw [h, List.getElem?_map] at h1
  rcases Nat.lt_or_ge i n with q | q
  · rw [List.getElem?_range q] at h1
    exact ⟨q, (Option.some.inj h1).symm⟩
  · rw [List.getElem?_eq_none (by rw [List.length_range]; exact q)] at h1
    cases h1
theorem wC_key {T : TT} {ad : Nat → Nat} {σ : St} {i : Nat} {p : Nat × va_E} (hp : (wC T ad σ)[i]? = some p) : i < 40 ∧ p.1 = ad i := w_key (n := 40) (ad := ad) rfl hp
theorem wM_key {T : TT} {bd : Nat → Nat} {u : SM} {i : Nat} {p : Nat × va_E} (hp : (wM T bd u)[i]? = some p) : i < 27 ∧ p.1 = bd i := w_key (n := 27) (ad := bd) rfl hp
theorem w_appL {w1 w2 : va_W} {k : Nat} {q : Nat × va_E} (h : w1[k]? = some q) : (w1 ++ w2)[k]? = some q := by
  rw [List.getElem?_append_left (List.getElem?_eq_some_iff.mp h).1]
  exact h
theorem w_appR {w1 w2 : va_W} {k : Nat} {q : Nat × va_E} (h : w2[k]? = some q) : (w1 ++ w2)[w1.length + k]? = some q := by
  rw [List.getElem?_append_right (Nat.le_add_right _ _), Nat.add_sub_cancel_left]
  exact h
section W3S
variable {D : va_G} {T : TT} {ad bd : Nat → Nat} {o : Nat} {σ : St} {u : SM} {f : Nat → Int64} {H H1 : Heap}
theorem W3_C (h : va_P D vwCl (W3 T ad bd o σ u f) H) : va_P D vwCl (wC T ad σ) H := fun k q hk => h k q (w_appL hk)
theorem W3_M (h : va_P D vwCl (W3 T ad bd o σ u f) H) : va_P D vwCl (wM T bd u) H := fun k q hk => h _ q (w_appR (w_appL hk))
theorem W3_O (h : va_P D vwCl (W3 T ad bd o σ u f) H) : va_P D vwCl [(o, .inl (T.2.2, 1, .inr (.inl f)))] H := fun k q hk => h _ q (w_appR (w_appR hk))
theorem W3_mk (h1 : va_P D vwCl (wC T ad σ) H) (h2 : va_P D vwCl (wM T bd u) H) (h3 : va_P D vwCl [(o, .inl (T.2.2, 1, .inr (.inl f)))] H) : va_P D vwCl (W3 T ad bd o σ u f) H := va_P.app h1 (va_P.app h2 h3)
theorem wO_key {E0 : va_E} {i : Nat} {p : Nat × va_E} (hp : ([(o, E0)] : va_W)[i]? = some p) : p.1 = o := by
  have hz : i < 1 := (List.getElem?_eq_some_iff.mp hp).1
  rw [show i = 0 by omega] at hp
  cases hp
  rfl
theorem keepC (hs : Sep3 ad bd o) (h : va_P D vwCl (W3 T ad bd o σ u f) H) {σ2 : St} (h1 : va_P D vwCl (wC T ad σ2) H1) (hk : ∀ q : Nat, q < H.size → ¬ wA 40 ad q → H1[q]? = H[q]?) : va_P D vwCl (W3 T ad bd o σ2 u f) H1 := by
  refine W3_mk h1 ((W3_M h).kept fun k q hq => ?_) ((W3_O h).kept fun k q hq => ?_)
  · obtain ⟨a1, a2⟩ := wM_key hq
    exact hk q.1 ((W3_M h) k q hq).lt (fun ⟨j, b1, b2⟩ => hs.2.2.1 j k b1 a1 (b2.symm.trans a2))
  · have a2 := wO_key hq
    exact hk q.1 ((W3_O h) k q hq).lt (fun ⟨j, b1, b2⟩ => hs.2.2.2.1 j b1 (b2.symm.trans a2))
theorem keepM (hs : Sep3 ad bd o) (h : va_P D vwCl (W3 T ad bd o σ u f) H) {u2 : SM} (h1 : va_P D vwCl (wM T bd u2) H1) (hk : ∀ q : Nat, q < H.size → ¬ wA 27 bd q → H1[q]? = H[q]?) : va_P D vwCl (W3 T ad bd o σ u2 f) H1 := by
  refine W3_mk ((W3_C h).kept fun k q hq => ?_) h1 ((W3_O h).kept fun k q hq => ?_)
  · obtain ⟨a1, a2⟩ := wC_key hq
    exact hk q.1 ((W3_C h) k q hq).lt (fun ⟨j, b1, b2⟩ => hs.2.2.1 k j a1 b1 (a2.symm.trans b2))
  · have a2 := wO_key hq
    exact hk q.1 ((W3_O h) k q hq).lt (fun ⟨j, b1, b2⟩ => hs.2.2.2.2 j b1 (b2.symm.trans a2))
theorem W3_addr (hs : Sep3 ad bd o) (σ : St) (u : SM) (f : Nat → Int64) : va_D (A3 ad bd o) (W3 T ad bd o σ u f) := by
  refine va_D.app ((wC_D hs.1 T σ).weaken (fun _ _ _ h => Or.inl h)) (va_D.app ((wM_D hs.2.1 T u).weaken (fun _ _ _ h => Or.inr (Or.inl h))) ?_ ?_) ?_
  · refine ⟨fun i j p q hp hq _ => ?_, fun k q hq => Or.inr (Or.inr (wO_key hq))⟩
    have hz1 : i < 1 := (List.getElem?_eq_some_iff.mp hp).1
    have hz2 : j < 1 := (List.getElem?_eq_some_iff.mp hq).1
    omega
  · intro i j x y hx hy hxy
    obtain ⟨a1, a2⟩ := wM_key hx
    have b2 := wO_key hy
    exact hs.2.2.2.2 i a1 (by rw [← a2, hxy, b2])
  · intro i j x y hx hy hxy
    obtain ⟨a1, a2⟩ := wC_key hx
    by_cases hj : j < (wM T bd u).length
    · rw [List.getElem?_append_left hj] at hy
      obtain ⟨b1, b2⟩ := wM_key hy
      exact hs.2.2.1 i j a1 b1 (by rw [← a2, hxy, b2])
    · rw [List.getElem?_append_right (Nat.not_lt.mp hj)] at hy
      have b2 := wO_key hy
      exact hs.2.2.2.1 i a1 (by rw [← a2, hxy, b2])
end W3S
section LAWR
variable {X : XT} {K : KT} {cc : ByteArray} {own : String} {nL fr lo : Nat} {pc : Nat} {lv : List (Nat × Value)} {st : List Value}
variable {ad bd : Nat → Nat} {o : Nat} {σ : St} {u : SM} {f : Nat → Int64}
variable {y : MethodName} {bytes : ByteArray} {maxL n index : Nat} {ret : Option FieldType} {rm : Room} {As rest : List Value}
theorem at_LC {post : Int32 → St → Prop} (C : Cx X K cc own nL fr lo) (hs3 : Sep3 ad bd o) (hA3 : ∀ q, A3 ad bd o q → K.2.2.1 q) (hM : Ki (KC K.1 K.2.1 ad K.2.2.2) (wC K.2.2.2 ad) y bytes maxL ret rm (.ref (ad 0) :: As) (wC K.2.2.2 ad σ) post) (ok : okM y bytes maxL ret n) (hlk : Cond.methodLink own index y ∈ gW) (hi : Cond.instanceMethod y ∈ gW) (hs : Cond.selects RX8 y y ∈ gW) (hrm : rmOk rm maxL fr lo) (hn : As.length = n) (hst : st = As.reverse ++ .ref (ad 0) :: rest) (hW : (rest.map fun v => v.category).sum ≤ 8) (d : decode cc pc = .ok (.invokevirtual index, 3)) (kk : ∀ (r : Int32) (v : St), post r v → At X nL (W3 K.2.2.2 ad bd o v u f) (pc + 3) lv (.int r :: rest)) : At X nL (W3 K.2.2.2 ad bd o σ u f) pc lv st := by
  obtain ⟨p, l, e, R, s, m, args, below, meth, c, Q, D, A, cs, ss⟩ := X
  obtain ⟨hx, hb, hml, hown, hts, hK, hN, hRf, hRl, hcs, hss, hl0, hD0, hA0⟩ := C
  intro H locs ls hl hP hS
  subst hRf; subst hRl; subst hl0; subst hD0; subst hA0; subst hst
  obtain ⟨o1, o2, o3⟩ := ok
  obtain ⟨m1, m2, m3, m4⟩ := hrm
  have hP0 := W3_C hP
  exact va_calli (va_runV (As := As) (rest := rest) ⟨hx, hb, hml, hown, hts⟩ hM ⟨callB_of n hts (gW_ws o1) rfl m1 m2 (hts _ o2) (hts _ hlk) o3 ⟨m3, m4⟩, hts _ hi, hts _ hs⟩ ⟨PcK_blind _ _ _ nW_tab, va_recv hK hP0 (ci := 8) (q0 := 0) rfl (wC_g0 K.2.2.2 ad σ), PcK_pre (K := KC K.1 K.2.1 ad K.2.2.2) hK hN hP0⟩ rfl hn hl.1 rfl (lv_room hW) d ⟨hcs, hss⟩) hS (fun q _ h => hA3 q (Or.inl h)) (fun q h => hA3 q (Or.inl h)) (fun r v t H1 locs1 ht _ hw1 hB _ hk1 hS1 => kk r v hw1 H1 locs1 ls hl (keepC hs3 hP (by rw [← ht]; exact hB) hk1) hS1)
theorem at_LM {post : Int32 → SM → Prop} (C : Cx X K cc own nL fr lo) (hs3 : Sep3 ad bd o) (hA3 : ∀ q, A3 ad bd o q → K.2.2.1 q) (hM : Ki (KM K.1 K.2.1 bd K.2.2.2) (wM K.2.2.2 bd) y bytes maxL ret rm (.ref (bd 0) :: As) (wM K.2.2.2 bd u) post) (ok : okM y bytes maxL ret n) (hlk : Cond.methodLink own index y ∈ gW) (hi : Cond.instanceMethod y ∈ gW) (hs : Cond.selects RX9 y y ∈ gW) (hrm : rmOk rm maxL fr lo) (hn : As.length = n) (hst : st = As.reverse ++ .ref (bd 0) :: rest) (hW : (rest.map fun v => v.category).sum ≤ 8) (d : decode cc pc = .ok (.invokevirtual index, 3)) (kk : ∀ (r : Int32) (v : SM), post r v → At X nL (W3 K.2.2.2 ad bd o σ v f) (pc + 3) lv (.int r :: rest)) : At X nL (W3 K.2.2.2 ad bd o σ u f) pc lv st := by
  obtain ⟨p, l, e, R, s, m, args, below, meth, c, Q, D, A, cs, ss⟩ := X
  obtain ⟨hx, hb, hml, hown, hts, hK, hN, hRf, hRl, hcs, hss, hl0, hD0, hA0⟩ := C
  intro H locs ls hl hP hS
  subst hRf; subst hRl; subst hl0; subst hD0; subst hA0; subst hst
  obtain ⟨o1, o2, o3⟩ := ok
  obtain ⟨m1, m2, m3, m4⟩ := hrm
  have hP0 := W3_M hP
  exact va_calli (va_runV (As := As) (rest := rest) ⟨hx, hb, hml, hown, hts⟩ hM ⟨callB_of n hts (gW_ws o1) rfl m1 m2 (hts _ o2) (hts _ hlk) o3 ⟨m3, m4⟩, hts _ hi, hts _ hs⟩ ⟨PcK_blind _ _ _ nW_tab, va_recv hK hP0 (ci := 9) (q0 := 0) rfl (wM_g0 K.2.2.2 bd u), PcK_pre (K := KM K.1 K.2.1 bd K.2.2.2) hK hN hP0⟩ rfl hn hl.1 rfl (lv_room hW) d ⟨hcs, hss⟩) hS (fun q _ h => hA3 q (Or.inr (Or.inl h))) (fun q h => hA3 q (Or.inr (Or.inl h))) (fun r v t H1 locs1 ht _ hw1 hB _ hk1 hS1 => kk r v hw1 H1 locs1 ls hl (keepM hs3 hP (by rw [← ht]; exact hB) hk1) hS1)
/-- X with other counts of what was made -/
def xcs (X : XT) (a b : Nat) : XT := match X with
  | (p, l, e, R, s, m, args, below, meth, c, Q, D, A, _, _) => (p, l, e, R, s, m, args, below, meth, c, Q, D, A, a, b)
def ZX (X : XT) : Prop := match X with
  | (_, _, _, _, s, _, _, _, _, _, _, _, A, _, _) => Zst A s ∧ ∀ w ∈ cW, va_Nw w s
def RX (X : XT) (a b : Nat) : Prop := match X with
  | (_, _, _, R, _, _, _, _, _, _, _, _, _, _, _) => a ≤ R.cells ∧ b ≤ R.slots
def EX (X : XT) (x : ExceptionTableEntry) : Prop := match X with
  | (_, _, _, _, _, _, _, _, _, c, _, _, _, _, _) => c.exceptionTable.toList = [x]
theorem PcX_blind (K : KT) (av : List Value) (w0 : va_W) : FrameBlind (PcX K av w0) := fun a U g mk q => by
  obtain ⟨q0, q1, q2, q3, ⟨q4, q5⟩, q6⟩ := q
  exact ⟨q0, q1, va_K.moved (u := U) (U := U.calling g mk a) (Vm.Alike.refl U.vm) q2, fun w hw => va_Nw.same (u := U) (U := U.calling g mk a) (nW_tab w hw) rfl (q3 w hw), ⟨vx_Zq.moved (u := U) (U := U.calling g mk a) (Vm.Alike.refl U.vm) q4, vx_Zq.moved (u := U) (U := U.calling g mk a) (Vm.Alike.refl U.vm) q5⟩, fun w hw => va_Nw.same (u := U) (U := U.calling g mk a) (cW_tab w hw) rfl (q6 w hw)⟩
theorem PcX_pre {K K0 : KT} {av : List Value} {w0 : va_W} {s : State} {H : Heap} {locs : List Loc} (hK : va_K K.2.1 vwCl (tyL K.2.2.2) s) (hN : ∀ w ∈ nW, va_Nw w s) (hP : va_P K.2.1 vwCl w0 H) (hZ : Zst K0.2.2.1 s) (hc : ∀ w ∈ cW, va_Nw w s) (hS : va_S K0.2.2.1 s.heap H locs) (hsub : ∀ q, K.2.2.1 q → K0.2.2.1 q) : ∀ U : State, U.heap = H → s.WarmedH U.vm → PcX K av w0 av.toArray U := by
  intro U hU hW
  refine ⟨rfl, by rw [hU]; exact hP, va_K.moved hW.alike hK, fun w hw => nW_warm hW w hw (hN w hw), ⟨?_, ?_⟩, cW_moved hW hc⟩
  · have h1 := vx_Zq.moved hW.alike (vx_Zq.kept hZ.1 (fun a h1 h2 => hS.2.1 a h1 h2))
    rw [← hU] at h1
    exact vx_Zq.narrow h1 hsub
  · have h1 := vx_Zq.moved hW.alike (vx_Zq.kept hZ.2 (fun a h1 h2 => hS.2.1 a h1 h2))
    rw [← hU] at h1
    exact vx_Zq.narrow h1 hsub
theorem at_LX {post : Int32 → St → Prop} {px : St → Prop} {x : ExceptionTableEntry} {hpc : Nat} {name : String} (C : Cx (xcs X 0 0) K cc own nL fr lo) (hZ : ZX X) (hR : RX X 1 6) (hE : EX X x) (hs3 : Sep3 ad bd o) (hA3 : ∀ q, A3 ad bd o q → K.2.2.1 q) (hM : KX (KC K.1 K.2.1 ad K.2.2.2) (wC K.2.2.2 ad) y bytes maxL ret rm (.ref (ad 0) :: As) (wC K.2.2.2 ad σ) post px) (ok : okM y bytes maxL ret n) (hlk : Cond.methodLink own index y ∈ gW) (hi : Cond.instanceMethod y ∈ gW) (hs : Cond.selects RX8 y y ∈ gW) (hrm : rm.cells = 1 ∧ rm.slots = 6 ∧ rm.frames + 1 ≤ fr ∧ 8 + (maxL + 11) + rm.locals ≤ lo) (hn : As.length = n) (hst : st = As.reverse ++ .ref (ad 0) :: rest) (hW : (rest.map fun v => v.category).sum ≤ 8) (d : decode cc pc = .ok (.invokevirtual index, 3))
    (hcov : covers x pc = true) (h0 : x.catchType ≠ 0) (hcl : Cond.classLink own x.catchType name ∈ gW) (hct : Cond.castable NSE name ∈ cW) (hh : x.handlerPc = hpc)
    (kk : ∀ (r : Int32) (v : St), post r v → At (xcs X 1 6) nL (W3 K.2.2.2 ad bd o v u f) (pc + 3) lv (.int r :: rest)) (kx : ∀ (q : Nat) (v : St), px v → At (xcs X 1 6) nL (W3 K.2.2.2 ad bd o v u f) hpc lv [.ref q]) : At (xcs X 0 0) nL (W3 K.2.2.2 ad bd o σ u f) pc lv st := by
  obtain ⟨p, l, e, R, s, m, args, below, meth, c, Q, D, A, cs, ss⟩ := X
  obtain ⟨hx, hb, hml, hown, hts, hK, hN, hRf, hRl, hcs, hss, hl0, hD0, hA0⟩ := C
  obtain ⟨hZ1, hZ2⟩ := hZ
  intro H locs ls hl hP hS
  subst hRf; subst hRl; subst hl0; subst hD0; subst hA0; subst hst; subst hh
  obtain ⟨o1, o2, o3⟩ := ok
  obtain ⟨m1, m2, m3, m4⟩ := hrm
  have hP0 := W3_C hP
  refine vx_calli (vx_runV (As := As) (rest := rest) ⟨hx, hb, hml, hown, hts⟩ hM ⟨callB_of n hts (gW_ws o1) rfl m1 m2 (hts _ o2) (hts _ hlk) o3 ⟨m3, m4⟩, hts _ hi, hts _ hs⟩ ⟨PcX_blind _ _ _, va_recv hK hP0 (ci := 8) (q0 := 0) rfl (wC_g0 K.2.2.2 ad σ), PcX_pre (K := KC K.1 K.2.1 ad K.2.2.2) (K0 := K) hK hN hP0 hZ1 hZ2 hS (fun q h => hA3 q (Or.inl h))⟩ rfl hn hl.1 rfl (lv_room hW) d hR) hS (fun q _ h => hA3 q (Or.inl h)) (fun q h => hA3 q (Or.inl h)) (fun q _ h => hA3 q (Or.inl h)) ?_ ?_
  · intro E ce q9 v t H1 locs1 ht _ hpx hB _ hk1 hS1 hce hcv hcl9
    obtain ⟨rfl, hB⟩ := hB
    exact lc_catch hown x hE hcov h0 (hts _ hcl) (cW_use hZ2 _ hct) hce hcv hcl9 (kx q9 v hpx H1 locs1 ls hl (keepC hs3 hP (by rw [← ht]; exact hB) hk1) hS1)
  · intro r v t H1 locs1 ht _ hw1 hB _ hk1 hS1
    exact kk r v hw1 H1 locs1 ls hl (keepC hs3 hP (by rw [← ht]; exact hB) hk1) hS1
end LAWR
