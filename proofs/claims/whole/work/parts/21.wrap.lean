section ATA
variable {X : XT} {K : KT} {cc : ByteArray} {own : String} {nL fr lo : Nat} {w : va_W} {pc : Nat} {lv lv' : List (Nat × Value)} {st : List Value}
theorem at_astore {j : Nat} {x : Nat} (C : Cx X K cc own nL fr lo) (d : decode cc pc = .ok (.astore j, 2)) (hn : j < nL) (ks : List Nat) (hs : lv_pick ((j, Value.ref x) :: lv.filter (fun q => !(q.1 == j) && !(q.1 + 1 == j && q.2.category == 2))) ks = lv') (k : At X nL w (pc + 2) lv' st) : At X nL w pc lv (.ref x :: st) := by
  obtain ⟨p, l, e, R, s, m, args, below, meth, c, Q, D, A, cs, ss⟩ := X
  obtain ⟨hx, hb, hml, hown, hts, hK, hN, hRf, hRl, hcs, hss, hl0, hD0, hA0⟩ := C
  intro H locs ls hl hP hS
  exact lv_astore hx hb d hl hn rfl (fun ls hl => k H locs ls (lv_sub hl ks hs) hP hS)
theorem at_astore_n {j : Fin 4} {x : Nat} (C : Cx X K cc own nL fr lo) (d : decode cc pc = .ok (.astore_n j, 1)) (hn : (j : Nat) < nL) (ks : List Nat) (hs : lv_pick (((j : Nat), Value.ref x) :: lv.filter (fun q => !(q.1 == (j : Nat)) && !(q.1 + 1 == (j : Nat) && q.2.category == 2))) ks = lv') (k : At X nL w (pc + 1) lv' st) : At X nL w pc lv (.ref x :: st) := by
  obtain ⟨p, l, e, R, s, m, args, below, meth, c, Q, D, A, cs, ss⟩ := X
  obtain ⟨hx, hb, hml, hown, hts, hK, hN, hRf, hRl, hcs, hss, hl0, hD0, hA0⟩ := C
  intro H locs ls hl hP hS
  exact lv_astore_n hx hb d rfl hl hn rfl (fun ls hl => k H locs ls (lv_sub hl ks hs) hP hS)
/-- the law's script -/
def SX (X : XT) (b L : Nat) (xf : Nat → Int32) : Prop := match X with
  | (_, _, _, _, s, _, _, _, _, _, _, _, A, _, _) => va_X b L xf s s.heap ∧ b < s.heap.size ∧ ¬ A b
theorem SX_xcs {b L : Nat} {xf : Nat → Int32} (h : SX X b L xf) (i j : Nat) : SX (xcs X i j) b L xf := by
  obtain ⟨p, l, e, R, s, m, args, below, meth, c, Q, D, A, cs, ss⟩ := X
  exact h
theorem at_sld {b L : Nat} {xf : Nat → Int32} {i : Int32} (C : Cx X K cc own nL fr lo) (hX : SX X b L xf) (hi : vp_in i L) (d : decode cc pc = .ok (.iaload, 1)) (k : At X nL w (pc + 1) lv (.int (xf i.toNatClampNeg) :: st)) : At X nL w pc lv (.int i :: .ref b :: st) := by
  obtain ⟨p, l, e, R, s, m, args, below, meth, c, Q, D, A, cs, ss⟩ := X
  obtain ⟨hx, hb, hml, hown, hts, hK, hN, hRf, hRl, hcs, hss, hl0, hD0, hA0⟩ := C
  intro H locs ls hl hP hS
  exact va_sld hx hb hX.1 hX.2.1 hX.2.2 hS hi d (k H locs ls hl hP hS)
theorem at_slen {b L : Nat} {xf : Nat → Int32} (C : Cx X K cc own nL fr lo) (hX : SX X b L xf) (d : decode cc pc = .ok (.arraylength, 1)) (k : At X nL w (pc + 1) lv (.int (Int32.ofNat L) :: st)) : At X nL w pc lv (.ref b :: st) := by
  obtain ⟨p, l, e, R, s, m, args, below, meth, c, Q, D, A, cs, ss⟩ := X
  obtain ⟨hx, hb, hml, hown, hts, hK, hN, hRf, hRl, hcs, hss, hl0, hD0, hA0⟩ := C
  intro H locs ls hl hP hS
  exact va_slen hx hb hX.1 hX.2.1 hX.2.2 hS d (k H locs ls hl hP hS)
end ATA
theorem W3_g67 (T : TT) (ad bd : Nat → Nat) (o : Nat) (σ : St) (u : SM) (f : Nat → Int64) : (W3 T ad bd o σ u f)[67]? = some (o, .inl (T.2.2, 1, .inr (.inl f))) := rfl
theorem W3_s67 (T : TT) (ad bd : Nat → Nat) (o : Nat) (σ : St) (u : SM) (f g : Nat → Int64) : (W3 T ad bd o σ u f).set 67 (o, .inl (T.2.2, 1, .inr (.inl g))) = W3 T ad bd o σ u g := rfl
theorem W3_DX {X : XT} {K : KT} {cc : ByteArray} {own : String} {nL fr lo : Nat} {ad bd : Nat → Nat} {o : Nat} (C : Cx X K cc own nL fr lo) (hs : Sep3 ad bd o) (hA3 : ∀ q, A3 ad bd o q → K.2.2.1 q) (T : TT) (σ : St) (u : SM) (f : Nat → Int64) : DX X (W3 T ad bd o σ u f) := by
  obtain ⟨p, l, e, R, s, m, args, below, meth, c, Q, D, A, cs, ss⟩ := X
  obtain ⟨hx, hb, hml, hown, hts, hK, hN, hRf, hRl, hcs, hss, hl0, hD0, hA0⟩ := C
  subst hA0
  exact (W3_addr hs σ u f).weaken (fun _ _ _ h => hA3 _ h)
/-- the law's own static methods: each may make an exception -/
def KB {S : Type} (K : KT) (wf : S → va_W) (y : MethodName) (bytes : ByteArray) (maxL : Nat) (ret : Option FieldType) (hh : List (Nat × Nat × Nat × Nat)) (rm : Room) (av : List Value) (w0 : va_W) (post : Int32 → S → Prop) : Prop := Met K.1 y (.codeWith y bytes maxL ret hh :: gW) rm (PcX K av w0) (va_Qi post (BK K wf) K.2.2.1) 1 6 K.2.2.1
theorem gW_wsH {y : MethodName} {bytes : ByteArray} {maxL : Nat} {ret : Option FieldType} {hh : List (Nat × Nat × Nat × Nat)} (h : Cond.codeWith y bytes maxL ret hh ∈ gW) : GoodIn gW (Cond.codeWith y bytes maxL ret hh :: gW) := fun w hw => (List.mem_cons.mp hw).elim (fun e => e ▸ ⟨h, gW_good h⟩) (fun q => ⟨q, gW_good q⟩)
theorem st_MB {S : Type} {K : KT} {wf : S → va_W} {y : MethodName} {cc : ByteArray} {nL fr lo : Nat} {rm : Room} {av : List Value} {w0 : va_W} {lv0 : List (Nat × Value)} {post : Int32 → S → Prop} {own : String} {h1 h2 h3 h4 : Nat} (hy : plainName y.cls = true) (hro : rm.frames = fr ∧ rm.locals = lo ∧ rm.cells = 1 ∧ rm.slots = 6) (ho : y.cls = own) (hn : (lg_sl av).length ≤ nL) (hlv : lv_args 0 av = lv0)
    (body : ∀ X : XT, Cx (xcs X 0 0) K cc own nL fr lo → Cx (xcs X 1 6) K cc own nL fr lo → ZX X → RX X 1 6 → EX X ⟨h1, h2, h3, h4⟩ → RetI (xcs X 1 6) cc nL wf post → At (xcs X 0 0) nL w0 0 lv0 []) : KB K wf y cc nL (some .int) [(h1, h2, h3, h4)] rm av w0 post := by
  refine lc_ofWH (cc := cc) (maxL := nL) (ret := (some .int)) (hh := [(h1, h2, h3, h4)]) hy rfl ?_
  intro p e s m args below meth c s₁ B hml hv
  obtain ⟨rfl, hP, hK, hN, hZ, hcW⟩ := hv
  have hx := B.exec
  have hb := B.bytes
  have hr := B.returns
  have hts0 := atoms_spec (ws := Cond.codeWith y cc nL (some .int) [(h1, h2, h3, h4)] :: gW) B.pre
  have hts : ∀ w ∈ gW, w.before av.toArray s = true := fun w hw => hts0 w (List.mem_cons_of_mem _ hw)
  have hown : s.vm.findClass own = some m.cls := by rw [← ho]; exact findClass_of_methodNamed B.named
  have hlocks := B.notSynchronized
  have htab : c.exceptionTable.toList = [⟨h1, h2, h3, h4⟩] := vx_table (x := y) B (hts0 _ List.mem_cons_self)
  have hl := lv_entry av (n := nL) hn
  rw [lg_entry_eq]
  rw [hlv] at hl
  refine body (p, K.1, e, rm, s, m, av.toArray, below, meth, c, MQ below (va_Qi post (BK K wf) K.2.2.1) av.toArray s 1 6 K.2.2.1, K.2.1, K.2.2.1, 0, 0) ⟨hx, hb, hml, hown, hts, hK, hN, hro.1, hro.2.1, Nat.zero_le _, Nat.zero_le _, rfl, rfl, rfl⟩ ⟨hx, hb, hml, hown, hts, hK, hN, hro.1, hro.2.1, Nat.le_of_eq hro.2.2.1.symm, Nat.le_of_eq hro.2.2.2.symm, rfl, rfl, rfl⟩ ⟨hZ, hcW⟩ ⟨Nat.le_of_eq hro.2.2.1.symm, Nat.le_of_eq hro.2.2.2.symm⟩ htab ?_ s.heap [] _ hl hP va_S.rf
  intro pc lv r u d hq H locs ls hl hP hS
  exact W.iret hx hb hr (fun t ht hW => ⟨⟨r, u, rfl, hq, by show va_P _ _ _ _; rw [ht]; exact hP⟩, hS.F ht⟩) hS.2.2 d hlocks
theorem mc_X8_birds : Cond.code yX8_birds cX8_birds 4 (some .int) ∈ gW := gW_in 631 (by decide +kernel) (by decide +kernel)
theorem ok_X8_birds : okM yX8_birds cX8_birds 4 (some .int) 3 := ⟨mc_X8_birds, mz_RX8, by decide +kernel⟩
theorem mi_X8_birds : Cond.instanceMethod yX8_birds ∈ gW := gW_in 629 (by decide +kernel) (by decide +kernel)
theorem ml_X8_birds : Cond.selects RX8 yX8_birds yX8_birds ∈ gW := gW_in 630 (by decide +kernel) (by decide +kernel)
theorem m_L_7 : Cond.methodLink RL 7 yX8_birds ∈ gW := gW_in 628 (by decide +kernel) (by decide +kernel)
theorem mc_X8_look : Cond.code yX8_look cX8_look 3 (some .int) ∈ gW := gW_in 732 (by decide +kernel) (by decide +kernel)
theorem ok_X8_look : okM yX8_look cX8_look 3 (some .int) 2 := ⟨mc_X8_look, mz_RX8, by decide +kernel⟩
theorem mi_X8_look : Cond.instanceMethod yX8_look ∈ gW := gW_in 730 (by decide +kernel) (by decide +kernel)
theorem ml_X8_look : Cond.selects RX8 yX8_look yX8_look ∈ gW := gW_in 731 (by decide +kernel) (by decide +kernel)
theorem m_L_15 : Cond.methodLink RL 15 yX8_look ∈ gW := gW_in 729 (by decide +kernel) (by decide +kernel)
theorem mk_L_13 : Cond.classLink RL 13 NSE ∈ gW := gW_in 627 (by decide +kernel) (by decide +kernel)
theorem mcast : Cond.castable NSE NSE ∈ cW := List.mem_filter.mpr ⟨List.mem_of_getElem? (i := 634) (by decide +kernel), by decide +kernel⟩
set_option maxRecDepth 100000 in
set_option maxHeartbeats 4000000 in
theorem kL_birds (l : Launch) (D : va_G) (ad bd : Nat → Nat) (o : Nat) (T : TT) (hst : l.stackTraces = false) (hs3 : Sep3 ad bd o) (x1 : Int32) (x2 : Int32) (x3 : Int32) (σ : St) (u : SM) (f : Nat → Int64) (Q : Int32 → St × (Nat → Int64) → Prop) (h : pX8_birds x1 x2 x3 σ (fun r v => Q 0 (v, vp_updL f (Int32.toNatClampNeg 0) r.toInt64)) (fun v => Q 1 (v, f))) : KB (l, D, A3 ad bd o, T) (fun v : St × (Nat → Int64) => W3 T ad bd o v.1 u v.2) yL_birds cL_birds 6 (some .int) [(0, 12, 15, 13)] { frames := 21, cells := 1, slots := 6, locals := 503 } [.ref (ad 0), .int x1, .int x2, .int x3, .ref o] (W3 T ad bd o σ u f) Q := by
  refine st_MB (fr := 21) (lo := 503) (own := RL) (by decide) ⟨rfl, rfl, rfl, rfl⟩ rfl (Nat.le_of_ble_eq_true rfl) rfl (fun X C C1 hZ hR hE ret => ?_)
  refine at_aload C dL_birds_0 4 rfl ?_
  refine at_iconst (v := 0) C dL_birds_2 (by decide) ?_
  refine at_aload_n C dL_birds_3 0 rfl ?_
  refine at_iload_n C dL_birds_4 1 rfl ?_
  refine at_iload_n C dL_birds_5 2 rfl ?_
  refine at_iload_n C dL_birds_6 3 rfl ?_
  refine at_LX (K := (l, D, A3 ad bd o, T)) (name := NSE) (hpc := 15) C hZ hR hE hs3 (fun q h => h) (kX8_birds l D ad T hs3.1 hst x1 x2 x3 σ _ _ h) ok_X8_birds m_L_7 mi_X8_birds ml_X8_birds ⟨rfl, rfl, Nat.le_of_ble_eq_true rfl, Nat.le_of_ble_eq_true rfl⟩ rfl rfl (Nat.le_of_ble_eq_true rfl) dL_birds_7 (by decide) (by decide) mk_L_13 mcast rfl (fun r v h => ?_) (fun q v h => ?_)
  · refine at_i2l C1 dL_birds_10 ?_
    refine at_last C1 (W3_DX C1 hs3 (fun q h => h) T v u f) 67 (W3_g67 T ad bd o v u f) (vp_in_iff.mpr (by decide)) (W3_s67 T ad bd o v u f _) dL_birds_11 ?_
    refine at_goto (tgt := 19) C1 dL_birds_12 (by decide) ?_
    refine at_iconst (v := 0) C1 dL_birds_19 (by decide) ?_
    exact ret _ _ 0 (v, vp_updL f (Int32.toNatClampNeg 0) r.toInt64) dL_birds_20 h
  · refine at_astore (lv' := [(0, .ref (ad 0)), (1, .int x1), (2, .int x2), (3, .int x3), (4, .ref o), (5, .ref q)]) C1 dL_birds_15 (by decide) [1, 2, 3, 4, 5, 0] rfl ?_
    refine at_iconst (v := 1) C1 dL_birds_17 (by decide) ?_
    exact ret _ _ 1 (v, f) dL_birds_18 h
set_option maxRecDepth 100000 in
set_option maxHeartbeats 4000000 in
theorem kL_look (l : Launch) (D : va_G) (ad bd : Nat → Nat) (o : Nat) (T : TT) (hst : l.stackTraces = false) (hs3 : Sep3 ad bd o) (x1 : Int32) (x2 : Int32) (σ : St) (u : SM) (f : Nat → Int64) (Q : Int32 → St × (Nat → Int64) → Prop) (h : pX8_look x1 x2 σ (fun r v => Q 0 (v, vp_updL f (Int32.toNatClampNeg 0) r.toInt64)) (fun v => Q 1 (v, f))) : KB (l, D, A3 ad bd o, T) (fun v : St × (Nat → Int64) => W3 T ad bd o v.1 u v.2) yL_look cL_look 5 (some .int) [(0, 10, 13, 13)] { frames := 7, cells := 1, slots := 6, locals := 122 } [.ref (ad 0), .int x1, .int x2, .ref o] (W3 T ad bd o σ u f) Q := by
  refine st_MB (fr := 7) (lo := 122) (own := RL) (by decide) ⟨rfl, rfl, rfl, rfl⟩ rfl (Nat.le_of_ble_eq_true rfl) rfl (fun X C C1 hZ hR hE ret => ?_)
  refine at_aload_n C dL_look_0 3 rfl ?_
  refine at_iconst (v := 0) C dL_look_1 (by decide) ?_
  refine at_aload_n C dL_look_2 0 rfl ?_
  refine at_iload_n C dL_look_3 1 rfl ?_
  refine at_iload_n C dL_look_4 2 rfl ?_
  refine at_LX (K := (l, D, A3 ad bd o, T)) (name := NSE) (hpc := 13) C hZ hR hE hs3 (fun q h => h) (kX8_look l D ad T hs3.1 hst x1 x2 σ _ _ h) ok_X8_look m_L_15 mi_X8_look ml_X8_look ⟨rfl, rfl, Nat.le_of_ble_eq_true rfl, Nat.le_of_ble_eq_true rfl⟩ rfl rfl (Nat.le_of_ble_eq_true rfl) dL_look_5 (by decide) (by decide) mk_L_13 mcast rfl (fun r v h => ?_) (fun q v h => ?_)
  · refine at_i2l C1 dL_look_8 ?_
    refine at_last C1 (W3_DX C1 hs3 (fun q h => h) T v u f) 67 (W3_g67 T ad bd o v u f) (vp_in_iff.mpr (by decide)) (W3_s67 T ad bd o v u f _) dL_look_9 ?_
    refine at_goto (tgt := 17) C1 dL_look_10 (by decide) ?_
    refine at_iconst (v := 0) C1 dL_look_17 (by decide) ?_
    exact ret _ _ 0 (v, vp_updL f (Int32.toNatClampNeg 0) r.toInt64) dL_look_18 h
  · refine at_astore (lv' := [(0, .ref (ad 0)), (1, .int x1), (2, .int x2), (3, .ref o), (4, .ref q)]) C1 dL_look_13 (by decide) [1, 2, 3, 4, 0] rfl ?_
    refine at_iconst (v := 1) C1 dL_look_15 (by decide) ?_
    exact ret _ _ 1 (v, f) dL_look_16 h
