/-! THE WALK'S OWN JUDGEMENT: 'At X nL w pc lv st': from the frame at pc with the locals lv and the stack st, over a heap that holds the world w, the machine comes to X's end. X: all that stays the same in a walk. -/
abbrev XT : Type := Program × Launch × Env × Room × State × MethodId × Array Value × List Frame × Method × Code × (State → Prop) × va_G × (Nat → Prop) × Nat × Nat
def At (X : XT) (nL : Nat) (w : va_W) (pc : Nat) (lv : List (Nat × Value)) (st : List Value) : Prop := match X with
  | (p, l, e, R, s, m, args, below, meth, c, Q, D, A, cs, ss) => ∀ (H : Heap) (locs : List Loc) (ls : Array Slot), lv_has ls nL lv → va_P D vwCl w H → va_S A s.heap H locs → W p l e R s m args below meth c H locs cs ss Q (F0 m pc ls st)
def isNest (w : Cond) : Bool := match w with
  | .fieldLinkNest _ _ _ _ _ _ => true
  | .methodLinkNest _ _ _ _ => true
  | _ => false
def gW : List Cond := lw_tbl.filter goodWord
def nW : List Cond := lw_tbl.filter isNest
theorem gW_in {w : Cond} (i : Nat) (h : lw_tbl[i]? = some w) (hg : goodWord w = true) : w ∈ gW := List.mem_filter.mpr ⟨List.mem_of_getElem? h, hg⟩
theorem nW_in {w : Cond} (i : Nat) (h : lw_tbl[i]? = some w) (hg : isNest w = true) : w ∈ nW := List.mem_filter.mpr ⟨List.mem_of_getElem? h, hg⟩
theorem gW_good {w : Cond} (h : w ∈ gW) : (w.onTables && w.keeps) = true ∨ ∃ ty, w = .arrayClass ty := good_of_word (List.mem_filter.mp h).2
abbrev TT : Type := ClassId × ClassId × ClassId
abbrev tyL (T : TT) : List (ClassId × FieldType) := [(T.1, .int), (T.2.1, .boolean), (T.2.2, .long)]
abbrev KT : Type := Launch × va_G × (Nat → Prop) × TT
def Cx (X : XT) (K : KT) (cc : ByteArray) (own : String) (nL fr lo : Nat) : Prop := match X with
  | (p, l, _, R, s, m, args, _, _, c, _, D, A, cs, ss) => p.tables.exec = Jvm.exec ∧ c.code = cc ∧ c.maxLocals = nL ∧ s.vm.findClass own = some m.cls ∧ (∀ w ∈ gW, w.before args s = true) ∧ va_K D vwCl (tyL K.2.2.2) s ∧ (∀ w ∈ nW, va_Nw w s) ∧ R.frames = fr ∧ R.locals = lo ∧ cs ≤ R.cells ∧ ss ≤ R.slots ∧ l = K.1 ∧ D = K.2.1 ∧ A = K.2.2.1
def DX (X : XT) (w : va_W) : Prop := match X with
  | (_, _, _, _, _, _, _, _, _, _, _, _, A, _, _) => va_D A w
section ATR
variable {X : XT} {K : KT} {cc : ByteArray} {own : String} {nL fr lo : Nat} {w : va_W} {pc : Nat} {lv lv' : List (Nat × Value)} {st : List Value}
theorem at_iconst {n : Int} {v : Int32} (C : Cx X K cc own nL fr lo) (d : decode cc pc = .ok (.iconst n, 1)) (hv : Int32.ofInt n = v) (k : At X nL w (pc + 1) lv (.int v :: st)) : At X nL w pc lv st := by
  obtain ⟨p, l, e, R, s, m, args, below, meth, c, Q, D, A, cs, ss⟩ := X
  obtain ⟨hx, hb, hml, hown, hts, hK, hN, hRf, hRl, hcs, hss, hl0, hD0, hA0⟩ := C
  intro H locs ls hl hP hS
  exact lv_iconst hx hb d hv (k H locs ls hl hP hS)
theorem at_bipush {n : Int} {v : Int32} (C : Cx X K cc own nL fr lo) (d : decode cc pc = .ok (.bipush n, 2)) (hv : (Int8.ofInt n).toInt32 = v) (k : At X nL w (pc + 2) lv (.int v :: st)) : At X nL w pc lv st := by
  obtain ⟨p, l, e, R, s, m, args, below, meth, c, Q, D, A, cs, ss⟩ := X
  obtain ⟨hx, hb, hml, hown, hts, hK, hN, hRf, hRl, hcs, hss, hl0, hD0, hA0⟩ := C
  intro H locs ls hl hP hS
  exact lv_bipush hx hb d hv (k H locs ls hl hP hS)
theorem at_sipush {n : Int} {v : Int32} (C : Cx X K cc own nL fr lo) (d : decode cc pc = .ok (.sipush n, 3)) (hv : (Int16.ofInt n).toInt32 = v) (k : At X nL w (pc + 3) lv (.int v :: st)) : At X nL w pc lv st := by
  obtain ⟨p, l, e, R, s, m, args, below, meth, c, Q, D, A, cs, ss⟩ := X
  obtain ⟨hx, hb, hml, hown, hts, hK, hN, hRf, hRl, hcs, hss, hl0, hD0, hA0⟩ := C
  intro H locs ls hl hP hS
  exact lv_sipush hx hb d hv (k H locs ls hl hP hS)
theorem at_lconst {n : Fin 2} {v : Int64} (C : Cx X K cc own nL fr lo) (d : decode cc pc = .ok (.lconst n, 1)) (hv : Int64.ofNat (n : Nat) = v) (k : At X nL w (pc + 1) lv (.long v :: st)) : At X nL w pc lv st := by
  obtain ⟨p, l, e, R, s, m, args, below, meth, c, Q, D, A, cs, ss⟩ := X
  obtain ⟨hx, hb, hml, hown, hts, hK, hN, hRf, hRl, hcs, hss, hl0, hD0, hA0⟩ := C
  intro H locs ls hl hP hS
  exact lv_lconst hx hb d hv (k H locs ls hl hP hS)
theorem at_ldcw {index : Nat} {v : Int32} (C : Cx X K cc own nL fr lo) (hc : Cond.constant own index v ∈ gW) (d : decode cc pc = .ok (.ldc_w index, 3)) (k : At X nL w (pc + 3) lv (.int v :: st)) : At X nL w pc lv st := by
  obtain ⟨p, l, e, R, s, m, args, below, meth, c, Q, D, A, cs, ss⟩ := X
  obtain ⟨hx, hb, hml, hown, hts, hK, hN, hRf, hRl, hcs, hss, hl0, hD0, hA0⟩ := C
  intro H locs ls hl hP hS
  exact lv_ldcw hx hb hown (hts _ hc) d (k H locs ls hl hP hS)
theorem at_ldc2 {index : Nat} {v : Int64} (C : Cx X K cc own nL fr lo) (hc : Cond.constantLong own index v ∈ gW) (d : decode cc pc = .ok (.ldc2_w index, 3)) (k : At X nL w (pc + 3) lv (.long v :: st)) : At X nL w pc lv st := by
  obtain ⟨p, l, e, R, s, m, args, below, meth, c, Q, D, A, cs, ss⟩ := X
  obtain ⟨hx, hb, hml, hown, hts, hK, hN, hRf, hRl, hcs, hss, hl0, hD0, hA0⟩ := C
  intro H locs ls hl hP hS
  exact lv_ldc2 hx hb hown (hts _ hc) d (k H locs ls hl hP hS)
theorem at_iload_n {j : Fin 4} {x : Int32} (C : Cx X K cc own nL fr lo) (d : decode cc pc = .ok (.iload_n j, 1)) (i : Nat) (h : lv[i]? = some ((j : Nat), .int x)) (k : At X nL w (pc + 1) lv (.int x :: st)) : At X nL w pc lv st := by
  obtain ⟨p, l, e, R, s, m, args, below, meth, c, Q, D, A, cs, ss⟩ := X
  obtain ⟨hx, hb, hml, hown, hts, hK, hN, hRf, hRl, hcs, hss, hl0, hD0, hA0⟩ := C
  intro H locs ls hl hP hS
  exact lv_iload_n hx hb d rfl (lv_at hl i h) (k H locs ls hl hP hS)
theorem at_iload {j : Nat} {x : Int32} (C : Cx X K cc own nL fr lo) (d : decode cc pc = .ok (.iload j, 2)) (i : Nat) (h : lv[i]? = some (j, .int x)) (k : At X nL w (pc + 2) lv (.int x :: st)) : At X nL w pc lv st := by
  obtain ⟨p, l, e, R, s, m, args, below, meth, c, Q, D, A, cs, ss⟩ := X
  obtain ⟨hx, hb, hml, hown, hts, hK, hN, hRf, hRl, hcs, hss, hl0, hD0, hA0⟩ := C
  intro H locs ls hl hP hS
  exact lv_iload hx hb d (lv_at hl i h) (k H locs ls hl hP hS)
theorem at_lload_n {j : Fin 4} {x : Int64} (C : Cx X K cc own nL fr lo) (d : decode cc pc = .ok (.lload_n j, 1)) (i : Nat) (h : lv[i]? = some ((j : Nat), .long x)) (k : At X nL w (pc + 1) lv (.long x :: st)) : At X nL w pc lv st := by
  obtain ⟨p, l, e, R, s, m, args, below, meth, c, Q, D, A, cs, ss⟩ := X
  obtain ⟨hx, hb, hml, hown, hts, hK, hN, hRf, hRl, hcs, hss, hl0, hD0, hA0⟩ := C
  intro H locs ls hl hP hS
  exact lv_lload_n hx hb d rfl (lv_at hl i h) (k H locs ls hl hP hS)
theorem at_lload {j : Nat} {x : Int64} (C : Cx X K cc own nL fr lo) (d : decode cc pc = .ok (.lload j, 2)) (i : Nat) (h : lv[i]? = some (j, .long x)) (k : At X nL w (pc + 2) lv (.long x :: st)) : At X nL w pc lv st := by
  obtain ⟨p, l, e, R, s, m, args, below, meth, c, Q, D, A, cs, ss⟩ := X
  obtain ⟨hx, hb, hml, hown, hts, hK, hN, hRf, hRl, hcs, hss, hl0, hD0, hA0⟩ := C
  intro H locs ls hl hP hS
  exact lv_lload hx hb d (lv_at hl i h) (k H locs ls hl hP hS)
theorem at_aload_n {j : Fin 4} {x : Nat} (C : Cx X K cc own nL fr lo) (d : decode cc pc = .ok (.aload_n j, 1)) (i : Nat) (h : lv[i]? = some ((j : Nat), .ref x)) (k : At X nL w (pc + 1) lv (.ref x :: st)) : At X nL w pc lv st := by
  obtain ⟨p, l, e, R, s, m, args, below, meth, c, Q, D, A, cs, ss⟩ := X
  obtain ⟨hx, hb, hml, hown, hts, hK, hN, hRf, hRl, hcs, hss, hl0, hD0, hA0⟩ := C
  intro H locs ls hl hP hS
  exact lv_aload_n hx hb d rfl (lv_at hl i h) (k H locs ls hl hP hS)
theorem at_aload {j : Nat} {x : Nat} (C : Cx X K cc own nL fr lo) (d : decode cc pc = .ok (.aload j, 2)) (i : Nat) (h : lv[i]? = some (j, .ref x)) (k : At X nL w (pc + 2) lv (.ref x :: st)) : At X nL w pc lv st := by
  obtain ⟨p, l, e, R, s, m, args, below, meth, c, Q, D, A, cs, ss⟩ := X
  obtain ⟨hx, hb, hml, hown, hts, hK, hN, hRf, hRl, hcs, hss, hl0, hD0, hA0⟩ := C
  intro H locs ls hl hP hS
  exact lv_aload hx hb d (lv_at hl i h) (k H locs ls hl hP hS)
theorem at_istore {j : Nat} {x : Int32} (C : Cx X K cc own nL fr lo) (d : decode cc pc = .ok (.istore j, 2)) (hn : j < nL) (ks : List Nat) (hs : lv_pick ((j, Value.int x) :: lv.filter (fun q => !(q.1 == j) && !(q.1 + 1 == j && q.2.category == 2))) ks = lv') (k : At X nL w (pc + 2) lv' st) : At X nL w pc lv (.int x :: st) := by
  obtain ⟨p, l, e, R, s, m, args, below, meth, c, Q, D, A, cs, ss⟩ := X
  obtain ⟨hx, hb, hml, hown, hts, hK, hN, hRf, hRl, hcs, hss, hl0, hD0, hA0⟩ := C
  intro H locs ls hl hP hS
  exact lv_istore hx hb d hl hn rfl (fun ls hl => k H locs ls (lv_sub hl ks hs) hP hS)
theorem at_istore_n {j : Fin 4} {x : Int32} (C : Cx X K cc own nL fr lo) (d : decode cc pc = .ok (.istore_n j, 1)) (hn : (j : Nat) < nL) (ks : List Nat) (hs : lv_pick (((j : Nat), Value.int x) :: lv.filter (fun q => !(q.1 == (j : Nat)) && !(q.1 + 1 == (j : Nat) && q.2.category == 2))) ks = lv') (k : At X nL w (pc + 1) lv' st) : At X nL w pc lv (.int x :: st) := by
  obtain ⟨p, l, e, R, s, m, args, below, meth, c, Q, D, A, cs, ss⟩ := X
  obtain ⟨hx, hb, hml, hown, hts, hK, hN, hRf, hRl, hcs, hss, hl0, hD0, hA0⟩ := C
  intro H locs ls hl hP hS
  exact lv_istore_n hx hb d rfl hl hn rfl (fun ls hl => k H locs ls (lv_sub hl ks hs) hP hS)
theorem at_lstore {j : Nat} {x : Int64} (C : Cx X K cc own nL fr lo) (d : decode cc pc = .ok (.lstore j, 2)) (hn : j + 1 < nL) (ks : List Nat) (hs : lv_pick ((j, Value.long x) :: lv.filter (fun q => !(q.1 == j) && (!(q.1 == j + 1) && !(q.1 + 1 == j && q.2.category == 2)))) ks = lv') (k : At X nL w (pc + 2) lv' st) : At X nL w pc lv (.long x :: st) := by
  obtain ⟨p, l, e, R, s, m, args, below, meth, c, Q, D, A, cs, ss⟩ := X
  obtain ⟨hx, hb, hml, hown, hts, hK, hN, hRf, hRl, hcs, hss, hl0, hD0, hA0⟩ := C
  intro H locs ls hl hP hS
  exact lv_lstore hx hb d hl hn rfl (fun ls hl => k H locs ls (lv_sub hl ks hs) hP hS)
theorem at_lstore_n {j : Fin 4} {x : Int64} (C : Cx X K cc own nL fr lo) (d : decode cc pc = .ok (.lstore_n j, 1)) (hn : (j : Nat) + 1 < nL) (ks : List Nat) (hs : lv_pick (((j : Nat), Value.long x) :: lv.filter (fun q => !(q.1 == (j : Nat)) && (!(q.1 == (j : Nat) + 1) && !(q.1 + 1 == (j : Nat) && q.2.category == 2)))) ks = lv') (k : At X nL w (pc + 1) lv' st) : At X nL w pc lv (.long x :: st) := by
  obtain ⟨p, l, e, R, s, m, args, below, meth, c, Q, D, A, cs, ss⟩ := X
  obtain ⟨hx, hb, hml, hown, hts, hK, hN, hRf, hRl, hcs, hss, hl0, hD0, hA0⟩ := C
  intro H locs ls hl hP hS
  exact lv_lstore_n hx hb d rfl hl hn rfl (fun ls hl => k H locs ls (lv_sub hl ks hs) hP hS)
theorem at_iinc {j : Nat} {n : Int} {x v : Int32} (C : Cx X K cc own nL fr lo) (d : decode cc pc = .ok (.iinc j n, 3)) (i : Nat) (h : lv[i]? = some (j, .int x)) (hv : x + Int32.ofInt n = v) (hn : j < nL) (ks : List Nat) (hs : lv_pick ((j, Value.int v) :: lv.filter (fun q => !(q.1 == j) && !(q.1 + 1 == j && q.2.category == 2))) ks = lv') (k : At X nL w (pc + 3) lv' st) : At X nL w pc lv st := by
  obtain ⟨p, l, e, R, s, m, args, below, meth, c, Q, D, A, cs, ss⟩ := X
  obtain ⟨hx, hb, hml, hown, hts, hK, hN, hRf, hRl, hcs, hss, hl0, hD0, hA0⟩ := C
  intro H locs ls hl hP hS
  exact lv_iinc hx hb d hl h hv hn rfl (fun ls hl => k H locs ls (lv_sub hl ks hs) hP hS)
theorem at_sub (ks : List Nat) (hs : lv_pick lv ks = lv') (k : At X nL w pc lv' st) : At X nL w pc lv st := by
  obtain ⟨p, l, e, R, s, m, args, below, meth, c, Q, D, A, cs, ss⟩ := X
  intro H locs ls hl hP hS
  exact k H locs ls (lv_sub hl ks hs) hP hS
theorem at_iadd {x y : Int32} (C : Cx X K cc own nL fr lo) (d : decode cc pc = .ok (.iadd, 1)) (k : At X nL w (pc + 1) lv (.int (x + y) :: st)) : At X nL w pc lv (.int y :: .int x :: st) := by
  obtain ⟨p, l, e, R, s, m, args, below, meth, c, Q, D, A, cs, ss⟩ := X
  obtain ⟨hx, hb, hml, hown, hts, hK, hN, hRf, hRl, hcs, hss, hl0, hD0, hA0⟩ := C
  intro H locs ls hl hP hS
  exact lv_iadd hx hb d (k H locs ls hl hP hS)
theorem at_isub {x y : Int32} (C : Cx X K cc own nL fr lo) (d : decode cc pc = .ok (.isub, 1)) (k : At X nL w (pc + 1) lv (.int (x - y) :: st)) : At X nL w pc lv (.int y :: .int x :: st) := by
  obtain ⟨p, l, e, R, s, m, args, below, meth, c, Q, D, A, cs, ss⟩ := X
  obtain ⟨hx, hb, hml, hown, hts, hK, hN, hRf, hRl, hcs, hss, hl0, hD0, hA0⟩ := C
  intro H locs ls hl hP hS
  exact lv_isub hx hb d (k H locs ls hl hP hS)
theorem at_imul {x y : Int32} (C : Cx X K cc own nL fr lo) (d : decode cc pc = .ok (.imul, 1)) (k : At X nL w (pc + 1) lv (.int (x * y) :: st)) : At X nL w pc lv (.int y :: .int x :: st) := by
  obtain ⟨p, l, e, R, s, m, args, below, meth, c, Q, D, A, cs, ss⟩ := X
  obtain ⟨hx, hb, hml, hown, hts, hK, hN, hRf, hRl, hcs, hss, hl0, hD0, hA0⟩ := C
  intro H locs ls hl hP hS
  exact lv_imul hx hb d (k H locs ls hl hP hS)
theorem at_iand {x y : Int32} (C : Cx X K cc own nL fr lo) (d : decode cc pc = .ok (.iand, 1)) (k : At X nL w (pc + 1) lv (.int (x &&& y) :: st)) : At X nL w pc lv (.int y :: .int x :: st) := by
  obtain ⟨p, l, e, R, s, m, args, below, meth, c, Q, D, A, cs, ss⟩ := X
  obtain ⟨hx, hb, hml, hown, hts, hK, hN, hRf, hRl, hcs, hss, hl0, hD0, hA0⟩ := C
  intro H locs ls hl hP hS
  exact lv_iand hx hb d (k H locs ls hl hP hS)
theorem at_ior {x y : Int32} (C : Cx X K cc own nL fr lo) (d : decode cc pc = .ok (.ior, 1)) (k : At X nL w (pc + 1) lv (.int (x ||| y) :: st)) : At X nL w pc lv (.int y :: .int x :: st) := by
  obtain ⟨p, l, e, R, s, m, args, below, meth, c, Q, D, A, cs, ss⟩ := X
  obtain ⟨hx, hb, hml, hown, hts, hK, hN, hRf, hRl, hcs, hss, hl0, hD0, hA0⟩ := C
  intro H locs ls hl hP hS
  exact lv_ior hx hb d (k H locs ls hl hP hS)
theorem at_ixor {x y : Int32} (C : Cx X K cc own nL fr lo) (d : decode cc pc = .ok (.ixor, 1)) (k : At X nL w (pc + 1) lv (.int (x ^^^ y) :: st)) : At X nL w pc lv (.int y :: .int x :: st) := by
  obtain ⟨p, l, e, R, s, m, args, below, meth, c, Q, D, A, cs, ss⟩ := X
  obtain ⟨hx, hb, hml, hown, hts, hK, hN, hRf, hRl, hcs, hss, hl0, hD0, hA0⟩ := C
  intro H locs ls hl hP hS
  exact lv_ixor hx hb d (k H locs ls hl hP hS)
theorem at_ishl {x y : Int32} (C : Cx X K cc own nL fr lo) (d : decode cc pc = .ok (.ishl, 1)) (k : At X nL w (pc + 1) lv (.int (x <<< (y &&& 31)) :: st)) : At X nL w pc lv (.int y :: .int x :: st) := by
  obtain ⟨p, l, e, R, s, m, args, below, meth, c, Q, D, A, cs, ss⟩ := X
  obtain ⟨hx, hb, hml, hown, hts, hK, hN, hRf, hRl, hcs, hss, hl0, hD0, hA0⟩ := C
  intro H locs ls hl hP hS
  exact lv_ishl hx hb d (k H locs ls hl hP hS)
theorem at_iushr {x y : Int32} (C : Cx X K cc own nL fr lo) (d : decode cc pc = .ok (.iushr, 1)) (k : At X nL w (pc + 1) lv (.int (x.toUInt32 >>> (y.toUInt32 &&& Int32.toUInt32 31)).toInt32 :: st)) : At X nL w pc lv (.int y :: .int x :: st) := by
  obtain ⟨p, l, e, R, s, m, args, below, meth, c, Q, D, A, cs, ss⟩ := X
  obtain ⟨hx, hb, hml, hown, hts, hK, hN, hRf, hRl, hcs, hss, hl0, hD0, hA0⟩ := C
  intro H locs ls hl hP hS
  exact lv_iushr hx hb d rfl (k H locs ls hl hP hS)
theorem at_idiv {x y : Int32} (C : Cx X K cc own nL fr lo) (d : decode cc pc = .ok (.idiv, 1)) (hne : ¬ y = 0) (k : At X nL w (pc + 1) lv (.int (x / y) :: st)) : At X nL w pc lv (.int y :: .int x :: st) := by
  obtain ⟨p, l, e, R, s, m, args, below, meth, c, Q, D, A, cs, ss⟩ := X
  obtain ⟨hx, hb, hml, hown, hts, hK, hN, hRf, hRl, hcs, hss, hl0, hD0, hA0⟩ := C
  intro H locs ls hl hP hS
  exact lv_idiv hx hb d hne (k H locs ls hl hP hS)
theorem at_irem {x y : Int32} (C : Cx X K cc own nL fr lo) (d : decode cc pc = .ok (.irem, 1)) (hne : ¬ y = 0) (k : At X nL w (pc + 1) lv (.int (x - x / y * y) :: st)) : At X nL w pc lv (.int y :: .int x :: st) := by
  obtain ⟨p, l, e, R, s, m, args, below, meth, c, Q, D, A, cs, ss⟩ := X
  obtain ⟨hx, hb, hml, hown, hts, hK, hN, hRf, hRl, hcs, hss, hl0, hD0, hA0⟩ := C
  intro H locs ls hl hP hS
  exact lv_irem hx hb d hne (k H locs ls hl hP hS)
theorem at_ladd {x y : Int64} (C : Cx X K cc own nL fr lo) (d : decode cc pc = .ok (.ladd, 1)) (k : At X nL w (pc + 1) lv (.long (x + y) :: st)) : At X nL w pc lv (.long y :: .long x :: st) := by
  obtain ⟨p, l, e, R, s, m, args, below, meth, c, Q, D, A, cs, ss⟩ := X
  obtain ⟨hx, hb, hml, hown, hts, hK, hN, hRf, hRl, hcs, hss, hl0, hD0, hA0⟩ := C
  intro H locs ls hl hP hS
  exact lv_ladd hx hb d (k H locs ls hl hP hS)
theorem at_lmul {x y : Int64} (C : Cx X K cc own nL fr lo) (d : decode cc pc = .ok (.lmul, 1)) (k : At X nL w (pc + 1) lv (.long (x * y) :: st)) : At X nL w pc lv (.long y :: .long x :: st) := by
  obtain ⟨p, l, e, R, s, m, args, below, meth, c, Q, D, A, cs, ss⟩ := X
  obtain ⟨hx, hb, hml, hown, hts, hK, hN, hRf, hRl, hcs, hss, hl0, hD0, hA0⟩ := C
  intro H locs ls hl hP hS
  exact lv_lmul hx hb d (k H locs ls hl hP hS)
theorem at_ldiv {x y : Int64} (C : Cx X K cc own nL fr lo) (d : decode cc pc = .ok (.ldiv, 1)) (hne : ¬ y = 0) (k : At X nL w (pc + 1) lv (.long (x / y) :: st)) : At X nL w pc lv (.long y :: .long x :: st) := by
  obtain ⟨p, l, e, R, s, m, args, below, meth, c, Q, D, A, cs, ss⟩ := X
  obtain ⟨hx, hb, hml, hown, hts, hK, hN, hRf, hRl, hcs, hss, hl0, hD0, hA0⟩ := C
  intro H locs ls hl hP hS
  exact lv_ldiv hx hb d hne (k H locs ls hl hP hS)
theorem at_lcmp {x y : Int64} (C : Cx X K cc own nL fr lo) (d : decode cc pc = .ok (.lcmp, 1)) (k : At X nL w (pc + 1) lv (.int (lg_cmp x y) :: st)) : At X nL w pc lv (.long y :: .long x :: st) := by
  obtain ⟨p, l, e, R, s, m, args, below, meth, c, Q, D, A, cs, ss⟩ := X
  obtain ⟨hx, hb, hml, hown, hts, hK, hN, hRf, hRl, hcs, hss, hl0, hD0, hA0⟩ := C
  intro H locs ls hl hP hS
  exact W.lcmp hx hb d (k H locs ls hl hP hS)
theorem at_i2l {x : Int32} (C : Cx X K cc own nL fr lo) (d : decode cc pc = .ok (.i2l, 1)) (k : At X nL w (pc + 1) lv (.long x.toInt64 :: st)) : At X nL w pc lv (.int x :: st) := by
  obtain ⟨p, l, e, R, s, m, args, below, meth, c, Q, D, A, cs, ss⟩ := X
  obtain ⟨hx, hb, hml, hown, hts, hK, hN, hRf, hRl, hcs, hss, hl0, hD0, hA0⟩ := C
  intro H locs ls hl hP hS
  exact lv_i2l hx hb d rfl (k H locs ls hl hP hS)
theorem at_l2i {x : Int64} (C : Cx X K cc own nL fr lo) (d : decode cc pc = .ok (.l2i, 1)) (k : At X nL w (pc + 1) lv (.int x.toInt32 :: st)) : At X nL w pc lv (.long x :: st) := by
  obtain ⟨p, l, e, R, s, m, args, below, meth, c, Q, D, A, cs, ss⟩ := X
  obtain ⟨hx, hb, hml, hown, hts, hK, hN, hRf, hRl, hcs, hss, hl0, hD0, hA0⟩ := C
  intro H locs ls hl hP hS
  exact lv_l2i hx hb d rfl (k H locs ls hl hP hS)
theorem at_dup {v : Value} (C : Cx X K cc own nL fr lo) (d : decode cc pc = .ok (.dup, 1)) (hv : v.category = 1) (k : At X nL w (pc + 1) lv (v :: v :: st)) : At X nL w pc lv (v :: st) := by
  obtain ⟨p, l, e, R, s, m, args, below, meth, c, Q, D, A, cs, ss⟩ := X
  obtain ⟨hx, hb, hml, hown, hts, hK, hN, hRf, hRl, hcs, hss, hl0, hD0, hA0⟩ := C
  intro H locs ls hl hP hS
  exact lv_dup hx hb d hv (k H locs ls hl hP hS)
theorem at_dup2 {v u : Value} (C : Cx X K cc own nL fr lo) (d : decode cc pc = .ok (.dup2, 1)) (hv : v.category = 1) (hu : u.category = 1) (k : At X nL w (pc + 1) lv (v :: u :: v :: u :: st)) : At X nL w pc lv (v :: u :: st) := by
  obtain ⟨p, l, e, R, s, m, args, below, meth, c, Q, D, A, cs, ss⟩ := X
  obtain ⟨hx, hb, hml, hown, hts, hK, hN, hRf, hRl, hcs, hss, hl0, hD0, hA0⟩ := C
  intro H locs ls hl hP hS
  exact lv_dup2_11 hx hb d hv hu (k H locs ls hl hP hS)
theorem at_pop {v : Value} (C : Cx X K cc own nL fr lo) (d : decode cc pc = .ok (.pop, 1)) (hv : v.category = 1) (k : At X nL w (pc + 1) lv st) : At X nL w pc lv (v :: st) := by
  obtain ⟨p, l, e, R, s, m, args, below, meth, c, Q, D, A, cs, ss⟩ := X
  obtain ⟨hx, hb, hml, hown, hts, hK, hN, hRf, hRl, hcs, hss, hl0, hD0, hA0⟩ := C
  intro H locs ls hl hP hS
  exact lv_pop hx hb d hv (k H locs ls hl hP hS)
theorem at_if_eq {x : Int32} {off : Int} {tgt : Nat} (C : Cx X K cc own nL fr lo) (d : decode cc pc = .ok (.ifCond .eq off, 3)) (ht : (pc : Int) + off = (tgt : Int)) (kt : x = 0 → At X nL w tgt lv st) (kf : ¬ x = 0 → At X nL w (pc + 3) lv st) : At X nL w pc lv (.int x :: st) := by
  obtain ⟨p, l, e, R, s, m, args, below, meth, c, Q, D, A, cs, ss⟩ := X
  obtain ⟨hx, hb, hml, hown, hts, hK, hN, hRf, hRl, hcs, hss, hl0, hD0, hA0⟩ := C
  intro H locs ls hl hP hS
  exact lv_if_eq hx hb d ht (fun h => kt h H locs ls hl hP hS) (fun h => kf h H locs ls hl hP hS)
theorem at_if_ne {x : Int32} {off : Int} {tgt : Nat} (C : Cx X K cc own nL fr lo) (d : decode cc pc = .ok (.ifCond .ne off, 3)) (ht : (pc : Int) + off = (tgt : Int)) (kt : ¬ x = 0 → At X nL w tgt lv st) (kf : x = 0 → At X nL w (pc + 3) lv st) : At X nL w pc lv (.int x :: st) := by
  obtain ⟨p, l, e, R, s, m, args, below, meth, c, Q, D, A, cs, ss⟩ := X
  obtain ⟨hx, hb, hml, hown, hts, hK, hN, hRf, hRl, hcs, hss, hl0, hD0, hA0⟩ := C
  intro H locs ls hl hP hS
  exact lv_if_ne hx hb d ht (fun h => kt h H locs ls hl hP hS) (fun h => kf h H locs ls hl hP hS)
theorem at_if_lt {x : Int32} {off : Int} {tgt : Nat} (C : Cx X K cc own nL fr lo) (d : decode cc pc = .ok (.ifCond .lt off, 3)) (ht : (pc : Int) + off = (tgt : Int)) (kt : x < 0 → At X nL w tgt lv st) (kf : ¬ x < 0 → At X nL w (pc + 3) lv st) : At X nL w pc lv (.int x :: st) := by
  obtain ⟨p, l, e, R, s, m, args, below, meth, c, Q, D, A, cs, ss⟩ := X
  obtain ⟨hx, hb, hml, hown, hts, hK, hN, hRf, hRl, hcs, hss, hl0, hD0, hA0⟩ := C
  intro H locs ls hl hP hS
  exact lv_if_lt hx hb d ht (fun h => kt h H locs ls hl hP hS) (fun h => kf h H locs ls hl hP hS)
theorem at_if_ge {x : Int32} {off : Int} {tgt : Nat} (C : Cx X K cc own nL fr lo) (d : decode cc pc = .ok (.ifCond .ge off, 3)) (ht : (pc : Int) + off = (tgt : Int)) (kt : 0 ≤ x → At X nL w tgt lv st) (kf : ¬ 0 ≤ x → At X nL w (pc + 3) lv st) : At X nL w pc lv (.int x :: st) := by
  obtain ⟨p, l, e, R, s, m, args, below, meth, c, Q, D, A, cs, ss⟩ := X
  obtain ⟨hx, hb, hml, hown, hts, hK, hN, hRf, hRl, hcs, hss, hl0, hD0, hA0⟩ := C
  intro H locs ls hl hP hS
  exact lv_if_ge hx hb d ht (fun h => kt h H locs ls hl hP hS) (fun h => kf h H locs ls hl hP hS)
theorem at_if_gt {x : Int32} {off : Int} {tgt : Nat} (C : Cx X K cc own nL fr lo) (d : decode cc pc = .ok (.ifCond .gt off, 3)) (ht : (pc : Int) + off = (tgt : Int)) (kt : 0 < x → At X nL w tgt lv st) (kf : ¬ 0 < x → At X nL w (pc + 3) lv st) : At X nL w pc lv (.int x :: st) := by
  obtain ⟨p, l, e, R, s, m, args, below, meth, c, Q, D, A, cs, ss⟩ := X
  obtain ⟨hx, hb, hml, hown, hts, hK, hN, hRf, hRl, hcs, hss, hl0, hD0, hA0⟩ := C
  intro H locs ls hl hP hS
  exact lv_if_gt hx hb d ht (fun h => kt h H locs ls hl hP hS) (fun h => kf h H locs ls hl hP hS)
theorem at_if_le {x : Int32} {off : Int} {tgt : Nat} (C : Cx X K cc own nL fr lo) (d : decode cc pc = .ok (.ifCond .le off, 3)) (ht : (pc : Int) + off = (tgt : Int)) (kt : x ≤ 0 → At X nL w tgt lv st) (kf : ¬ x ≤ 0 → At X nL w (pc + 3) lv st) : At X nL w pc lv (.int x :: st) := by
  obtain ⟨p, l, e, R, s, m, args, below, meth, c, Q, D, A, cs, ss⟩ := X
  obtain ⟨hx, hb, hml, hown, hts, hK, hN, hRf, hRl, hcs, hss, hl0, hD0, hA0⟩ := C
  intro H locs ls hl hP hS
  exact lv_if_le hx hb d ht (fun h => kt h H locs ls hl hP hS) (fun h => kf h H locs ls hl hP hS)
theorem at_icmp_eq {x y : Int32} {off : Int} {tgt : Nat} (C : Cx X K cc own nL fr lo) (d : decode cc pc = .ok (.if_icmp .eq off, 3)) (ht : (pc : Int) + off = (tgt : Int)) (kt : x = y → At X nL w tgt lv st) (kf : ¬ x = y → At X nL w (pc + 3) lv st) : At X nL w pc lv (.int y :: .int x :: st) := by
  obtain ⟨p, l, e, R, s, m, args, below, meth, c, Q, D, A, cs, ss⟩ := X
  obtain ⟨hx, hb, hml, hown, hts, hK, hN, hRf, hRl, hcs, hss, hl0, hD0, hA0⟩ := C
  intro H locs ls hl hP hS
  exact lv_icmp_eq hx hb d ht (fun h => kt h H locs ls hl hP hS) (fun h => kf h H locs ls hl hP hS)
theorem at_icmp_ne {x y : Int32} {off : Int} {tgt : Nat} (C : Cx X K cc own nL fr lo) (d : decode cc pc = .ok (.if_icmp .ne off, 3)) (ht : (pc : Int) + off = (tgt : Int)) (kt : ¬ x = y → At X nL w tgt lv st) (kf : x = y → At X nL w (pc + 3) lv st) : At X nL w pc lv (.int y :: .int x :: st) := by
  obtain ⟨p, l, e, R, s, m, args, below, meth, c, Q, D, A, cs, ss⟩ := X
  obtain ⟨hx, hb, hml, hown, hts, hK, hN, hRf, hRl, hcs, hss, hl0, hD0, hA0⟩ := C
  intro H locs ls hl hP hS
  exact lv_icmp_ne hx hb d ht (fun h => kt h H locs ls hl hP hS) (fun h => kf h H locs ls hl hP hS)
theorem at_icmp_lt {x y : Int32} {off : Int} {tgt : Nat} (C : Cx X K cc own nL fr lo) (d : decode cc pc = .ok (.if_icmp .lt off, 3)) (ht : (pc : Int) + off = (tgt : Int)) (kt : x < y → At X nL w tgt lv st) (kf : ¬ x < y → At X nL w (pc + 3) lv st) : At X nL w pc lv (.int y :: .int x :: st) := by
  obtain ⟨p, l, e, R, s, m, args, below, meth, c, Q, D, A, cs, ss⟩ := X
  obtain ⟨hx, hb, hml, hown, hts, hK, hN, hRf, hRl, hcs, hss, hl0, hD0, hA0⟩ := C
  intro H locs ls hl hP hS
  exact lv_icmp_lt hx hb d ht (fun h => kt h H locs ls hl hP hS) (fun h => kf h H locs ls hl hP hS)
theorem at_icmp_ge {x y : Int32} {off : Int} {tgt : Nat} (C : Cx X K cc own nL fr lo) (d : decode cc pc = .ok (.if_icmp .ge off, 3)) (ht : (pc : Int) + off = (tgt : Int)) (kt : y ≤ x → At X nL w tgt lv st) (kf : ¬ y ≤ x → At X nL w (pc + 3) lv st) : At X nL w pc lv (.int y :: .int x :: st) := by
  obtain ⟨p, l, e, R, s, m, args, below, meth, c, Q, D, A, cs, ss⟩ := X
  obtain ⟨hx, hb, hml, hown, hts, hK, hN, hRf, hRl, hcs, hss, hl0, hD0, hA0⟩ := C
  intro H locs ls hl hP hS
  exact lv_icmp_ge hx hb d ht (fun h => kt h H locs ls hl hP hS) (fun h => kf h H locs ls hl hP hS)
theorem at_icmp_gt {x y : Int32} {off : Int} {tgt : Nat} (C : Cx X K cc own nL fr lo) (d : decode cc pc = .ok (.if_icmp .gt off, 3)) (ht : (pc : Int) + off = (tgt : Int)) (kt : y < x → At X nL w tgt lv st) (kf : ¬ y < x → At X nL w (pc + 3) lv st) : At X nL w pc lv (.int y :: .int x :: st) := by
  obtain ⟨p, l, e, R, s, m, args, below, meth, c, Q, D, A, cs, ss⟩ := X
  obtain ⟨hx, hb, hml, hown, hts, hK, hN, hRf, hRl, hcs, hss, hl0, hD0, hA0⟩ := C
  intro H locs ls hl hP hS
  exact lv_icmp_gt hx hb d ht (fun h => kt h H locs ls hl hP hS) (fun h => kf h H locs ls hl hP hS)
theorem at_icmp_le {x y : Int32} {off : Int} {tgt : Nat} (C : Cx X K cc own nL fr lo) (d : decode cc pc = .ok (.if_icmp .le off, 3)) (ht : (pc : Int) + off = (tgt : Int)) (kt : x ≤ y → At X nL w tgt lv st) (kf : ¬ x ≤ y → At X nL w (pc + 3) lv st) : At X nL w pc lv (.int y :: .int x :: st) := by
  obtain ⟨p, l, e, R, s, m, args, below, meth, c, Q, D, A, cs, ss⟩ := X
  obtain ⟨hx, hb, hml, hown, hts, hK, hN, hRf, hRl, hcs, hss, hl0, hD0, hA0⟩ := C
  intro H locs ls hl hP hS
  exact lv_icmp_le hx hb d ht (fun h => kt h H locs ls hl hP hS) (fun h => kf h H locs ls hl hP hS)
theorem at_goto {off : Int} {tgt : Nat} (C : Cx X K cc own nL fr lo) (d : decode cc pc = .ok (.goto off, 3)) (ht : (pc : Int) + off = (tgt : Int)) (k : At X nL w tgt lv st) : At X nL w pc lv st := by
  obtain ⟨p, l, e, R, s, m, args, below, meth, c, Q, D, A, cs, ss⟩ := X
  obtain ⟨hx, hb, hml, hown, hts, hK, hN, hRf, hRl, hcs, hss, hl0, hD0, hA0⟩ := C
  intro H locs ls hl hP hS
  exact lv_goto hx hb d ht (k H locs ls hl hP hS)
theorem at_tabOut {dflt lw hg : Int} {offs : Array Int} {len : Nat} {x : Int32} {tgt : Nat} (C : Cx X K cc own nL fr lo) (d : decode cc pc = .ok (.tableswitch dflt lw hg offs, len)) (h : x.toInt < lw ∨ hg < x.toInt) (ht : (pc : Int) + dflt = (tgt : Int)) (k : At X nL w tgt lv st) : At X nL w pc lv (.int x :: st) := by
  obtain ⟨p, l, e, R, s, m, args, below, meth, c, Q, D, A, cs, ss⟩ := X
  obtain ⟨hx, hb, hml, hown, hts, hK, hN, hRf, hRl, hcs, hss, hl0, hD0, hA0⟩ := C
  intro H locs ls hl hP hS
  exact lv_tableOut hx hb d h ht (k H locs ls hl hP hS)
theorem at_tabIn {dflt lw hg : Int} {offs : Array Int} {len : Nat} {x : Int32} {off : Int} {tgt : Nat} (C : Cx X K cc own nL fr lo) (d : decode cc pc = .ok (.tableswitch dflt lw hg offs, len)) (h1 : ¬ x.toInt < lw) (h2 : ¬ hg < x.toInt) (ho : offs[(x.toInt - lw).toNat]? = some off) (ht : (pc : Int) + off = (tgt : Int)) (k : At X nL w tgt lv st) : At X nL w pc lv (.int x :: st) := by
  obtain ⟨p, l, e, R, s, m, args, below, meth, c, Q, D, A, cs, ss⟩ := X
  obtain ⟨hx, hb, hml, hown, hts, hK, hN, hRf, hRl, hcs, hss, hl0, hD0, hA0⟩ := C
  intro H locs ls hl hP hS
  exact lv_tableIn hx hb d h1 h2 ho ht (k H locs ls hl hP hS)
theorem at_get {Cn ref : String} {Tt : u_T} {N ci index a : Nat} {fs : List Value} {v : Value} (C : Cx X K cc own nL fr lo) (hin : ∀ w ∈ u_ws Cn Tt N, w ∈ gW) (hc : vwCl[ci]? = some (Cn, Tt, N)) (q0 : Nat) (he : w[q0]? = some (a, .inr (ci, fs))) (k : Nat) (hk : k < N) (hlk : Cond.fieldLink own index ref (Tt k).2.1 (Tt k).2.2.1 ∈ gW) (hr : (Tt k).1 = ref) (hv : fs[k]? = some v) (d : decode cc pc = .ok (.getfield index, 3)) (kk : At X nL w (pc + 3) lv (v :: st)) : At X nL w pc lv (.ref a :: st) := by
  obtain ⟨p, l, e, R, s, m, args, below, meth, c, Q, D, A, cs, ss⟩ := X
  obtain ⟨hx, hb, hml, hown, hts, hK, hN, hRf, hRl, hcs, hss, hl0, hD0, hA0⟩ := C
  intro H locs ls hl hP hS
  subst hr
  exact va_get hx hb hts hin hown hK hP q0 he hc k hk (hts _ hlk) (fun _ h9 => h9) hv d (kk H locs ls hl hP hS)
theorem at_getN {Cn ref : String} {Tt : u_T} {N ci index a : Nat} {fs : List Value} {v : Value} {host : String} (C : Cx X K cc own nL fr lo) (hin : ∀ w ∈ u_ws Cn Tt N, w ∈ gW) (hc : vwCl[ci]? = some (Cn, Tt, N)) (q0 : Nat) (he : w[q0]? = some (a, .inr (ci, fs))) (k : Nat) (hk : k < N) (hlk : Cond.fieldLinkNest own index ref (Tt k).2.1 (Tt k).2.2.1 host ∈ nW) (hr : (Tt k).1 = ref) (hv : fs[k]? = some v) (d : decode cc pc = .ok (.getfield index, 3)) (kk : At X nL w (pc + 3) lv (v :: st)) : At X nL w pc lv (.ref a :: st) := by
  obtain ⟨p, l, e, R, s, m, args, below, meth, c, Q, D, A, cs, ss⟩ := X
  obtain ⟨hx, hb, hml, hown, hts, hK, hN, hRf, hRl, hcs, hss, hl0, hD0, hA0⟩ := C
  intro H locs ls hl hP hS
  subst hr
  exact va_getN hx hb hts hin hown hK hP q0 he hc k hk (va_Nw.use rfl (hN _ hlk)) (fun _ h9 => h9) hv d (kk H locs ls hl hP hS)
theorem at_puti {Cn ref : String} {Tt : u_T} {N ci index a : Nat} {fs : List Value} {x : Int32} {w2 : va_W} (C : Cx X K cc own nL fr lo) (hin : ∀ w ∈ u_ws Cn Tt N, w ∈ gW) (ty0 : Nat → FieldType) (hty : ∀ k, k < N → parseFieldDescriptor (Tt k).2.2.1 = some (ty0 k)) (hnm : ∀ a, a < N → ∀ b, b < N → a ≠ b → (Tt a).2.1 ≠ (Tt b).2.1) (hc : vwCl[ci]? = some (Cn, Tt, N)) (hD : DX X w) (q0 : Nat) (he : w[q0]? = some (a, .inr (ci, fs))) (k : Nat) (hk : k < N) (hlk : Cond.fieldLink own index ref (Tt k).2.1 (Tt k).2.2.1 ∈ gW) (hr : (Tt k).1 = ref) (hfin : (Tt k).2.2.2 = false) (hd : parseFieldDescriptor (Tt k).2.2.1 = some .int) (hlen : k < fs.length) (hw : w.set q0 (a, .inr (ci, fs.set k (.int x))) = w2) (d : decode cc pc = .ok (.putfield index, 3)) (kk : At X nL w2 (pc + 3) lv st) : At X nL w pc lv (.int x :: .ref a :: st) := by
  obtain ⟨p, l, e, R, s, m, args, below, meth, c, Q, D, A, cs, ss⟩ := X
  obtain ⟨hx, hb, hml, hown, hts, hK, hN, hRf, hRl, hcs, hss, hl0, hD0, hA0⟩ := C
  intro H locs ls hl hP hS
  subst hr
  exact va_put hx hb hts hin ty0 hty hnm hown hK hP hD hS q0 he hc k hk (hts _ hlk) (fun _ h9 => h9) hfin hd rfl rfl hlen d (fun H1 locs1 hP1 _ hS1 => kk H1 locs1 ls hl (hw ▸ hP1) hS1)
theorem at_iald {a n : Nat} {f : Nat → Int32} {i : Int32} (C : Cx X K cc own nL fr lo) (q0 : Nat) (he : w[q0]? = some (a, .inl (K.2.2.2.1, n, .inl f))) (hi : vp_in i n) (d : decode cc pc = .ok (.iaload, 1)) (kk : At X nL w (pc + 1) lv (.int (f i.toNatClampNeg) :: st)) : At X nL w pc lv (.int i :: .ref a :: st) := by
  obtain ⟨p, l, e, R, s, m, args, below, meth, c, Q, D, A, cs, ss⟩ := X
  obtain ⟨hx, hb, hml, hown, hts, hK, hN, hRf, hRl, hcs, hss, hl0, hD0, hA0⟩ := C
  intro H locs ls hl hP hS
  exact va_iald hx hb hK hP q0 0 he rfl hi d (kk H locs ls hl hP hS)
theorem at_zald {a n : Nat} {f : Nat → Int32} {i : Int32} (C : Cx X K cc own nL fr lo) (q0 : Nat) (he : w[q0]? = some (a, .inl (K.2.2.2.2.1, n, .inl f))) (hi : vp_in i n) (d : decode cc pc = .ok (.baload, 1)) (kk : At X nL w (pc + 1) lv (.int (f i.toNatClampNeg) :: st)) : At X nL w pc lv (.int i :: .ref a :: st) := by
  obtain ⟨p, l, e, R, s, m, args, below, meth, c, Q, D, A, cs, ss⟩ := X
  obtain ⟨hx, hb, hml, hown, hts, hK, hN, hRf, hRl, hcs, hss, hl0, hD0, hA0⟩ := C
  intro H locs ls hl hP hS
  exact va_zald hx hb hK hP q0 1 he rfl hi d (kk H locs ls hl hP hS)
theorem at_lald {a n : Nat} {f : Nat → Int64} {i : Int32} (C : Cx X K cc own nL fr lo) (q0 : Nat) (he : w[q0]? = some (a, .inl (K.2.2.2.2.2, n, .inr (.inl f)))) (hi : vp_in i n) (d : decode cc pc = .ok (.laload, 1)) (kk : At X nL w (pc + 1) lv (.long (f i.toNatClampNeg) :: st)) : At X nL w pc lv (.int i :: .ref a :: st) := by
  obtain ⟨p, l, e, R, s, m, args, below, meth, c, Q, D, A, cs, ss⟩ := X
  obtain ⟨hx, hb, hml, hown, hts, hK, hN, hRf, hRl, hcs, hss, hl0, hD0, hA0⟩ := C
  intro H locs ls hl hP hS
  exact va_lald hx hb hK hP q0 2 he rfl hi d (kk H locs ls hl hP hS)
theorem at_iast {a n : Nat} {f : Nat → Int32} {i : Int32} {x : Int32} {w2 : va_W} (C : Cx X K cc own nL fr lo) (hD : DX X w) (q0 : Nat) (he : w[q0]? = some (a, .inl (K.2.2.2.1, n, .inl f))) (hi : vp_in i n) (hw : w.set q0 (a, .inl (K.2.2.2.1, n, .inl (upd f i.toNatClampNeg x))) = w2) (d : decode cc pc = .ok (.iastore, 1)) (kk : At X nL w2 (pc + 1) lv st) : At X nL w pc lv (.int x :: .int i :: .ref a :: st) := by
  obtain ⟨p, l, e, R, s, m, args, below, meth, c, Q, D, A, cs, ss⟩ := X
  obtain ⟨hx, hb, hml, hown, hts, hK, hN, hRf, hRl, hcs, hss, hl0, hD0, hA0⟩ := C
  intro H locs ls hl hP hS
  exact va_iast hx hb hK hP hD hS q0 0 he rfl hi d (fun H1 locs1 hP1 _ hS1 => kk H1 locs1 ls hl (hw ▸ hP1) hS1)
theorem at_zast {a n : Nat} {f : Nat → Int32} {i : Int32} {x : Int32} {w2 : va_W} (C : Cx X K cc own nL fr lo) (hD : DX X w) (q0 : Nat) (he : w[q0]? = some (a, .inl (K.2.2.2.2.1, n, .inl f))) (hi : vp_in i n) (hw : w.set q0 (a, .inl (K.2.2.2.2.1, n, .inl (upd f i.toNatClampNeg (vp_nar .boolean x)))) = w2) (d : decode cc pc = .ok (.bastore, 1)) (kk : At X nL w2 (pc + 1) lv st) : At X nL w pc lv (.int x :: .int i :: .ref a :: st) := by
  obtain ⟨p, l, e, R, s, m, args, below, meth, c, Q, D, A, cs, ss⟩ := X
  obtain ⟨hx, hb, hml, hown, hts, hK, hN, hRf, hRl, hcs, hss, hl0, hD0, hA0⟩ := C
  intro H locs ls hl hP hS
  exact va_zast hx hb hK hP hD hS q0 1 he rfl hi d (fun H1 locs1 hP1 _ hS1 => kk H1 locs1 ls hl (hw ▸ hP1) hS1)
theorem at_last {a n : Nat} {f : Nat → Int64} {i : Int32} {x : Int64} {w2 : va_W} (C : Cx X K cc own nL fr lo) (hD : DX X w) (q0 : Nat) (he : w[q0]? = some (a, .inl (K.2.2.2.2.2, n, .inr (.inl f)))) (hi : vp_in i n) (hw : w.set q0 (a, .inl (K.2.2.2.2.2, n, .inr (.inl (vp_updL f i.toNatClampNeg x)))) = w2) (d : decode cc pc = .ok (.lastore, 1)) (kk : At X nL w2 (pc + 1) lv st) : At X nL w pc lv (.long x :: .int i :: .ref a :: st) := by
  obtain ⟨p, l, e, R, s, m, args, below, meth, c, Q, D, A, cs, ss⟩ := X
  obtain ⟨hx, hb, hml, hown, hts, hK, hN, hRf, hRl, hcs, hss, hl0, hD0, hA0⟩ := C
  intro H locs ls hl hP hS
  exact va_last hx hb hK hP hD hS q0 2 he rfl hi d (fun H1 locs1 hP1 _ hS1 => kk H1 locs1 ls hl (hw ▸ hP1) hS1)
theorem at_aleni {a n : Nat} {f : Nat → Int32} {v : Int32} (C : Cx X K cc own nL fr lo) (q0 : Nat) (he : w[q0]? = some (a, .inl (K.2.2.2.1, n, .inl f))) (hv : Int32.ofNat n = v) (d : decode cc pc = .ok (.arraylength, 1)) (kk : At X nL w (pc + 1) lv (.int v :: st)) : At X nL w pc lv (.ref a :: st) := by
  obtain ⟨p, l, e, R, s, m, args, below, meth, c, Q, D, A, cs, ss⟩ := X
  obtain ⟨hx, hb, hml, hown, hts, hK, hN, hRf, hRl, hcs, hss, hl0, hD0, hA0⟩ := C
  intro H locs ls hl hP hS
  exact va_alen hx hb hK hP q0 0 he rfl hv d (kk H locs ls hl hP hS)
end ATR
/-! CONTRACTS: 'Ki K wf y bytes maxL ret rm av w0 post': y, called with av over the world w0, returns an int r and leaves the world 'wf u', 'post r u'; it makes nothing. Kl: a long; Kv: nothing. -/
def PcK (K : KT) (av : List Value) (w0 : va_W) : Array Value → State → Prop := va_Pc av (fun U => va_P K.2.1 vwCl w0 U.heap ∧ va_K K.2.1 vwCl (tyL K.2.2.2) U ∧ ∀ w ∈ nW, va_Nw w U)
def BK {S : Type} (K : KT) (wf : S → va_W) : S → State → Prop := fun u t => va_P K.2.1 vwCl (wf u) t.heap
def Ki {S : Type} (K : KT) (wf : S → va_W) (y : MethodName) (bytes : ByteArray) (maxL : Nat) (ret : Option FieldType) (rm : Room) (av : List Value) (w0 : va_W) (post : Int32 → S → Prop) : Prop := Met K.1 y (.code y bytes maxL ret :: gW) rm (PcK K av w0) (va_Qi post (BK K wf) K.2.2.1) 0 0 K.2.2.1
def Kl {S : Type} (K : KT) (wf : S → va_W) (y : MethodName) (bytes : ByteArray) (maxL : Nat) (ret : Option FieldType) (rm : Room) (av : List Value) (w0 : va_W) (post : Int64 → S → Prop) : Prop := Met K.1 y (.code y bytes maxL ret :: gW) rm (PcK K av w0) (va_Ql post (BK K wf) K.2.2.1) 0 0 K.2.2.1
def Kv {S : Type} (K : KT) (wf : S → va_W) (y : MethodName) (bytes : ByteArray) (maxL : Nat) (ret : Option FieldType) (rm : Room) (av : List Value) (w0 : va_W) (post : S → Prop) : Prop := Met K.1 y (.code y bytes maxL ret :: gW) rm (PcK K av w0) (va_Qv post (BK K wf) K.2.2.1) 0 0 K.2.2.1
theorem PcK_blind (K : KT) (av : List Value) (w0 : va_W) (hn : ∀ w ∈ nW, w.onTables = true) : FrameBlind (PcK K av w0) := fun a U g mk q => by
  obtain ⟨q0, q1, q2, q3⟩ := q
  exact ⟨q0, q1, va_K.moved (u := U) (U := U.calling g mk a) (Vm.Alike.refl U.vm) q2, fun w hw => va_Nw.same (u := U) (U := U.calling g mk a) (hn w hw) rfl (q3 w hw)⟩
theorem nW_tab : ∀ w ∈ nW, w.onTables = true := by
  intro w hw
  have h := (List.mem_filter.mp hw).2
  cases w <;> first | rfl | (exact absurd h (by simp [isNest]))
theorem nW_warm {s U : State} (hW : s.WarmedH U.vm) : ∀ w ∈ nW, va_Nw w s → va_Nw w U := by
  intro w hw hz
  have h := (List.mem_filter.mp hw).2
  cases w <;> first | (exact va_Nw.warmF hW hz) | (exact va_Nw.warmM hW hz) | (exact absurd h (by simp [isNest]))
theorem PcK_pre {K : KT} {av : List Value} {w0 : va_W} {s : State} {H : Heap} (hK : va_K K.2.1 vwCl (tyL K.2.2.2) s) (hN : ∀ w ∈ nW, va_Nw w s) (hP : va_P K.2.1 vwCl w0 H) : ∀ U : State, U.heap = H → s.WarmedH U.vm → PcK K av w0 av.toArray U := fun U hU hW => ⟨rfl, by rw [hU]; exact hP, va_K.moved hW.alike hK, fun w hw => nW_warm hW w hw (hN w hw)⟩
/-- what a callee's tables must say -/
def okM (y : MethodName) (bytes : ByteArray) (maxL : Nat) (ret : Option FieldType) (n : Nat) : Prop := Cond.code y bytes maxL ret ∈ gW ∧ Cond.initialized y.cls ∈ gW ∧ (y.cls ≠ "java/lang/invoke/MethodHandle" ∧ y.cls ≠ "java/lang/invoke/VarHandle" ∧ (parseMethodDescriptor y.desc).map (fun d => d.parameters.length) = some n)
def rmOk (rm : Room) (maxL fr lo : Nat) : Prop := rm.cells = 0 ∧ rm.slots = 0 ∧ rm.frames + 1 ≤ fr ∧ 8 + (maxL + 11) + rm.locals ≤ lo
theorem gW_ws {y : MethodName} {bytes : ByteArray} {maxL : Nat} {ret : Option FieldType} (h : Cond.code y bytes maxL ret ∈ gW) : GoodIn gW (Cond.code y bytes maxL ret :: gW) := fun w hw => (List.mem_cons.mp hw).elim (fun e => e ▸ ⟨h, gW_good h⟩) (fun q => ⟨q, gW_good q⟩)
section ATC
variable {X : XT} {K : KT} {cc : ByteArray} {own : String} {nL fr lo : Nat} {w : va_W} {pc : Nat} {lv : List (Nat × Value)} {st : List Value}
variable {S : Type} {wf : S → va_W} {y : MethodName} {bytes : ByteArray} {maxL n index b q0 ci : Nat} {ret : Option FieldType} {rm : Room} {As rest : List Value} {fs : List Value} {Cn : String} {Tt : u_T} {N : Nat} {host : String}
theorem at_callVi {post : Int32 → S → Prop} (C : Cx X K cc own nL fr lo) (hM : Ki K wf y bytes maxL ret rm (.ref b :: As) w post) (ok : okM y bytes maxL ret n) (hlk : Cond.methodLink own index y ∈ gW) (hi : Cond.instanceMethod y ∈ gW) (hs : Cond.selects Cn y y ∈ gW) (he : w[q0]? = some (b, .inr (ci, fs))) (hc : vwCl[ci]? = some (Cn, Tt, N)) (hrm : rmOk rm maxL fr lo) (hn : As.length = n) (hst : st = As.reverse ++ .ref b :: rest) (hW : (rest.map fun v => v.category).sum ≤ 8) (d : decode cc pc = .ok (.invokevirtual index, 3)) (kk : ∀ (r : Int32) (u : S), post r u → At X nL (wf u) (pc + 3) lv (.int r :: rest)) : At X nL w pc lv st := by
  obtain ⟨p, l, e, R, s, m, args, below, meth, c, Q, D, A, cs, ss⟩ := X
  obtain ⟨hx, hb, hml, hown, hts, hK, hN, hRf, hRl, hcs, hss, hl0, hD0, hA0⟩ := C
  intro H locs ls hl hP hS
  subst hRf; subst hRl; subst hl0; subst hD0; subst hA0; subst hst
  obtain ⟨o1, o2, o3⟩ := ok
  obtain ⟨m1, m2, m3, m4⟩ := hrm
  exact va_calli (va_runV (As := As) (rest := rest) ⟨hx, hb, hml, hown, hts⟩ hM ⟨callB_of n hts (gW_ws o1) rfl m1 m2 (hts _ o2) (hts _ hlk) o3 ⟨m3, m4⟩, hts _ hi, hts _ hs⟩ ⟨PcK_blind K _ _ nW_tab, va_recv hK hP hc he, PcK_pre hK hN hP⟩ rfl hn hl.1 rfl (lv_room hW) d ⟨hcs, hss⟩) hS (fun q _ h => h) (fun q h => h) (fun r u t H1 locs1 ht _ hw1 hB _ _ hS1 => kk r u hw1 H1 locs1 ls hl (by rw [← ht]; exact hB) hS1)
theorem at_callVNi {post : Int32 → S → Prop} (C : Cx X K cc own nL fr lo) (hM : Ki K wf y bytes maxL ret rm (.ref b :: As) w post) (ok : okM y bytes maxL ret n) (hlk : Cond.methodLinkNest own index y host ∈ nW) (hi : Cond.instanceMethod y ∈ gW) (hs : Cond.selects Cn y y ∈ gW) (he : w[q0]? = some (b, .inr (ci, fs))) (hc : vwCl[ci]? = some (Cn, Tt, N)) (hrm : rmOk rm maxL fr lo) (hn : As.length = n) (hst : st = As.reverse ++ .ref b :: rest) (hW : (rest.map fun v => v.category).sum ≤ 8) (d : decode cc pc = .ok (.invokevirtual index, 3)) (kk : ∀ (r : Int32) (u : S), post r u → At X nL (wf u) (pc + 3) lv (.int r :: rest)) : At X nL w pc lv st := by
  obtain ⟨p, l, e, R, s, m, args, below, meth, c, Q, D, A, cs, ss⟩ := X
  obtain ⟨hx, hb, hml, hown, hts, hK, hN, hRf, hRl, hcs, hss, hl0, hD0, hA0⟩ := C
  intro H locs ls hl hP hS
  subst hRf; subst hRl; subst hl0; subst hD0; subst hA0; subst hst
  obtain ⟨o1, o2, o3⟩ := ok
  obtain ⟨m1, m2, m3, m4⟩ := hrm
  exact va_calli (va_runVN (As := As) (rest := rest) ⟨hx, hb, hml, hown, hts⟩ hM ⟨va_cnB n hts (gW_ws o1) rfl m1 m2 (hN _ hlk) (hts _ o2) o3 ⟨m3, m4⟩, hts _ hi, hts _ hs⟩ ⟨PcK_blind K _ _ nW_tab, va_recv hK hP hc he, PcK_pre hK hN hP⟩ rfl hn hl.1 rfl (lv_room hW) d ⟨hcs, hss⟩) hS (fun q _ h => h) (fun q h => h) (fun r u t H1 locs1 ht _ hw1 hB _ _ hS1 => kk r u hw1 H1 locs1 ls hl (by rw [← ht]; exact hB) hS1)
theorem at_callSi {post : Int32 → S → Prop} (C : Cx X K cc own nL fr lo) (hM : Ki K wf y bytes maxL ret rm As w post) (ok : okM y bytes maxL ret n) (hlk : Cond.methodLink own index y ∈ gW) (hs : Cond.static y ∈ gW) (hrm : rmOk rm maxL fr lo) (hn : As.length = n) (hst : st = As.reverse ++ rest) (hW : (rest.map fun v => v.category).sum ≤ 8) (d : decode cc pc = .ok (.invokestatic index, 3)) (kk : ∀ (r : Int32) (u : S), post r u → At X nL (wf u) (pc + 3) lv (.int r :: rest)) : At X nL w pc lv st := by
  obtain ⟨p, l, e, R, s, m, args, below, meth, c, Q, D, A, cs, ss⟩ := X
  obtain ⟨hx, hb, hml, hown, hts, hK, hN, hRf, hRl, hcs, hss, hl0, hD0, hA0⟩ := C
  intro H locs ls hl hP hS
  subst hRf; subst hRl; subst hl0; subst hD0; subst hA0; subst hst
  obtain ⟨o1, o2, o3⟩ := ok
  obtain ⟨m1, m2, m3, m4⟩ := hrm
  exact va_calli (va_runS (As := As) (rest := rest) ⟨hx, hb, hml, hown, hts⟩ hM ⟨callB_of n hts (gW_ws o1) rfl m1 m2 (hts _ o2) (hts _ hlk) o3 ⟨m3, m4⟩, hts _ hs⟩ ⟨PcK_blind K _ _ nW_tab, PcK_pre hK hN hP⟩ rfl hn hl.1 rfl (lv_room hW) d ⟨hcs, hss⟩) hS (fun q _ h => h) (fun q h => h) (fun r u t H1 locs1 ht _ hw1 hB _ _ hS1 => kk r u hw1 H1 locs1 ls hl (by rw [← ht]; exact hB) hS1)
theorem at_callSNi {post : Int32 → S → Prop} (C : Cx X K cc own nL fr lo) (hM : Ki K wf y bytes maxL ret rm As w post) (ok : okM y bytes maxL ret n) (hlk : Cond.methodLinkNest own index y host ∈ nW) (hs : Cond.static y ∈ gW) (hrm : rmOk rm maxL fr lo) (hn : As.length = n) (hst : st = As.reverse ++ rest) (hW : (rest.map fun v => v.category).sum ≤ 8) (d : decode cc pc = .ok (.invokestatic index, 3)) (kk : ∀ (r : Int32) (u : S), post r u → At X nL (wf u) (pc + 3) lv (.int r :: rest)) : At X nL w pc lv st := by
  obtain ⟨p, l, e, R, s, m, args, below, meth, c, Q, D, A, cs, ss⟩ := X
  obtain ⟨hx, hb, hml, hown, hts, hK, hN, hRf, hRl, hcs, hss, hl0, hD0, hA0⟩ := C
  intro H locs ls hl hP hS
  subst hRf; subst hRl; subst hl0; subst hD0; subst hA0; subst hst
  obtain ⟨o1, o2, o3⟩ := ok
  obtain ⟨m1, m2, m3, m4⟩ := hrm
  exact va_calli (va_runSN (As := As) (rest := rest) ⟨hx, hb, hml, hown, hts⟩ hM ⟨va_cnB n hts (gW_ws o1) rfl m1 m2 (hN _ hlk) (hts _ o2) o3 ⟨m3, m4⟩, hts _ hs, trivial⟩ ⟨PcK_blind K _ _ nW_tab, PcK_pre hK hN hP⟩ rfl hn hl.1 rfl (lv_room hW) d ⟨hcs, hss⟩) hS (fun q _ h => h) (fun q h => h) (fun r u t H1 locs1 ht _ hw1 hB _ _ hS1 => kk r u hw1 H1 locs1 ls hl (by rw [← ht]; exact hB) hS1)
theorem at_callVl {post : Int64 → S → Prop} (C : Cx X K cc own nL fr lo) (hM : Kl K wf y bytes maxL ret rm (.ref b :: As) w post) (ok : okM y bytes maxL ret n) (hlk : Cond.methodLink own index y ∈ gW) (hi : Cond.instanceMethod y ∈ gW) (hs : Cond.selects Cn y y ∈ gW) (he : w[q0]? = some (b, .inr (ci, fs))) (hc : vwCl[ci]? = some (Cn, Tt, N)) (hrm : rmOk rm maxL fr lo) (hn : As.length = n) (hst : st = As.reverse ++ .ref b :: rest) (hW : (rest.map fun v => v.category).sum ≤ 8) (d : decode cc pc = .ok (.invokevirtual index, 3)) (kk : ∀ (r : Int64) (u : S), post r u → At X nL (wf u) (pc + 3) lv (.long r :: rest)) : At X nL w pc lv st := by
  obtain ⟨p, l, e, R, s, m, args, below, meth, c, Q, D, A, cs, ss⟩ := X
  obtain ⟨hx, hb, hml, hown, hts, hK, hN, hRf, hRl, hcs, hss, hl0, hD0, hA0⟩ := C
  intro H locs ls hl hP hS
  subst hRf; subst hRl; subst hl0; subst hD0; subst hA0; subst hst
  obtain ⟨o1, o2, o3⟩ := ok
  obtain ⟨m1, m2, m3, m4⟩ := hrm
  exact va_calll (va_runV (As := As) (rest := rest) ⟨hx, hb, hml, hown, hts⟩ hM ⟨callB_of n hts (gW_ws o1) rfl m1 m2 (hts _ o2) (hts _ hlk) o3 ⟨m3, m4⟩, hts _ hi, hts _ hs⟩ ⟨PcK_blind K _ _ nW_tab, va_recv hK hP hc he, PcK_pre hK hN hP⟩ rfl hn hl.1 rfl (lv_room hW) d ⟨hcs, hss⟩) hS (fun q _ h => h) (fun q h => h) (fun r u t H1 locs1 ht _ hw1 hB _ _ hS1 => kk r u hw1 H1 locs1 ls hl (by rw [← ht]; exact hB) hS1)
theorem at_callVNl {post : Int64 → S → Prop} (C : Cx X K cc own nL fr lo) (hM : Kl K wf y bytes maxL ret rm (.ref b :: As) w post) (ok : okM y bytes maxL ret n) (hlk : Cond.methodLinkNest own index y host ∈ nW) (hi : Cond.instanceMethod y ∈ gW) (hs : Cond.selects Cn y y ∈ gW) (he : w[q0]? = some (b, .inr (ci, fs))) (hc : vwCl[ci]? = some (Cn, Tt, N)) (hrm : rmOk rm maxL fr lo) (hn : As.length = n) (hst : st = As.reverse ++ .ref b :: rest) (hW : (rest.map fun v => v.category).sum ≤ 8) (d : decode cc pc = .ok (.invokevirtual index, 3)) (kk : ∀ (r : Int64) (u : S), post r u → At X nL (wf u) (pc + 3) lv (.long r :: rest)) : At X nL w pc lv st := by
  obtain ⟨p, l, e, R, s, m, args, below, meth, c, Q, D, A, cs, ss⟩ := X
  obtain ⟨hx, hb, hml, hown, hts, hK, hN, hRf, hRl, hcs, hss, hl0, hD0, hA0⟩ := C
  intro H locs ls hl hP hS
  subst hRf; subst hRl; subst hl0; subst hD0; subst hA0; subst hst
  obtain ⟨o1, o2, o3⟩ := ok
  obtain ⟨m1, m2, m3, m4⟩ := hrm
  exact va_calll (va_runVN (As := As) (rest := rest) ⟨hx, hb, hml, hown, hts⟩ hM ⟨va_cnB n hts (gW_ws o1) rfl m1 m2 (hN _ hlk) (hts _ o2) o3 ⟨m3, m4⟩, hts _ hi, hts _ hs⟩ ⟨PcK_blind K _ _ nW_tab, va_recv hK hP hc he, PcK_pre hK hN hP⟩ rfl hn hl.1 rfl (lv_room hW) d ⟨hcs, hss⟩) hS (fun q _ h => h) (fun q h => h) (fun r u t H1 locs1 ht _ hw1 hB _ _ hS1 => kk r u hw1 H1 locs1 ls hl (by rw [← ht]; exact hB) hS1)
theorem at_callSl {post : Int64 → S → Prop} (C : Cx X K cc own nL fr lo) (hM : Kl K wf y bytes maxL ret rm As w post) (ok : okM y bytes maxL ret n) (hlk : Cond.methodLink own index y ∈ gW) (hs : Cond.static y ∈ gW) (hrm : rmOk rm maxL fr lo) (hn : As.length = n) (hst : st = As.reverse ++ rest) (hW : (rest.map fun v => v.category).sum ≤ 8) (d : decode cc pc = .ok (.invokestatic index, 3)) (kk : ∀ (r : Int64) (u : S), post r u → At X nL (wf u) (pc + 3) lv (.long r :: rest)) : At X nL w pc lv st := by
  obtain ⟨p, l, e, R, s, m, args, below, meth, c, Q, D, A, cs, ss⟩ := X
  obtain ⟨hx, hb, hml, hown, hts, hK, hN, hRf, hRl, hcs, hss, hl0, hD0, hA0⟩ := C
  intro H locs ls hl hP hS
  subst hRf; subst hRl; subst hl0; subst hD0; subst hA0; subst hst
  obtain ⟨o1, o2, o3⟩ := ok
  obtain ⟨m1, m2, m3, m4⟩ := hrm
  exact va_calll (va_runS (As := As) (rest := rest) ⟨hx, hb, hml, hown, hts⟩ hM ⟨callB_of n hts (gW_ws o1) rfl m1 m2 (hts _ o2) (hts _ hlk) o3 ⟨m3, m4⟩, hts _ hs⟩ ⟨PcK_blind K _ _ nW_tab, PcK_pre hK hN hP⟩ rfl hn hl.1 rfl (lv_room hW) d ⟨hcs, hss⟩) hS (fun q _ h => h) (fun q h => h) (fun r u t H1 locs1 ht _ hw1 hB _ _ hS1 => kk r u hw1 H1 locs1 ls hl (by rw [← ht]; exact hB) hS1)
theorem at_callSNl {post : Int64 → S → Prop} (C : Cx X K cc own nL fr lo) (hM : Kl K wf y bytes maxL ret rm As w post) (ok : okM y bytes maxL ret n) (hlk : Cond.methodLinkNest own index y host ∈ nW) (hs : Cond.static y ∈ gW) (hrm : rmOk rm maxL fr lo) (hn : As.length = n) (hst : st = As.reverse ++ rest) (hW : (rest.map fun v => v.category).sum ≤ 8) (d : decode cc pc = .ok (.invokestatic index, 3)) (kk : ∀ (r : Int64) (u : S), post r u → At X nL (wf u) (pc + 3) lv (.long r :: rest)) : At X nL w pc lv st := by
  obtain ⟨p, l, e, R, s, m, args, below, meth, c, Q, D, A, cs, ss⟩ := X
  obtain ⟨hx, hb, hml, hown, hts, hK, hN, hRf, hRl, hcs, hss, hl0, hD0, hA0⟩ := C
  intro H locs ls hl hP hS
  subst hRf; subst hRl; subst hl0; subst hD0; subst hA0; subst hst
  obtain ⟨o1, o2, o3⟩ := ok
  obtain ⟨m1, m2, m3, m4⟩ := hrm
  exact va_calll (va_runSN (As := As) (rest := rest) ⟨hx, hb, hml, hown, hts⟩ hM ⟨va_cnB n hts (gW_ws o1) rfl m1 m2 (hN _ hlk) (hts _ o2) o3 ⟨m3, m4⟩, hts _ hs, trivial⟩ ⟨PcK_blind K _ _ nW_tab, PcK_pre hK hN hP⟩ rfl hn hl.1 rfl (lv_room hW) d ⟨hcs, hss⟩) hS (fun q _ h => h) (fun q h => h) (fun r u t H1 locs1 ht _ hw1 hB _ _ hS1 => kk r u hw1 H1 locs1 ls hl (by rw [← ht]; exact hB) hS1)
theorem at_callVv {post : S → Prop} (C : Cx X K cc own nL fr lo) (hM : Kv K wf y bytes maxL ret rm (.ref b :: As) w post) (ok : okM y bytes maxL ret n) (hlk : Cond.methodLink own index y ∈ gW) (hi : Cond.instanceMethod y ∈ gW) (hs : Cond.selects Cn y y ∈ gW) (he : w[q0]? = some (b, .inr (ci, fs))) (hc : vwCl[ci]? = some (Cn, Tt, N)) (hrm : rmOk rm maxL fr lo) (hn : As.length = n) (hst : st = As.reverse ++ .ref b :: rest) (hW : (rest.map fun v => v.category).sum ≤ 8) (d : decode cc pc = .ok (.invokevirtual index, 3)) (kk : ∀ (u : S), post u → At X nL (wf u) (pc + 3) lv rest) : At X nL w pc lv st := by
  obtain ⟨p, l, e, R, s, m, args, below, meth, c, Q, D, A, cs, ss⟩ := X
  obtain ⟨hx, hb, hml, hown, hts, hK, hN, hRf, hRl, hcs, hss, hl0, hD0, hA0⟩ := C
  intro H locs ls hl hP hS
  subst hRf; subst hRl; subst hl0; subst hD0; subst hA0; subst hst
  obtain ⟨o1, o2, o3⟩ := ok
  obtain ⟨m1, m2, m3, m4⟩ := hrm
  exact va_callv (va_runV (As := As) (rest := rest) ⟨hx, hb, hml, hown, hts⟩ hM ⟨callB_of n hts (gW_ws o1) rfl m1 m2 (hts _ o2) (hts _ hlk) o3 ⟨m3, m4⟩, hts _ hi, hts _ hs⟩ ⟨PcK_blind K _ _ nW_tab, va_recv hK hP hc he, PcK_pre hK hN hP⟩ rfl hn hl.1 rfl (lv_room hW) d ⟨hcs, hss⟩) hS (fun q _ h => h) (fun q h => h) (fun u t H1 locs1 ht _ hw1 hB _ _ hS1 => kk u hw1 H1 locs1 ls hl (by rw [← ht]; exact hB) hS1)
theorem at_callVNv {post : S → Prop} (C : Cx X K cc own nL fr lo) (hM : Kv K wf y bytes maxL ret rm (.ref b :: As) w post) (ok : okM y bytes maxL ret n) (hlk : Cond.methodLinkNest own index y host ∈ nW) (hi : Cond.instanceMethod y ∈ gW) (hs : Cond.selects Cn y y ∈ gW) (he : w[q0]? = some (b, .inr (ci, fs))) (hc : vwCl[ci]? = some (Cn, Tt, N)) (hrm : rmOk rm maxL fr lo) (hn : As.length = n) (hst : st = As.reverse ++ .ref b :: rest) (hW : (rest.map fun v => v.category).sum ≤ 8) (d : decode cc pc = .ok (.invokevirtual index, 3)) (kk : ∀ (u : S), post u → At X nL (wf u) (pc + 3) lv rest) : At X nL w pc lv st := by
  obtain ⟨p, l, e, R, s, m, args, below, meth, c, Q, D, A, cs, ss⟩ := X
  obtain ⟨hx, hb, hml, hown, hts, hK, hN, hRf, hRl, hcs, hss, hl0, hD0, hA0⟩ := C
  intro H locs ls hl hP hS
  subst hRf; subst hRl; subst hl0; subst hD0; subst hA0; subst hst
  obtain ⟨o1, o2, o3⟩ := ok
  obtain ⟨m1, m2, m3, m4⟩ := hrm
  exact va_callv (va_runVN (As := As) (rest := rest) ⟨hx, hb, hml, hown, hts⟩ hM ⟨va_cnB n hts (gW_ws o1) rfl m1 m2 (hN _ hlk) (hts _ o2) o3 ⟨m3, m4⟩, hts _ hi, hts _ hs⟩ ⟨PcK_blind K _ _ nW_tab, va_recv hK hP hc he, PcK_pre hK hN hP⟩ rfl hn hl.1 rfl (lv_room hW) d ⟨hcs, hss⟩) hS (fun q _ h => h) (fun q h => h) (fun u t H1 locs1 ht _ hw1 hB _ _ hS1 => kk u hw1 H1 locs1 ls hl (by rw [← ht]; exact hB) hS1)
theorem at_callSv {post : S → Prop} (C : Cx X K cc own nL fr lo) (hM : Kv K wf y bytes maxL ret rm As w post) (ok : okM y bytes maxL ret n) (hlk : Cond.methodLink own index y ∈ gW) (hs : Cond.static y ∈ gW) (hrm : rmOk rm maxL fr lo) (hn : As.length = n) (hst : st = As.reverse ++ rest) (hW : (rest.map fun v => v.category).sum ≤ 8) (d : decode cc pc = .ok (.invokestatic index, 3)) (kk : ∀ (u : S), post u → At X nL (wf u) (pc + 3) lv rest) : At X nL w pc lv st := by
  obtain ⟨p, l, e, R, s, m, args, below, meth, c, Q, D, A, cs, ss⟩ := X
  obtain ⟨hx, hb, hml, hown, hts, hK, hN, hRf, hRl, hcs, hss, hl0, hD0, hA0⟩ := C
  intro H locs ls hl hP hS
  subst hRf; subst hRl; subst hl0; subst hD0; subst hA0; subst hst
  obtain ⟨o1, o2, o3⟩ := ok
  obtain ⟨m1, m2, m3, m4⟩ := hrm
  exact va_callv (va_runS (As := As) (rest := rest) ⟨hx, hb, hml, hown, hts⟩ hM ⟨callB_of n hts (gW_ws o1) rfl m1 m2 (hts _ o2) (hts _ hlk) o3 ⟨m3, m4⟩, hts _ hs⟩ ⟨PcK_blind K _ _ nW_tab, PcK_pre hK hN hP⟩ rfl hn hl.1 rfl (lv_room hW) d ⟨hcs, hss⟩) hS (fun q _ h => h) (fun q h => h) (fun u t H1 locs1 ht _ hw1 hB _ _ hS1 => kk u hw1 H1 locs1 ls hl (by rw [← ht]; exact hB) hS1)
theorem at_callSNv {post : S → Prop} (C : Cx X K cc own nL fr lo) (hM : Kv K wf y bytes maxL ret rm As w post) (ok : okM y bytes maxL ret n) (hlk : Cond.methodLinkNest own index y host ∈ nW) (hs : Cond.static y ∈ gW) (hrm : rmOk rm maxL fr lo) (hn : As.length = n) (hst : st = As.reverse ++ rest) (hW : (rest.map fun v => v.category).sum ≤ 8) (d : decode cc pc = .ok (.invokestatic index, 3)) (kk : ∀ (u : S), post u → At X nL (wf u) (pc + 3) lv rest) : At X nL w pc lv st := by
  obtain ⟨p, l, e, R, s, m, args, below, meth, c, Q, D, A, cs, ss⟩ := X
  obtain ⟨hx, hb, hml, hown, hts, hK, hN, hRf, hRl, hcs, hss, hl0, hD0, hA0⟩ := C
  intro H locs ls hl hP hS
  subst hRf; subst hRl; subst hl0; subst hD0; subst hA0; subst hst
  obtain ⟨o1, o2, o3⟩ := ok
  obtain ⟨m1, m2, m3, m4⟩ := hrm
  exact va_callv (va_runSN (As := As) (rest := rest) ⟨hx, hb, hml, hown, hts⟩ hM ⟨va_cnB n hts (gW_ws o1) rfl m1 m2 (hN _ hlk) (hts _ o2) o3 ⟨m3, m4⟩, hts _ hs, trivial⟩ ⟨PcK_blind K _ _ nW_tab, PcK_pre hK hN hP⟩ rfl hn hl.1 rfl (lv_room hW) d ⟨hcs, hss⟩) hS (fun q _ h => h) (fun q h => h) (fun u t H1 locs1 ht _ hw1 hB _ _ hS1 => kk u hw1 H1 locs1 ls hl (by rw [← ht]; exact hB) hS1)
end ATC
/-! a method's body out of the judgement -/
def RetI {S : Type} (X : XT) (cc : ByteArray) (nL : Nat) (wf : S → va_W) (post : Int32 → S → Prop) : Prop := ∀ (pc : Nat) (lv : List (Nat × Value)) (r : Int32) (u : S), decode cc pc = .ok (.ireturn, 1) → post r u → At X nL (wf u) pc lv [.int r]
def RetZ {S : Type} (X : XT) (cc : ByteArray) (nL : Nat) (wf : S → va_W) (post : Int32 → S → Prop) : Prop := ∀ (pc : Nat) (lv : List (Nat × Value)) (r : Int32) (u : S), decode cc pc = .ok (.ireturn, 1) → narrow .boolean (.int r) = .int r → post r u → At X nL (wf u) pc lv [.int r]
def RetL {S : Type} (X : XT) (cc : ByteArray) (nL : Nat) (wf : S → va_W) (post : Int64 → S → Prop) : Prop := ∀ (pc : Nat) (lv : List (Nat × Value)) (r : Int64) (u : S), decode cc pc = .ok (.lreturn, 1) → post r u → At X nL (wf u) pc lv [.long r]
def RetV {S : Type} (X : XT) (cc : ByteArray) (nL : Nat) (wf : S → va_W) (post : S → Prop) : Prop := ∀ (pc : Nat) (lv : List (Nat × Value)) (u : S), decode cc pc = .ok (.return_, 1) → post u → At X nL (wf u) pc lv []
section STM
variable {S : Type} {K : KT} {wf : S → va_W} {y : MethodName} {cc : ByteArray} {nL fr lo : Nat} {rm : Room} {av : List Value} {w0 : va_W} {lv0 : List (Nat × Value)} {own : String}
theorem st_MI {post : Int32 → S → Prop} (hy : plainName y.cls = true) (hro : rm.frames = fr ∧ rm.locals = lo) (ho : y.cls = own) (hn : (lg_sl av).length ≤ nL) (hlv : lv_args 0 av = lv0)
    (body : ∀ X : XT, Cx X K cc own nL fr lo → (∀ w, va_D K.2.2.1 w → DX X w) → RetI X cc nL wf post → At X nL w0 0 lv0 []) : Ki K wf y cc nL (some .int) rm av w0 post := by
  refine Met.ofW (cc := cc) (maxL := nL) (ret := (some .int)) hy rfl ?_
  intro p e s m args below meth c s₁ B hml hv
  obtain ⟨rfl, hP, hK, hN⟩ := hv
  have hx := B.exec
  have hb := B.bytes
  have hr := B.returns
  have hts0 := atoms_spec (ws := Cond.code y cc nL (some .int) :: gW) B.pre
  have hown : s.vm.findClass own = some m.cls := by rw [← ho]; exact findClass_of_methodNamed B.named
  have hlocks := B.notSynchronized
  have hl := lv_entry av (n := nL) hn
  rw [lg_entry_eq]
  rw [hlv] at hl
  refine body (p, K.1, e, rm, s, m, av.toArray, below, meth, c, MQ below (va_Qi post (BK K wf) K.2.2.1) av.toArray s 0 0 K.2.2.1, K.2.1, K.2.2.1, 0, 0) ⟨hx, hb, hml, hown, fun w hw => hts0 w (List.mem_cons_of_mem _ hw), hK, hN, hro.1, hro.2, Nat.zero_le _, Nat.zero_le _, rfl, rfl, rfl⟩ (fun w h => h) ?_ s.heap [] _ hl hP va_S.rf
  intro pc lv r u d hq H locs ls hl hP hS
  exact W.iret hx hb hr (fun t ht hW => ⟨⟨r, u, rfl, hq, by show va_P _ _ _ _; rw [ht]; exact hP⟩, hS.F ht⟩) hS.2.2 d hlocks
theorem st_MZ {post : Int32 → S → Prop} (hy : plainName y.cls = true) (hro : rm.frames = fr ∧ rm.locals = lo) (ho : y.cls = own) (hn : (lg_sl av).length ≤ nL) (hlv : lv_args 0 av = lv0)
    (body : ∀ X : XT, Cx X K cc own nL fr lo → (∀ w, va_D K.2.2.1 w → DX X w) → RetZ X cc nL wf post → At X nL w0 0 lv0 []) : Ki K wf y cc nL (some .boolean) rm av w0 post := by
  refine Met.ofW (cc := cc) (maxL := nL) (ret := (some .boolean)) hy rfl ?_
  intro p e s m args below meth c s₁ B hml hv
  obtain ⟨rfl, hP, hK, hN⟩ := hv
  have hx := B.exec
  have hb := B.bytes
  have hr := B.returns
  have hts0 := atoms_spec (ws := Cond.code y cc nL (some .boolean) :: gW) B.pre
  have hown : s.vm.findClass own = some m.cls := by rw [← ho]; exact findClass_of_methodNamed B.named
  have hlocks := B.notSynchronized
  have hl := lv_entry av (n := nL) hn
  rw [lg_entry_eq]
  rw [hlv] at hl
  refine body (p, K.1, e, rm, s, m, av.toArray, below, meth, c, MQ below (va_Qi post (BK K wf) K.2.2.1) av.toArray s 0 0 K.2.2.1, K.2.1, K.2.2.1, 0, 0) ⟨hx, hb, hml, hown, fun w hw => hts0 w (List.mem_cons_of_mem _ hw), hK, hN, hro.1, hro.2, Nat.zero_le _, Nat.zero_le _, rfl, rfl, rfl⟩ (fun w h => h) ?_ s.heap [] _ hl hP va_S.rf
  intro pc lv r u d hnar hq H locs ls hl hP hS
  exact W.zret hx hb hr hnar (fun t ht hW => ⟨⟨r, u, rfl, hq, by show va_P _ _ _ _; rw [ht]; exact hP⟩, hS.F ht⟩) hS.2.2 d hlocks
theorem st_ML {post : Int64 → S → Prop} (hy : plainName y.cls = true) (hro : rm.frames = fr ∧ rm.locals = lo) (ho : y.cls = own) (hn : (lg_sl av).length ≤ nL) (hlv : lv_args 0 av = lv0)
    (body : ∀ X : XT, Cx X K cc own nL fr lo → (∀ w, va_D K.2.2.1 w → DX X w) → RetL X cc nL wf post → At X nL w0 0 lv0 []) : Kl K wf y cc nL (some .long) rm av w0 post := by
  refine Met.ofW (cc := cc) (maxL := nL) (ret := (some .long)) hy rfl ?_
  intro p e s m args below meth c s₁ B hml hv
  obtain ⟨rfl, hP, hK, hN⟩ := hv
  have hx := B.exec
  have hb := B.bytes
  have hr := B.returns
  have hts0 := atoms_spec (ws := Cond.code y cc nL (some .long) :: gW) B.pre
  have hown : s.vm.findClass own = some m.cls := by rw [← ho]; exact findClass_of_methodNamed B.named
  have hlocks := B.notSynchronized
  have hl := lv_entry av (n := nL) hn
  rw [lg_entry_eq]
  rw [hlv] at hl
  refine body (p, K.1, e, rm, s, m, av.toArray, below, meth, c, MQ below (va_Ql post (BK K wf) K.2.2.1) av.toArray s 0 0 K.2.2.1, K.2.1, K.2.2.1, 0, 0) ⟨hx, hb, hml, hown, fun w hw => hts0 w (List.mem_cons_of_mem _ hw), hK, hN, hro.1, hro.2, Nat.zero_le _, Nat.zero_le _, rfl, rfl, rfl⟩ (fun w h => h) ?_ s.heap [] _ hl hP va_S.rf
  intro pc lv r u d hq H locs ls hl hP hS
  exact W.lret hx hb hr (fun t ht hW => ⟨⟨r, u, rfl, hq, by show va_P _ _ _ _; rw [ht]; exact hP⟩, hS.F ht⟩) hS.2.2 d hlocks
theorem st_MV {post : S → Prop} (hy : plainName y.cls = true) (hro : rm.frames = fr ∧ rm.locals = lo) (ho : y.cls = own) (hn : (lg_sl av).length ≤ nL) (hlv : lv_args 0 av = lv0)
    (body : ∀ X : XT, Cx X K cc own nL fr lo → (∀ w, va_D K.2.2.1 w → DX X w) → RetV X cc nL wf post → At X nL w0 0 lv0 []) : Kv K wf y cc nL none rm av w0 post := by
  refine Met.ofW (cc := cc) (maxL := nL) (ret := none) hy rfl ?_
  intro p e s m args below meth c s₁ B hml hv
  obtain ⟨rfl, hP, hK, hN⟩ := hv
  have hx := B.exec
  have hb := B.bytes
  have hr := B.returns
  have hts0 := atoms_spec (ws := Cond.code y cc nL none :: gW) B.pre
  have hown : s.vm.findClass own = some m.cls := by rw [← ho]; exact findClass_of_methodNamed B.named
  have hlocks := B.notSynchronized
  have hl := lv_entry av (n := nL) hn
  rw [lg_entry_eq]
  rw [hlv] at hl
  refine body (p, K.1, e, rm, s, m, av.toArray, below, meth, c, MQ below (va_Qv post (BK K wf) K.2.2.1) av.toArray s 0 0 K.2.2.1, K.2.1, K.2.2.1, 0, 0) ⟨hx, hb, hml, hown, fun w hw => hts0 w (List.mem_cons_of_mem _ hw), hK, hN, hro.1, hro.2, Nat.zero_le _, Nat.zero_le _, rfl, rfl, rfl⟩ (fun w h => h) ?_ s.heap [] _ hl hP va_S.rf
  intro pc lv u d hq H locs ls hl hP hS
  exact W.vret hx hb hr (fun t ht hW => ⟨⟨u, rfl, hq, by show va_P _ _ _ _; rw [ht]; exact hP⟩, hS.F ht⟩) hS.2.2 d hlocks
end STM
