/-! CONSTRUCTORS: 'An' is 'At' with the cells and slots that were made so far, and the world's cells apart -/
def An (X : XT) (nL : Nat) (w : va_W) (cs ss pc : Nat) (lv : List (Nat × Value)) (st : List Value) : Prop := match X with
  | (p, l, e, R, s, m, args, below, meth, c, Q, D, A, _, _) => ∀ (H : Heap) (locs : List Loc) (ls : Array Slot), lv_has ls nL lv → va_P D vwCl w H → va_D A w → va_S A s.heap H locs → W p l e R s m args below meth c H locs cs ss Q (F0 m pc ls st)
def Cn (X : XT) (l0 : Launch) (D0 : va_G) (T : TT) (cc : ByteArray) (own : String) (nL fr lo cN sN : Nat) : Prop := match X with
  | (p, l, _, R, s, m, args, _, meth, c, _, D, A, _, _) => p.tables.exec = Jvm.exec ∧ c.code = cc ∧ c.maxLocals = nL ∧ s.vm.findClass own = some m.cls ∧ (∀ w ∈ gW, w.before args s = true) ∧ va_K D vwCl (tyL T) s ∧ (∀ w ∈ nW, va_Nw w s) ∧ R.frames = fr ∧ R.locals = lo ∧ R.cells = cN ∧ R.slots = sN ∧ (∀ q : Nat, s.heap.size ≤ q → A q) ∧ meth.name = "<init>" ∧ l = l0 ∧ D = D0
theorem va_K_same {D : va_G} {cl : List vw_C} {tys : List (ClassId × FieldType)} {s : State} (hK : va_K D cl tys s) {i j : Nat} {c1 c2 : ClassId} {ty : FieldType} (h1 : tys[i]? = some (c1, ty)) (h2 : tys[j]? = some (c2, ty)) (hp : ∀ C, ty ≠ .object C) : c1 = c2 := by
  have a1 := (hK.2 i _ h1).2
  have a2 := (hK.2 j _ h2).2
  cases ty with
  | object C => exact absurd rfl (hp C)
  | _ => exact Option.some.inj (Eq.trans (Eq.symm a1) a2)
section ANR
variable {X : XT} {l0 : Launch} {D0 : va_G} {T : TT} {cc : ByteArray} {own : String} {nL fr lo cN sN : Nat} {w w2 : va_W} {cs ss pc : Nat} {lv lv' : List (Nat × Value)} {st : List Value}
theorem an_w (h : w = w2) (k : An X nL w2 cs ss pc lv st) : An X nL w cs ss pc lv st := h ▸ k
theorem an_iconst {n : Int} {v : Int32} (C : Cn X l0 D0 T cc own nL fr lo cN sN) (d : decode cc pc = .ok (.iconst n, 1)) (hv : Int32.ofInt n = v) (k : An X nL w cs ss (pc + 1) lv (.int v :: st)) : An X nL w cs ss pc lv st := by
  obtain ⟨p, l, e, R, s, m, args, below, meth, c, Q, D, A, c9, s9⟩ := X
  obtain ⟨hx, hb, hml, hown, hts, hK, hN, hRf, hRl, hRc, hRs, hA, hin, hl0, hD0⟩ := C
  intro H locs ls hl hP hD hS
  exact lv_iconst hx hb d hv (k H locs ls hl hP hD hS)
theorem an_bipush {n : Int} {v : Int32} (C : Cn X l0 D0 T cc own nL fr lo cN sN) (d : decode cc pc = .ok (.bipush n, 2)) (hv : (Int8.ofInt n).toInt32 = v) (k : An X nL w cs ss (pc + 2) lv (.int v :: st)) : An X nL w cs ss pc lv st := by
  obtain ⟨p, l, e, R, s, m, args, below, meth, c, Q, D, A, c9, s9⟩ := X
  obtain ⟨hx, hb, hml, hown, hts, hK, hN, hRf, hRl, hRc, hRs, hA, hin, hl0, hD0⟩ := C
  intro H locs ls hl hP hD hS
  exact lv_bipush hx hb d hv (k H locs ls hl hP hD hS)
theorem an_sipush {n : Int} {v : Int32} (C : Cn X l0 D0 T cc own nL fr lo cN sN) (d : decode cc pc = .ok (.sipush n, 3)) (hv : (Int16.ofInt n).toInt32 = v) (k : An X nL w cs ss (pc + 3) lv (.int v :: st)) : An X nL w cs ss pc lv st := by
  obtain ⟨p, l, e, R, s, m, args, below, meth, c, Q, D, A, c9, s9⟩ := X
  obtain ⟨hx, hb, hml, hown, hts, hK, hN, hRf, hRl, hRc, hRs, hA, hin, hl0, hD0⟩ := C
  intro H locs ls hl hP hD hS
  exact lv_sipush hx hb d hv (k H locs ls hl hP hD hS)
theorem an_aload_n {j : Fin 4} {x : Nat} (C : Cn X l0 D0 T cc own nL fr lo cN sN) (d : decode cc pc = .ok (.aload_n j, 1)) (i : Nat) (h : lv[i]? = some ((j : Nat), .ref x)) (k : An X nL w cs ss (pc + 1) lv (.ref x :: st)) : An X nL w cs ss pc lv st := by
  obtain ⟨p, l, e, R, s, m, args, below, meth, c, Q, D, A, c9, s9⟩ := X
  obtain ⟨hx, hb, hml, hown, hts, hK, hN, hRf, hRl, hRc, hRs, hA, hin, hl0, hD0⟩ := C
  intro H locs ls hl hP hD hS
  exact lv_aload_n hx hb d rfl (lv_at hl i h) (k H locs ls hl hP hD hS)
theorem an_dup {v : Value} (C : Cn X l0 D0 T cc own nL fr lo cN sN) (d : decode cc pc = .ok (.dup, 1)) (hv : v.category = 1) (k : An X nL w cs ss (pc + 1) lv (v :: v :: st)) : An X nL w cs ss pc lv (v :: st) := by
  obtain ⟨p, l, e, R, s, m, args, below, meth, c, Q, D, A, c9, s9⟩ := X
  obtain ⟨hx, hb, hml, hown, hts, hK, hN, hRf, hRl, hRc, hRs, hA, hin, hl0, hD0⟩ := C
  intro H locs ls hl hP hD hS
  exact lv_dup hx hb d hv (k H locs ls hl hP hD hS)
theorem an_objInit {idx a : Nat} (C : Cn X l0 D0 T cc own nL fr lo cN sN) (h1 : Cond.methodLink own idx objectInit ∈ gW) (h2 : Cond.instanceMethod objectInit ∈ gW) (h3 : Cond.code objectInit ⟨#[0xb1]⟩ 1 none ∈ gW) (hf : 1 ≤ fr) (hlo : 20 ≤ lo) (hst : st = []) (d : decode cc pc = .ok (.invokespecial idx, 3)) (k : An X nL w cs ss (pc + 3) lv []) : An X nL w cs ss pc lv (.ref a :: st) := by
  obtain ⟨p, l, e, R, s, m, args, below, meth, c, Q, D, A, c9, s9⟩ := X
  obtain ⟨hx, hb, hml, hown, hts, hK, hN, hRf, hRl, hRc, hRs, hA, hin, hl0, hD0⟩ := C
  intro H locs ls hl hP hD hS
  subst hst
  exact W.objInit hx hb hown (hts _ h1) (hts _ h2) (hts _ h3) rfl (by rw [hml]; exact hl.1) rfl d (by rw [hRf]; exact hf) (by rw [hRl]; exact Nat.le_trans (Nat.le_of_ble_eq_true rfl) hlo) (k H locs ls hl hP hD hS)
theorem an_get {Cc ref : String} {Tt : u_T} {N ci index a : Nat} {fs : List Value} {v : Value} (C : Cn X l0 D0 T cc own nL fr lo cN sN) (hi : ∀ w ∈ u_ws Cc Tt N, w ∈ gW) (hc : vwCl[ci]? = some (Cc, Tt, N)) (q0 : Nat) (he : w[q0]? = some (a, .inr (ci, fs))) (k : Nat) (hk : k < N) (hlk : Cond.fieldLink own index ref (Tt k).2.1 (Tt k).2.2.1 ∈ gW) (hr : (Tt k).1 = ref) (hv : fs[k]? = some v) (d : decode cc pc = .ok (.getfield index, 3)) (kk : An X nL w cs ss (pc + 3) lv (v :: st)) : An X nL w cs ss pc lv (.ref a :: st) := by
  obtain ⟨p, l, e, R, s, m, args, below, meth, c, Q, D, A, c9, s9⟩ := X
  obtain ⟨hx, hb, hml, hown, hts, hK, hN, hRf, hRl, hRc, hRs, hA, hin, hl0, hD0⟩ := C
  intro H locs ls hl hP hD hS
  subst hr
  exact va_get hx hb hts hi hown hK hP q0 he hc k hk (hts _ hlk) (fun _ h9 => h9) hv d (kk H locs ls hl hP hD hS)
theorem an_put {Cc ref : String} {Tt : u_T} {N ci index a : Nat} {fs : List Value} {v : Value} {ty : FieldType} (C : Cn X l0 D0 T cc own nL fr lo cN sN) (hi : ∀ w ∈ u_ws Cc Tt N, w ∈ gW) (ty0 : Nat → FieldType) (hty : ∀ k, k < N → parseFieldDescriptor (Tt k).2.2.1 = some (ty0 k)) (hnm : ∀ a, a < N → ∀ b, b < N → a ≠ b → (Tt a).2.1 ≠ (Tt b).2.1) (hc : vwCl[ci]? = some (Cc, Tt, N)) (q0 : Nat) (he : w[q0]? = some (a, .inr (ci, fs))) (k : Nat) (hk : k < N) (hlk : Cond.fieldLink own index ref (Tt k).2.1 (Tt k).2.2.1 ∈ gW) (hr : (Tt k).1 = ref) (hfin : (Tt k).2.2.2 = false) (hd : parseFieldDescriptor (Tt k).2.2.1 = some ty) (hn : narrow ty v = v) (hfit : fits ty v = true) (hlen : k < fs.length) (hw : w.set q0 (a, .inr (ci, fs.set k v)) = w2) (d : decode cc pc = .ok (.putfield index, 3)) (kk : An X nL w2 cs ss (pc + 3) lv st) : An X nL w cs ss pc lv (v :: .ref a :: st) := by
  obtain ⟨p, l, e, R, s, m, args, below, meth, c, Q, D, A, c9, s9⟩ := X
  obtain ⟨hx, hb, hml, hown, hts, hK, hN, hRf, hRl, hRc, hRs, hA, hin, hl0, hD0⟩ := C
  intro H locs ls hl hP hD hS
  subst hr
  exact va_put hx hb hts hi ty0 hty hnm hown hK hP hD hS q0 he hc k hk (hts _ hlk) (fun _ h9 => h9) hfin hd hn hfit hlen d (fun H1 locs1 hP1 hD1 hS1 => kk H1 locs1 ls hl (hw ▸ hP1) (hw ▸ hD1) hS1)
theorem an_putF {Cc ref : String} {Tt : u_T} {N ci index a : Nat} {fs : List Value} {v : Value} {ty : FieldType} (C : Cn X l0 D0 T cc own nL fr lo cN sN) (hi : ∀ w ∈ u_ws Cc Tt N, w ∈ gW) (ty0 : Nat → FieldType) (hty : ∀ k, k < N → parseFieldDescriptor (Tt k).2.2.1 = some (ty0 k)) (hnm : ∀ a, a < N → ∀ b, b < N → a ≠ b → (Tt a).2.1 ≠ (Tt b).2.1) (hc : vwCl[ci]? = some (Cc, Tt, N)) (q0 : Nat) (he : w[q0]? = some (a, .inr (ci, fs))) (k : Nat) (hk : k < N) (hlk : Cond.fieldLink own index ref (Tt k).2.1 (Tt k).2.2.1 ∈ gW) (hr : (Tt k).1 = ref) (hfin : (Tt k).2.2.2 = true) (hdecl : (Tt k).1 = own) (hd : parseFieldDescriptor (Tt k).2.2.1 = some ty) (hn : narrow ty v = v) (hfit : fits ty v = true) (hlen : k < fs.length) (hw : w.set q0 (a, .inr (ci, fs.set k v)) = w2) (d : decode cc pc = .ok (.putfield index, 3)) (kk : An X nL w2 cs ss (pc + 3) lv st) : An X nL w cs ss pc lv (v :: .ref a :: st) := by
  obtain ⟨p, l, e, R, s, m, args, below, meth, c, Q, D, A, c9, s9⟩ := X
  obtain ⟨hx, hb, hml, hown, hts, hK, hN, hRf, hRl, hRc, hRs, hA, hin, hl0, hD0⟩ := C
  intro H locs ls hl hP hD hS
  subst hr
  exact va_putF hx hb hts hi ty0 hty hnm hown hK hP hD hS q0 he hc k hk (hts _ hlk) (fun _ h9 => h9) hfin hin hdecl hd hn hfit hlen d (fun H1 locs1 hP1 hD1 hS1 => kk H1 locs1 ls hl (hw ▸ hP1) (hw ▸ hD1) hS1)
theorem an_iast {a n : Nat} {f : Nat → Int32} {i x : Int32} (C : Cn X l0 D0 T cc own nL fr lo cN sN) (q0 : Nat) (he : w[q0]? = some (a, .inl (T.1, n, .inl f))) (hi : vp_in i n) (hw : w.set q0 (a, .inl (T.1, n, .inl (upd f i.toNatClampNeg x))) = w2) (d : decode cc pc = .ok (.iastore, 1)) (kk : An X nL w2 cs ss (pc + 1) lv st) : An X nL w cs ss pc lv (.int x :: .int i :: .ref a :: st) := by
  obtain ⟨p, l, e, R, s, m, args, below, meth, c, Q, D, A, c9, s9⟩ := X
  obtain ⟨hx, hb, hml, hown, hts, hK, hN, hRf, hRl, hRc, hRs, hA, hin, hl0, hD0⟩ := C
  intro H locs ls hl hP hD hS
  exact va_iast hx hb hK hP hD hS q0 0 he rfl hi d (fun H1 locs1 hP1 hD1 hS1 => kk H1 locs1 ls hl (hw ▸ hP1) (hw ▸ hD1) hS1)
theorem an_zast {a n : Nat} {f : Nat → Int32} {i x : Int32} (C : Cn X l0 D0 T cc own nL fr lo cN sN) (q0 : Nat) (he : w[q0]? = some (a, .inl (T.2.1, n, .inl f))) (hi : vp_in i n) (hw : w.set q0 (a, .inl (T.2.1, n, .inl (upd f i.toNatClampNeg (vp_nar .boolean x)))) = w2) (d : decode cc pc = .ok (.bastore, 1)) (kk : An X nL w2 cs ss (pc + 1) lv st) : An X nL w cs ss pc lv (.int x :: .int i :: .ref a :: st) := by
  obtain ⟨p, l, e, R, s, m, args, below, meth, c, Q, D, A, c9, s9⟩ := X
  obtain ⟨hx, hb, hml, hown, hts, hK, hN, hRf, hRl, hRc, hRs, hA, hin, hl0, hD0⟩ := C
  intro H locs ls hl hP hD hS
  exact va_zast hx hb hK hP hD hS q0 1 he rfl hi d (fun H1 locs1 hP1 hD1 hS1 => kk H1 locs1 ls hl (hw ▸ hP1) (hw ▸ hD1) hS1)
theorem an_newi {n : Int32} {N : Nat} (C : Cn X l0 D0 T cc own nL fr lo cN sN) (ha : Cond.arrayClass .int ∈ gW) (hn : ¬ n < 0) (hNn : n.toNatClampNeg = N) (hby : N * componentBytes .int ≤ 536870912) (hcs : cs + 1 ≤ cN) (hss : ss + N ≤ sN) (d : decode cc pc = .ok (.newarray .int, 2)) (kk : ∀ q : Nat, An X nL (w ++ [(q, .inl (T.1, N, .inl (fun _ => 0)))]) (cs + 1) (ss + N) (pc + 2) lv (.ref q :: st)) : An X nL w cs ss pc lv (.int n :: st) := by
  obtain ⟨p, l, e, R, s, m, args, below, meth, c, Q, D, A, c9, s9⟩ := X
  obtain ⟨hx, hb, hml, hown, hts, hK, hN, hRf, hRl, hRc, hRs, hA, hin, hl0, hD0⟩ := C
  intro H locs ls hl hP hD hS
  refine va_newa (atype := .int) hx hb (hts _ ha) (ty := .int) rfl hK hP hD hS hA (a0 := (N, .inl (fun _ => 0))) (fun cA => rfl) hn hNn hby (by rw [hRc]; exact hcs) (by rw [hRs]; exact hss) d (fun q cA H1 hK1 hP1 hD1 hS1 => ?_)
  have e1 : cA = T.1 := va_K_same hK1 (i := 3) (j := 0) rfl rfl (fun C h => by cases h)
  subst e1
  exact kk q H1 locs ls hl hP1 hD1 hS1
theorem an_newz {n : Int32} {N : Nat} (C : Cn X l0 D0 T cc own nL fr lo cN sN) (ha : Cond.arrayClass .boolean ∈ gW) (hn : ¬ n < 0) (hNn : n.toNatClampNeg = N) (hby : N * componentBytes .boolean ≤ 536870912) (hcs : cs + 1 ≤ cN) (hss : ss + N ≤ sN) (d : decode cc pc = .ok (.newarray .boolean, 2)) (kk : ∀ q : Nat, An X nL (w ++ [(q, .inl (T.2.1, N, .inl (fun _ => 0)))]) (cs + 1) (ss + N) (pc + 2) lv (.ref q :: st)) : An X nL w cs ss pc lv (.int n :: st) := by
  obtain ⟨p, l, e, R, s, m, args, below, meth, c, Q, D, A, c9, s9⟩ := X
  obtain ⟨hx, hb, hml, hown, hts, hK, hN, hRf, hRl, hRc, hRs, hA, hin, hl0, hD0⟩ := C
  intro H locs ls hl hP hD hS
  refine va_newa (atype := .boolean) hx hb (hts _ ha) (ty := .boolean) rfl hK hP hD hS hA (a0 := (N, .inl (fun _ => 0))) (fun cA => rfl) hn hNn hby (by rw [hRc]; exact hcs) (by rw [hRs]; exact hss) d (fun q cA H1 hK1 hP1 hD1 hS1 => ?_)
  have e1 : cA = T.2.1 := va_K_same hK1 (i := 3) (j := 1) rfl rfl (fun C h => by cases h)
  subst e1
  exact kk q H1 locs ls hl hP1 hD1 hS1
theorem an_newl {n : Int32} {N : Nat} (C : Cn X l0 D0 T cc own nL fr lo cN sN) (ha : Cond.arrayClass .long ∈ gW) (hn : ¬ n < 0) (hNn : n.toNatClampNeg = N) (hby : N * componentBytes .long ≤ 536870912) (hcs : cs + 1 ≤ cN) (hss : ss + N ≤ sN) (d : decode cc pc = .ok (.newarray .long, 2)) (kk : ∀ q : Nat, An X nL (w ++ [(q, .inl (T.2.2, N, .inr (.inl (fun _ => 0))))]) (cs + 1) (ss + N) (pc + 2) lv (.ref q :: st)) : An X nL w cs ss pc lv (.int n :: st) := by
  obtain ⟨p, l, e, R, s, m, args, below, meth, c, Q, D, A, c9, s9⟩ := X
  obtain ⟨hx, hb, hml, hown, hts, hK, hN, hRf, hRl, hRc, hRs, hA, hin, hl0, hD0⟩ := C
  intro H locs ls hl hP hD hS
  refine va_newa (atype := .long) hx hb (hts _ ha) (ty := .long) rfl hK hP hD hS hA (a0 := (N, .inr (.inl (fun _ => 0)))) (fun cA => rfl) hn hNn hby (by rw [hRc]; exact hcs) (by rw [hRs]; exact hss) d (fun q cA H1 hK1 hP1 hD1 hS1 => ?_)
  have e1 : cA = T.2.2 := va_K_same hK1 (i := 3) (j := 2) rfl rfl (fun C h => by cases h)
  subst e1
  exact kk q H1 locs ls hl hP1 hD1 hS1
theorem an_new {Cc : String} {Tt : u_T} {N ci index : Nat} {fs : List Value} (C : Cn X l0 D0 T cc own nL fr lo cN sN) (hi : ∀ w ∈ u_ws Cc Tt N, w ∈ gW) (ty0 : Nat → FieldType) (hty : ∀ k, k < N → parseFieldDescriptor (Tt k).2.2.1 = some (ty0 k)) (hcl : Cond.classLink own index Cc ∈ gW) (hins : Cond.instantiable Cc N ∈ gW) (hini : Cond.initialized Cc ∈ gW) (hc : vwCl[ci]? = some (Cc, Tt, N)) (hfs : ∀ j, j < N → defaultValue (ty0 j) = vp_V fs j) (hcs : cs + 1 ≤ cN) (hss : ss + N ≤ sN) (d : decode cc pc = .ok (.new index, 3)) (kk : ∀ q : Nat, An X nL (w ++ [(q, .inr (ci, fs))]) (cs + 1) (ss + N) (pc + 3) lv (.ref q :: st)) : An X nL w cs ss pc lv st := by
  obtain ⟨p, l, e, R, s, m, args, below, meth, c, Q, D, A, c9, s9⟩ := X
  obtain ⟨hx, hb, hml, hown, hts, hK, hN, hRf, hRl, hRc, hRs, hA, hin, hl0, hD0⟩ := C
  intro H locs ls hl hP hD hS
  exact va_new hx hb hts hi ty0 hty hown (hts _ hcl) (hts _ hins) (hts _ hini) hK hP hD hS hA hc hfs (by rw [hRc]; exact hcs) (by rw [hRs]; exact hss) d (fun q H1 hP1 hD1 hS1 => kk q H1 locs ls hl hP1 hD1 hS1)
end ANR
/-- a constructor's contract: over the cells w0 (its own object), it leaves the cells 'B u' (u: where the new cells lie) -/
def PcN (D : va_G) (T : TT) (av : List Value) (w0 : va_W) (sz : Nat) : Array Value → State → Prop := va_Pc av (fun U => U.heap.size = sz ∧ va_P D vwCl w0 U.heap ∧ va_K D vwCl (tyL T) U ∧ (∀ w ∈ nW, va_Nw w U) ∧ va_D (fun _ => True) w0)
def BN (D : va_G) (A : Nat → Prop) (B : (Nat → Nat) → va_W) : (Nat → Nat) → State → Prop := fun u t => va_P D vwCl (B u) t.heap ∧ va_D A (B u)
def Kn (l : Launch) (D : va_G) (T : TT) (y : MethodName) (bytes : ByteArray) (maxL : Nat) (rm : Room) (av : List Value) (w0 : va_W) (B : (Nat → Nat) → va_W) (mc ms : Nat) : Prop := ∀ sz : Nat, Met l y (.code y bytes maxL none :: gW) rm (PcN D T av w0 sz) (va_Qv (fun _ : Nat → Nat => True) (BN D (va_A w0 sz) B) (va_A w0 sz)) mc ms (va_A w0 sz)
theorem PcN_blind (D : va_G) (T : TT) (av : List Value) (w0 : va_W) (sz : Nat) : FrameBlind (PcN D T av w0 sz) := fun a U g mk q => by
  obtain ⟨q0, q1, q2, q3, q4, q5⟩ := q
  exact ⟨q0, q1, q2, va_K.moved (u := U) (U := U.calling g mk a) (Vm.Alike.refl U.vm) q3, fun w hw => va_Nw.same (u := U) (U := U.calling g mk a) (nW_tab w hw) rfl (q4 w hw), q5⟩
section ANC
variable {X : XT} {l0 : Launch} {D0 : va_G} {T : TT} {cc : ByteArray} {own : String} {nL fr lo cN sN : Nat} {w : va_W} {cs ss pc : Nat} {lv : List (Nat × Value)} {st : List Value}
theorem an_callIN {y : MethodName} {bytes : ByteArray} {maxL n index b mc ms : Nat} {rm : Room} {As rest : List Value} {host : String} {wc wr : va_W} {B : (Nat → Nat) → va_W} (C : Cn X l0 D0 T cc own nL fr lo cN sN) (hM : Kn l0 D0 T y bytes maxL rm (.ref b :: As) wc B mc ms) (ok : okM y bytes maxL none n) (hlk : Cond.methodLinkNest own index y host ∈ nW) (hy1 : y.name = "<init>") (hi : Cond.instanceMethod y ∈ gW) (isC isR : List Nat) (hC : isC.map (fun i => w[i]?) = wc.map some) (hR : isR.map (fun i => w[i]?) = wr.map some) (hnd : va_nd isR = true) (hndc : va_nd isC = true) (hdis : ∀ i ∈ isR, i ∉ isC) (hrm : rm.cells = mc ∧ rm.slots = ms ∧ rm.frames + 1 ≤ fr ∧ 8 + (maxL + 11) + rm.locals ≤ lo) (hcs : cs + mc ≤ cN) (hss : ss + ms ≤ sN) (hn : As.length = n) (hst : st = As.reverse ++ .ref b :: rest) (hW : (rest.map fun v => v.category).sum ≤ 8) (d : decode cc pc = .ok (.invokespecial index, 3)) (kk : ∀ u : Nat → Nat, An X nL (wr ++ B u) (cs + mc) (ss + ms) (pc + 3) lv rest) : An X nL w cs ss pc lv st := by

  obtain ⟨p, l, e, R, s, m, args, below, meth, c, Q, D, A, c9, s9⟩ := X
  obtain ⟨hx, hb, hml, hown, hts, hK, hN, hRf, hRl, hRc, hRs, hA, hin, hl0, hD0⟩ := C
  intro H locs ls hl hP hD hS
  subst hRf; subst hRl; subst hst; subst hRc; subst hRs; subst hl0; subst hD0
  obtain ⟨o1, o2, o3⟩ := ok
  obtain ⟨m1, m2, m3, m4⟩ := hrm
  have hPc : va_P D vwCl wc H := by
    intro k q hq
    have h1 : (isC.map (fun i => w[i]?))[k]? = some (some q) := by rw [hC, List.getElem?_map, hq]; rfl
    rw [List.getElem?_map] at h1
    cases hi2 : isC[k]? with
    | none => rw [hi2] at h1; cases h1
    | some i => rw [hi2] at h1; exact hP i q (Option.some.inj h1)
  have hDc : va_D (fun _ => True) wc := (hD.sub isC hndc hC).weaken (fun _ _ _ _ => trivial)
  have hFc := va_free (wc := wc) hD hS hA isC hC
  refine va_callv (va_runIN (As := As) (rest := rest) ⟨hx, hb, hml, hown, hts⟩ (hM H.size) ⟨va_cnB n hts (gW_ws o1) rfl m1 m2 (hN _ hlk) (hts _ o2) o3 ⟨m3, m4⟩, hy1, hts _ hi⟩ ⟨PcN_blind _ _ _ _ _, fun U hU hW2 => ⟨rfl, by rw [hU], by rw [hU]; exact hPc, va_K.moved hW2.alike hK, fun w hw => nW_warm hW2 w hw (hN w hw), hDc⟩⟩ rfl hn hl.1 rfl (lv_room hW) d ⟨hcs, hss⟩) hS (fun q _ h => hFc q h) hFc (fun u t H1 locs1 ht _ _ hB _ hk1 hS1 => ?_)
  obtain ⟨hP1, hD1⟩ := hB
  rw [ht] at hP1
  obtain ⟨hP2, hD2⟩ := va_join (wr := wr) (w1 := B u) hP hD isC isR hC hR hnd hdis hk1 hFc hP1 hD1
  exact kk u H1 locs1 ls hl hP2 hD2 hS1
end ANC
theorem st_MN {l : Launch} {D : va_G} {T : TT} {y : MethodName} {cc : ByteArray} {nL fr lo mc ms : Nat} {rm : Room} {av : List Value} {w0 : va_W} {B : (Nat → Nat) → va_W} {lv0 : List (Nat × Value)} {own : String} (hy : plainName y.cls = true) (hyn : y.name = "<init>") (hro : rm.frames = fr ∧ rm.locals = lo ∧ rm.cells = mc ∧ rm.slots = ms) (ho : y.cls = own) (hn : (lg_sl av).length ≤ nL) (hlv : lv_args 0 av = lv0)
    (body : ∀ X : XT, Cn X l D T cc own nL fr lo mc ms → (∀ (pc : Nat) (lv : List (Nat × Value)) (u : Nat → Nat), decode cc pc = .ok (.return_, 1) → An X nL (B u) mc ms pc lv []) → An X nL w0 0 0 0 lv0 []) : Kn l D T y cc nL rm av w0 B mc ms := by
  intro sz
  refine Met.ofW (cc := cc) (maxL := nL) (ret := none) hy rfl ?_
  intro p e s m args below meth c s₁ B0 hml hv
  obtain ⟨rfl, hsz, hP, hK, hN, hD0⟩ := hv
  have hx := B0.exec
  have hb := B0.bytes
  have hr := B0.returns
  have hts0 := atoms_spec (ws := Cond.code y cc nL none :: gW) B0.pre
  have hown : s.vm.findClass own = some m.cls := by rw [← ho]; exact findClass_of_methodNamed B0.named
  have hlocks := B0.notSynchronized
  have hin : meth.name = "<init>" := (name_of_methodNamed B0.named B0.method).1.trans hyn
  subst hsz
  have hl := lv_entry av (n := nL) hn
  rw [lg_entry_eq]
  rw [hlv] at hl
  refine body (p, l, e, rm, s, m, av.toArray, below, meth, c, MQ below (va_Qv (fun _ : Nat → Nat => True) (BN D (va_A w0 s.heap.size) B) (va_A w0 s.heap.size)) av.toArray s mc ms (va_A w0 s.heap.size), D, va_A w0 s.heap.size, 0, 0) ⟨hx, hb, hml, hown, fun w hw => hts0 w (List.mem_cons_of_mem _ hw), hK, hN, hro.1, hro.2.1, hro.2.2.1, hro.2.2.2, fun q h => Or.inr h, hin, rfl, rfl⟩ ?_ s.heap [] _ hl hP (hD0.self) va_S.rf
  intro pc lv u d H locs ls hl hP hD hS
  exact W.vret hx hb hr (fun t ht hW => ⟨⟨u, rfl, trivial, by show va_P _ _ _ _; rw [ht]; exact hP, hD⟩, hS.F ht⟩) hS.2.2 d hlocks
