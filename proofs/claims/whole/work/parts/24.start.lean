/-! THE CLAIM OUT OF ONE WALK OF THE LAW'S BODY. Your part is whole_start (and what it stands on); all else here is the same for every law, but numbers. -/
def R_law : String := "HawkRidgeLaw"
def lw_P (b : Addr) (xs : List Int32) (args : Array Value) (s : State) : Prop := args = #[.ref b] ∧ s.IntsAt b xs ∧ xs.length ≤ 3072 ∧ (Jvm.Cond.and given_1 narrow_1).before args s = true
def lw_Q (_ : Array Value) (s : State) (o : Outcome) (t : State) : Prop := o = .returned (some (.int 1)) ∧ Framed s o t [] 601024 7293034
def lw_Z (below : List Frame) (a : Array Value) (s : State) : State → Prop := fun t => ∃ o, t.status = .running ∧ Ended t below o ∧ lw_Q a s o t
/-- the law's own end, with 1 on the stack, nothing written that was there before, its room as the claim has it -/
theorem lw_ret {p : Program} {l : Launch} {e : Env} {s : State} {m : MethodId} {below : List Frame} {meth : Method} {c : Code} {b : Nat} (hx : p.tables.exec = Jvm.exec) (hb : c.code = code) (hr : meth.sig.returnType = ret) (hlocks : meth.locks = false) {pc : Nat} {H : Heap} {ls : Array Slot} (hdg : decode code pc = .ok (.ireturn, 1)) : W p l e room_1 s m #[Value.ref b] below meth c H [] 601024 7293034 (lw_Z below #[Value.ref b] s) (F0 m pc ls [.int 1]) := by
  intro T hT X
  obtain ⟨fs, hret, hrun, hended, hW, hframe⟩ := X.leave (v := some (.int 1)) (hlocks := hlocks) (fun h => by rw [hr] at h; cases h)
  have hmeth' : T.vm.method? m = some meth := X.method'
  refine ⟨T.setFrames fs, ?_, .returned (some (.int 1)), hrun, hended, rfl, ⟨_, rfl⟩, hW, hframe⟩
  jvm_step X.here [X.here.top, hx, hb, hdg, hmeth', hr, ret, narrow_b1]
  (try refine ⟨rfl, ?_⟩); (try refine ⟨rfl, ?_⟩)
  first | (intro acts; rw [hret _ acts rfl rfl rfl]) | rw [hret _ _ rfl rfl rfl]
  exact Steps.refl _
/-- what holds at the law's entry: the machine, the code, the tables' words (any of lw_tbl by 'hts w (by decide +kernel)'), the script of L ints xs at the cell b, what the Statement gives of the start (any of its parts by flat_of_before) -/
def lw_At (p : Program) (s : State) (m : MethodId) (meth : Method) (c : Code) (b L : Nat) (xs : Nat → Int32) : Prop :=
  p.tables.exec = Jvm.exec ∧ c.code = code ∧ meth.sig.returnType = ret ∧ c.maxLocals = 7 ∧ s.vm.findClass R_law = some m.cls ∧ (∀ w ∈ lw_tbl, w.before #[Value.ref b] s = true) ∧ va_X b L xs s s.heap ∧ b < s.heap.size ∧ meth.locks = false ∧ (Jvm.Cond.and given_1 narrow_1).before #[Value.ref b] s = true
theorem mt_X8 : Cond.instantiable RX8 10 ∈ gW := gW_in 99 (by decide +kernel) (by decide +kernel)
theorem mt_X9 : Cond.instantiable RX9 34 ∈ gW := gW_in 742 (by decide +kernel) (by decide +kernel)
theorem mk_L_8 : Cond.classLink RL 8 RX8 ∈ gW := gW_in 98 (by decide +kernel) (by decide +kernel)
theorem mk_L_20 : Cond.classLink RL 20 RX9 ∈ gW := gW_in 741 (by decide +kernel) (by decide +kernel)
theorem m_L_19 : Cond.methodLink RL 19 yX8_init ∈ gW := gW_in 100 (by decide +kernel) (by decide +kernel)
theorem m_L_22 : Cond.methodLink RL 22 yX9_init ∈ gW := gW_in 743 (by decide +kernel) (by decide +kernel)
theorem mi_X8_init : Cond.instanceMethod yX8_init ∈ gW := gW_in 101 (by decide +kernel) (by decide +kernel)
theorem mi_X9_init : Cond.instanceMethod yX9_init ∈ gW := gW_in 744 (by decide +kernel) (by decide +kernel)
theorem mz_Thr : Cond.initialized Bundle.tN ∈ gW := gW_in 94 (by decide +kernel) (by decide +kernel)
theorem mls1 : Cond.laysStatic Bundle.tN "UNASSIGNED_STACK" Bundle.steD ∈ lw_tbl := by decide +kernel
theorem mls2 : Cond.laysStatic Bundle.tN "SUPPRESSED_SENTINEL" Bundle.listD ∈ lw_tbl := by decide +kernel
theorem arr_K {args : Array Value} {s : State} {ty : FieldType} (hp : ∀ C, ty ≠ .object C) (h : (Cond.arrayClass ty).before args s = true) : ∃ c : ClassId, ArrOfT s c ty ∧ va_RA s c ty := by
  obtain ⟨cA, kA, comp, hfind, hk, hkind⟩ := Cond.arrayClass_spec h
  refine ⟨cA, fun n z => ⟨fun k h => (by cases h), kA, hk, comp, hkind⟩, ?_⟩
  cases ty with
  | object C => exact absurd rfl (hp C)
  | _ => exact hfind
set_option maxRecDepth 100000 in
set_option maxHeartbeats 8000000 in
theorem whole_start_open {p : Program} {e : Env} {s : State} {m : MethodId} {below : List Frame} {meth : Method} {c : Code} (l : Launch) (hst : l.stackTraces = false) {Rel : St → SM → Prop} (hSim : Sim Rel) (hinit : Rel s0C s0M) {b L : Nat} {xs : Nat → Int32} (hL : L ≤ 3072) (C0 : lw_At p s m meth c b L xs) : W p l e room_1 s m #[Value.ref b] below meth c s.heap [] 0 0 (lw_Z below #[Value.ref b] s) (entryFrame m ([Value.ref b] : List Value).toArray 7) := by
  obtain ⟨hx, hb, hr, hml, hown, hts, hX, hbl, hlocks, hgv⟩ := id C0
  have hA : ∀ q : Nat, s.heap.size ≤ q → (fun q : Nat => s.heap.size ≤ q) q := fun _ h => h
  have hbA : ¬ (fun q : Nat => s.heap.size ≤ q) b := Nat.not_le.mpr hbl
  have htg : ∀ w ∈ gW, w.before #[Value.ref b] s = true := fun w hw => hts w (List.mem_filter.mp hw).1
  have hN : ∀ w ∈ nW, va_Nw w s := fun w hw => va_Nw.of (nW_tab w hw) (hts w (List.mem_filter.mp hw).1)
  have hcW : ∀ w ∈ cW, va_Nw w s := fun w hw => va_Nw.of (cW_tab w hw) (hts w (List.mem_filter.mp hw).1)
  have hZ : Zst (fun q : Nat => s.heap.size ≤ q) s := ⟨vx_Zqof (hts _ mls1) (htg _ mz_Thr) (flat_of_before _ hgv _ (by decide +kernel)) (fun a h => Nat.not_le.mpr h), vx_Zqof (hts _ mls2) (htg _ mz_Thr) (flat_of_before _ hgv _ (by decide +kernel)) (fun a h => Nat.not_le.mpr h)⟩
  obtain ⟨c0, i0, n0⟩ := u_known (C := RX0) (T := TX0) (N := 11) (n := 11) htg ingX0 (htg _ mt_X0)
  obtain ⟨c1, i1, n1⟩ := u_known (C := RX1) (T := TX1) (N := 5) (n := 5) htg ingX1 (htg _ mt_X1)
  obtain ⟨c2, i2, n2⟩ := u_known (C := RX2) (T := TX2) (N := 7) (n := 7) htg ingX2 (htg _ mt_X2)
  obtain ⟨c3, i3, n3⟩ := u_known (C := RX3) (T := TX3) (N := 9) (n := 9) htg ingX3 (htg _ mt_X3)
  obtain ⟨c4, i4, n4⟩ := u_known (C := RX4) (T := TX4) (N := 3) (n := 3) htg ingX4 (htg _ mt_X4)
  obtain ⟨c5, i5, n5⟩ := u_known (C := RX5) (T := TX5) (N := 4) (n := 4) htg ingX5 (htg _ mt_X5)
  obtain ⟨c6, i6, n6⟩ := u_known (C := RX6) (T := TX6) (N := 2) (n := 2) htg ingX6 (htg _ mt_X6)
  obtain ⟨c7, i7, n7⟩ := u_known (C := RX7) (T := TX7) (N := 2) (n := 2) htg ingX7 (htg _ mt_X7)
  obtain ⟨c8, i8, n8⟩ := u_known (C := RX8) (T := TX8) (N := 10) (n := 10) htg ingX8 (htg _ mt_X8)
  obtain ⟨c9, i9, n9⟩ := u_known (C := RX9) (T := TX9) (N := 34) (n := 34) htg ingX9 (htg _ mt_X9)
  obtain ⟨dC, dI, hKc⟩ : ∃ (dC : Nat → ClassId) (dI : Nat → Nat → Nat), ∀ (k : Nat) (q : vw_C), vwCl[k]? = some q → u_Kn s q.1 q.2.1 q.2.2 (dC k) (dI k) := by
    refine ⟨fun k => [c0, c1, c2, c3, c4, c5, c6, c7, c8, c9].getD k c0, fun k => [i0, i1, i2, i3, i4, i5, i6, i7, i8, i9].getD k i0, ?_⟩
    intro k q hq
    match k, hq with
    | 0, hq => cases hq; exact n0
    | 1, hq => cases hq; exact n1
    | 2, hq => cases hq; exact n2
    | 3, hq => cases hq; exact n3
    | 4, hq => cases hq; exact n4
    | 5, hq => cases hq; exact n5
    | 6, hq => cases hq; exact n6
    | 7, hq => cases hq; exact n7
    | 8, hq => cases hq; exact n8
    | 9, hq => cases hq; exact n9
    | k + 10, hq => simp [vwCl] at hq
  obtain ⟨cI, gI⟩ := arr_K (ty := .int) (fun C h => by cases h) (htg _ ma_I)
  obtain ⟨cZ, gZ⟩ := arr_K (ty := .boolean) (fun C h => by cases h) (htg _ ma_Z)
  obtain ⟨cJ, gJ⟩ := arr_K (ty := .long) (fun C h => by cases h) (htg _ ma_J)
  obtain ⟨T, hT⟩ : ∃ T : TT, T = (cI, cZ, cJ) := ⟨_, rfl⟩
  have hK : va_K (dC, dI) vwCl (tyL T) s := by
    refine ⟨hKc, fun k q h => ?_⟩
    subst hT
    match k, h with
    | 0, h => cases h; exact gI
    | 1, h => cases h; exact gZ
    | 2, h => cases h; exact gJ
    | k + 3, h => simp [tyL] at h
  have hS : va_S (fun q : Nat => s.heap.size ≤ q) s.heap s.heap [] := va_S.rf
  have hP : va_P (dC, dI) vwCl [] s.heap := fun k q h => by simp at h
  have hD : va_D (fun q : Nat => s.heap.size ≤ q) [] := ⟨fun i j p q h => by simp at h, fun k q h => by simp at h⟩
  have hl := lv_entry ([.ref b]) (n := 7) (Nat.le_of_ble_eq_true rfl)
  rw [lg_entry_eq]
  generalize (lg_sl ([.ref b]) ++ List.replicate (7 - (lg_sl ([.ref b])).length) Slot.unset).toArray = ls at hl ⊢
  have hl : lv_has ls 7 [(0, .ref b)] := hl
  refine va_new (ci := 8) (fs := [.null, .null, .null, .null, .null, .null, .null, .null, .int 0, .int 0]) (C := RX8) (T := TX8) (N := 10) hx hb htg ingX8 tyX8 tyX8_ok hown (htg _ mk_L_8) (htg _ mt_X8) (htg _ mz_RX8) hK hP hD hS hA rfl (by decide +kernel) (Nat.le_of_ble_eq_true rfl) (Nat.le_of_ble_eq_true rfl) dL_law_0 (fun q0 H hP hD hS => ?_)
  have hP : va_P (dC, dI) vwCl [(q0, .inr (8, [.null, .null, .null, .null, .null, .null, .null, .null, .int 0, .int 0]))] H := hP
  have hD : va_D (fun q : Nat => s.heap.size ≤ q) [(q0, .inr (8, [.null, .null, .null, .null, .null, .null, .null, .null, .int 0, .int 0]))] := hD
  refine W.widen (k := 1) (n := 10) (by omega) (by omega) ?_
  refine lv_dup hx hb dL_law_3 rfl ?_
  have hFc := va_free (wc := [(q0, .inr (8, [.null, .null, .null, .null, .null, .null, .null, .null, .int 0, .int 0]))]) hD hS hA [0] rfl
  refine va_callv (va_runI (As := []) (rest := [.ref q0]) ⟨hx, hb, hml, hown, htg⟩ (kX8_init l (dC, dI) T q0 H.size) ⟨callB_of 0 htg (gW_ws ok_X8_init.1) rfl rfl rfl (htg _ mz_RX8) (htg _ m_L_19) ok_X8_init.2.2 ⟨Nat.le_of_ble_eq_true rfl, Nat.le_of_ble_eq_true rfl⟩, rfl, htg _ mi_X8_init⟩ ⟨PcN_blind _ _ _ _ _, fun U hU hW => ⟨rfl, by rw [hU], by rw [hU]; exact hP, va_K.moved hW.alike hK, fun w hw => nW_warm hW w hw (hN w hw), hD.weaken (fun _ _ _ _ => trivial)⟩⟩ rfl rfl hl.1 rfl (lv_room (Nat.le_of_ble_eq_true rfl)) dL_law_4 ⟨Nat.le_of_ble_eq_true rfl, Nat.le_of_ble_eq_true rfl⟩) hS (fun q _ h => hFc q h) hFc (fun v8 t H1 locs ht hvm _ hB hz1 hk1 hS => ?_)
  obtain ⟨hP1, hD1⟩ := hB
  rw [ht] at hP1
  obtain ⟨hP, hD⟩ := va_join (wr := []) (w1 := BX8 T q0 v8) hP hD [0] [] rfl rfl (by decide) (by decide) hk1 hFc hP1 hD1
  have hP : va_P (dC, dI) vwCl (BX8 T q0 v8) H1 := hP
  have hD : va_D (fun q : Nat => s.heap.size ≤ q) (BX8 T q0 v8) := hD
  have hP := va_P_at hP [0, 39, 1, 2, 3, 4, 5, 6, 7, 8, 9, 10, 11, 12, 13, 14, 15, 16, 17, 24, 25, 26, 27, 28, 29, 30, 18, 19, 20, 21, 22, 23, 31, 32, 33, 34, 35, 36, 37, 38] (B8_at T q0 v8)
  have hD := hD.sub [0, 39, 1, 2, 3, 4, 5, 6, 7, 8, 9, 10, 11, 12, 13, 14, 15, 16, 17, 24, 25, 26, 27, 28, 29, 30, 18, 19, 20, 21, 22, 23, 31, 32, 33, 34, 35, 36, 37, 38] (by decide) (B8_at T q0 v8)
  generalize hade : adC q0 v8 = ad at hP hD
  have ha0 : ad 0 = q0 := by rw [← hade]; rfl
  generalize H1 = H at hP hS ⊢
  refine W.widen (k := 40) (n := 3833) (by decide) (by decide) ?_
  refine lv_astore_n (lv' := [(1, .ref q0), (0, .ref b)]) hx hb dL_law_7 rfl hl (by decide) rfl (fun ls hl => ?_)
  refine va_new (ci := 9) (fs := [.int 0, .int 0, .null, .int 0, .null, .null, .null, .int 0, .int 0, .int 0, .null, .null, .null, .null, .null, .null, .null, .null, .null, .null, .int 0, .int 0, .null, .null, .null, .null, .null, .null, .null, .null, .null, .null, .null, .null]) (C := RX9) (T := TX9) (N := 34) hx hb htg ingX9 tyX9 tyX9_ok hown (htg _ mk_L_20) (htg _ mt_X9) (htg _ mz_RX9) hK hP hD hS hA rfl (by decide +kernel) (Nat.le_of_ble_eq_true rfl) (Nat.le_of_ble_eq_true rfl) dL_law_8 (fun q2 H hP hD hS => ?_)
  refine W.widen (k := 41) (n := 3867) (by decide) (by decide) ?_
  refine lv_dup hx hb dL_law_11 rfl ?_
  have hCp : ([40] : List Nat).map (fun i => (wC T ad s0C ++ [(q2, .inr (9, [.int 0, .int 0, .null, .int 0, .null, .null, .null, .int 0, .int 0, .int 0, .null, .null, .null, .null, .null, .null, .null, .null, .null, .null, .int 0, .int 0, .null, .null, .null, .null, .null, .null, .null, .null, .null, .null, .null, .null]))])[i]?) = ([(q2, .inr (9, [.int 0, .int 0, .null, .int 0, .null, .null, .null, .int 0, .int 0, .int 0, .null, .null, .null, .null, .null, .null, .null, .null, .null, .null, .int 0, .int 0, .null, .null, .null, .null, .null, .null, .null, .null, .null, .null, .null, .null]))] : va_W).map some := rfl
  have hRp : ([0, 1, 2, 3, 4, 5, 6, 7, 8, 9, 10, 11, 12, 13, 14, 15, 16, 17, 18, 19, 20, 21, 22, 23, 24, 25, 26, 27, 28, 29, 30, 31, 32, 33, 34, 35, 36, 37, 38, 39] : List Nat).map (fun i => (wC T ad s0C ++ [(q2, .inr (9, [.int 0, .int 0, .null, .int 0, .null, .null, .null, .int 0, .int 0, .int 0, .null, .null, .null, .null, .null, .null, .null, .null, .null, .null, .int 0, .int 0, .null, .null, .null, .null, .null, .null, .null, .null, .null, .null, .null, .null]))])[i]?) = (wC T ad s0C).map some := rfl
  have hFc := va_free (wc := [(q2, .inr (9, [.int 0, .int 0, .null, .int 0, .null, .null, .null, .int 0, .int 0, .int 0, .null, .null, .null, .null, .null, .null, .null, .null, .null, .null, .int 0, .int 0, .null, .null, .null, .null, .null, .null, .null, .null, .null, .null, .null, .null]))]) hD hS hA [40] hCp
  have hPc := va_P_at hP [40] hCp
  have hDc := hD.sub [40] (by decide) hCp
  refine va_callv (va_runI (As := []) (rest := [.ref q2]) ⟨hx, hb, hml, hown, htg⟩ (kX9_init l (dC, dI) T q2 H.size) ⟨callB_of 0 htg (gW_ws ok_X9_init.1) rfl rfl rfl (htg _ mz_RX9) (htg _ m_L_22) ok_X9_init.2.2 ⟨Nat.le_of_ble_eq_true rfl, Nat.le_of_ble_eq_true rfl⟩, rfl, htg _ mi_X9_init⟩ ⟨PcN_blind _ _ _ _ _, fun U hU hW => ⟨rfl, by rw [hU], by rw [hU]; exact hPc, va_K.moved hW.alike hK, fun w hw => nW_warm hW w hw (hN w hw), hDc.weaken (fun _ _ _ _ => trivial)⟩⟩ rfl rfl hl.1 rfl (lv_room (Nat.le_of_ble_eq_true rfl)) dL_law_12 ⟨Nat.le_of_ble_eq_true rfl, Nat.le_of_ble_eq_true rfl⟩) hS (fun q _ h => hFc q h) hFc (fun v9 t H1 locs ht hvm _ hB hz1 hk1 hS => ?_)
  obtain ⟨hP1, hD1⟩ := hB
  rw [ht] at hP1
  obtain ⟨hP, hD⟩ := va_join (wr := wC T ad s0C) (w1 := BX9 T q2 v9) hP hD [40] [0, 1, 2, 3, 4, 5, 6, 7, 8, 9, 10, 11, 12, 13, 14, 15, 16, 17, 18, 19, 20, 21, 22, 23, 24, 25, 26, 27, 28, 29, 30, 31, 32, 33, 34, 35, 36, 37, 38, 39] hCp hRp (by decide) (by decide) hk1 hFc hP1 hD1
  have hpp : ([0, 1, 2, 3, 4, 5, 6, 7, 8, 9, 10, 11, 12, 13, 14, 15, 16, 17, 18, 19, 20, 21, 22, 23, 24, 25, 26, 27, 28, 29, 30, 31, 32, 33, 34, 35, 36, 37, 38, 39, 40, 41, 42, 43, 44, 45, 46, 47, 48, 49, 50, 51, 52, 53, 54, 55, 56, 57, 58, 59, 60, 61, 62, 63, 64, 65, 66] : List Nat).map (fun i => (wC T ad s0C ++ BX9 T q2 v9)[i]?) = (wC T ad s0C ++ wM T (adM q2 v9) s0M).map some := rfl
  have hP := va_P_at hP [0, 1, 2, 3, 4, 5, 6, 7, 8, 9, 10, 11, 12, 13, 14, 15, 16, 17, 18, 19, 20, 21, 22, 23, 24, 25, 26, 27, 28, 29, 30, 31, 32, 33, 34, 35, 36, 37, 38, 39, 40, 41, 42, 43, 44, 45, 46, 47, 48, 49, 50, 51, 52, 53, 54, 55, 56, 57, 58, 59, 60, 61, 62, 63, 64, 65, 66] hpp
  have hD := hD.sub [0, 1, 2, 3, 4, 5, 6, 7, 8, 9, 10, 11, 12, 13, 14, 15, 16, 17, 18, 19, 20, 21, 22, 23, 24, 25, 26, 27, 28, 29, 30, 31, 32, 33, 34, 35, 36, 37, 38, 39, 40, 41, 42, 43, 44, 45, 46, 47, 48, 49, 50, 51, 52, 53, 54, 55, 56, 57, 58, 59, 60, 61, 62, 63, 64, 65, 66] (by decide) hpp
  generalize hbde : adM q2 v9 = bd at hP hD
  have hb0 : bd 0 = q2 := by rw [← hbde]; rfl
  generalize H1 = H at hP hS ⊢
  refine W.widen (k := 67) (n := 8595) (by decide) (by decide) ?_
  refine lv_astore_n (lv' := [(2, .ref q2), (1, .ref q0), (0, .ref b)]) hx hb dL_law_15 rfl hl (by decide) rfl (fun ls hl => ?_)
  refine lv_iconst (v := 1) hx hb dL_law_16 (by decide) ?_
  refine va_newa (atype := .long) hx hb (htg _ ma_J) (ty := .long) rfl hK hP hD hS hA (a0 := (1, .inr (.inl (fun _ => 0)))) (fun cA => rfl) (by decide) (by decide) (by decide) (Nat.le_of_ble_eq_true rfl) (Nat.le_of_ble_eq_true rfl) dL_law_17 (fun o cA H hK1 hP hD hS => ?_)
  have e1 : cA = T.2.2 := va_K_same hK1 (i := 3) (j := 2) rfl rfl (fun C h => by cases h)
  subst e1
  rw [List.append_assoc] at hP hD
  have hPf : va_P (dC, dI) vwCl (W3 T ad bd o s0C s0M (fun _ => 0)) H := hP
  have hSf := hS
  have hD : va_D (fun q : Nat => s.heap.size ≤ q) (W3 T ad bd o s0C s0M (fun _ => 0)) := hD
  obtain ⟨hs3, hA3⟩ := Sep3_of hD
  refine W.widen (k := 68) (n := 8596) (by decide) (by decide) ?_
  refine lv_astore_n (lv' := [(3, .ref o), (2, .ref q2), (1, .ref q0), (0, .ref b)]) hx hb dL_law_19 rfl hl (by decide) rfl (fun ls hl => ?_)
  refine lv_iconst (v := 0) hx hb dL_law_20 (by decide) ?_
  refine lv_istore (lv' := [(4, .int 0), (3, .ref o), (2, .ref q2), (1, .ref q0), (0, .ref b)]) hx hb dL_law_21 hl (by decide) rfl (fun lsf hlf => ?_)
  subst ha0
  subst hb0
  exact law_loop (X := (p, l, e, room_1, s, m, #[Value.ref b], below, meth, c, lw_Z below #[Value.ref b] s, (dC, dI), fun q : Nat => s.heap.size ≤ q, 0, 0)) (l := l) (D := (dC, dI)) (A := fun q : Nat => s.heap.size ≤ q) (T := T) (ad := ad) (bd := bd) (o := o) (b := b) (L := L) (xf := xs) (Rel := Rel)
    (fun a c9 ha hc => ⟨hx, hb, hml, hown, htg, hK, hN, rfl, rfl, ha, hc, rfl, rfl, rfl⟩) (fun a c9 => ⟨hZ, hcW⟩) (fun a c9 ha hc => ⟨ha, hc⟩) hst hs3 hA3 ⟨hX, hbl, hbA⟩ hL hSim
    (fun a c9 w lv ha hc H locs ls hl hP hS => va_forget (fun q hq => hS.2.2 q hq) (W.widen (k := 601024) (n := 7293034) ha hc (lw_ret hx hb hr hlocks dL_law_780)))
    (L + 7) 0 68 8596 0 s0C s0M (fun _ => 0) (by omega) (Nat.zero_le _) nI_0.symm (by decide) (by decide) hinit H _ lsf (lv_sub hlf [4, 3, 2, 1, 0] rfl) hPf hSf
