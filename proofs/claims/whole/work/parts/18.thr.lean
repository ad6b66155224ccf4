/-! METHODS THAT MAY THROW (NoSuchElementException): 'KX .. post px': returns with post, or throws with px -/
abbrev NSE : String := "java/util/NoSuchElementException"
abbrev NSEn : List String := ["java/lang/RuntimeException", "java/lang/Exception"]
def Zst (A : Nat → Prop) (U : State) : Prop := vx_Zq Bundle.tN "UNASSIGNED_STACK" Bundle.steD A U U.heap ∧ vx_Zq Bundle.tN "SUPPRESSED_SENTINEL" Bundle.listD A U U.heap
def isCast (w : Cond) : Bool := match w with
  | .castable _ _ => true
  | .declares _ => true
  | _ => false
def cW : List Cond := lw_tbl.filter isCast
def PcX (K : KT) (av : List Value) (w0 : va_W) : Array Value → State → Prop := va_Pc av (fun U => va_P K.2.1 vwCl w0 U.heap ∧ va_K K.2.1 vwCl (tyL K.2.2.2) U ∧ (∀ w ∈ nW, va_Nw w U) ∧ Zst K.2.2.1 U ∧ ∀ w ∈ cW, va_Nw w U)
def XX {S : Type} (K : KT) (wf : S → va_W) (px : S → Prop) : String → State → State → Prop := vx_X px (fun E u t => E = NSE ∧ BK K wf u t) K.2.2.1
def KX {S : Type} (K : KT) (wf : S → va_W) (y : MethodName) (bytes : ByteArray) (maxL : Nat) (ret : Option FieldType) (rm : Room) (av : List Value) (w0 : va_W) (post : Int32 → S → Prop) (px : S → Prop) : Prop := vx_Met K.1 y (.code y bytes maxL ret :: gW) rm (PcX K av w0) (va_Qi post (BK K wf) K.2.2.1) (XX K wf px) 1 6 K.2.2.1
def RetE {S : Type} (X : XT) (cc : ByteArray) (nL : Nat) (wf : S → va_W) (px : S → Prop) : Prop := ∀ (pc : Nat) (lv : List (Nat × Value)) (st : List Value) (u : S), decode cc pc = .ok (.new 146, 3) → decode cc (pc + 3) = .ok (.dup, 1) → decode cc (pc + 4) = .ok (.invokespecial 148, 3) → decode cc (pc + 7) = .ok (.athrow, 1) → (st.map fun v => v.category).sum ≤ 8 → px u → At X nL (wf u) pc lv st
theorem cast_moved {a b : String} {A A' : Array Value} {s U : State} (h : s.vm.Alike U.vm) (hc : (Cond.castable a b).before A s = true) : (Cond.castable a b).before A' U = true := by
  obtain ⟨c, t, h1, h2, h3⟩ := Cond.castable_spec hc
  have e1 : U.vm.findClass a = some c := by rw [h.findClass]; exact h1
  have e2 : U.vm.findClass b = some t := by rw [h.findClass]; exact h2
  have e3 : U.vm.assignable c t = true := by rw [h.assignable]; exact h3
  simp [Cond.before, Cond.holds, Cond.value, e1, e2, e3]
theorem cW_tab : ∀ w ∈ cW, w.onTables = true := by
  intro w hw
  have h := (List.mem_filter.mp hw).2
  cases w <;> first | rfl | (exact absurd h (by simp [isCast]))
theorem cW_moved {s U : State} (h : s.WarmedH U.vm) (hc : ∀ w ∈ cW, va_Nw w s) : ∀ w ∈ cW, va_Nw w U := by
  intro w hw
  have h1 := (List.mem_filter.mp hw).2
  have h2 := hc w hw
  cases w <;> first | (exact cast_moved h.alike h2) | (exact va_Nw.warmD h h2) | (exact absurd h1 (by simp [isCast]))
theorem cW_use {s : State} {A : Array Value} (hc : ∀ w ∈ cW, va_Nw w s) : ∀ w ∈ cW, w.before A s = true := fun w hw => va_Nw.use (cW_tab w hw) (hc w hw)
theorem vx_words0 : ∀ w ∈ vx_at0 RX8 148 NSE NSEn, w ∈ gW ∨ w ∈ cW := by decide +kernel
theorem vx_words1 : Cond.classLink RX8 146 NSE ∈ gW := by decide +kernel
theorem vx_words2 : Cond.initialized NSE ∈ gW := by decide +kernel
theorem vx_words3 : ∀ w ∈ Cond.classLink RX8 146 NSE :: Cond.initialized NSE :: vx_at0 RX8 148 NSE NSEn, vx_ot w = true := by decide +kernel
theorem st_MX {S : Type} {K : KT} {wf : S → va_W} {y : MethodName} {cc : ByteArray} {nL fr lo : Nat} {rm : Room} {av : List Value} {w0 : va_W} {lv0 : List (Nat × Value)} {post : Int32 → S → Prop} {px : S → Prop} (hst : K.1.stackTraces = false) (hy : plainName y.cls = true) (hro : rm.frames = fr ∧ rm.locals = lo ∧ rm.cells = 1 ∧ rm.slots = 6) (hfr : 6 ≤ fr) (hlo : 89 ≤ lo) (ho : y.cls = RX8) (hn : (lg_sl av).length ≤ nL) (hlv : lv_args 0 av = lv0)
    (body : ∀ X : XT, Cx X K cc RX8 nL fr lo → (∀ w, va_D K.2.2.1 w → DX X w) → RetI X cc nL wf post → RetE X cc nL wf px → At X nL w0 0 lv0 []) : KX K wf y cc nL (some .int) rm av w0 post px := by
  refine vx_ofW (cc := cc) (maxL := nL) (ret := (some .int)) hy rfl ?_
  intro p e s m args below meth c s₁ B hml htab hv
  obtain ⟨rfl, hP, hK, hN, ⟨hZ1, hZ2⟩, hcast⟩ := hv
  have hx := B.exec
  have hb := B.bytes
  have hr := B.returns
  have hts0 := atoms_spec (ws := Cond.code y cc nL (some .int) :: gW) B.pre
  have hts : ∀ w ∈ gW, w.before av.toArray s = true := fun w hw => hts0 w (List.mem_cons_of_mem _ hw)
  have hown : s.vm.findClass RX8 = some m.cls := by rw [← ho]; exact findClass_of_methodNamed B.named
  have hlocks := B.notSynchronized
  have hl := lv_entry av (n := nL) hn
  rw [lg_entry_eq]
  rw [hlv] at hl
  refine body (p, K.1, e, rm, s, m, av.toArray, below, meth, c, vx_MQ below (va_Qi post (BK K wf) K.2.2.1) (XX K wf px) av.toArray s 1 6 K.2.2.1, K.2.1, K.2.2.1, 0, 0) ⟨hx, hb, hml, hown, hts, hK, hN, hro.1, hro.2.1, Nat.zero_le _, Nat.zero_le _, rfl, rfl, rfl⟩ (fun w h => h) ?_ ?_ s.heap [] _ hl hP va_S.rf
  · intro pc lv r u d hq H locs ls hl hP hS
    refine vx_ret (W.widen (k := 1) (n := 6) (Nat.zero_le _) (Nat.zero_le _) ?_)
    exact W.iret hx hb hr (fun t ht hW => ⟨⟨r, u, rfl, hq, by show va_P _ _ _ _; rw [ht]; exact hP⟩, hS.F ht⟩) hS.2.2 d hlocks
  · intro pc lv st u d0 d3 d4 d7 hsum hpx H locs ls hl hP hS
    refine vx_throw0 (own := RX8) (cls := NSE) (names := NSEn) (ik := 146) (ic := 148) hx hb hst hown (by decide +kernel) (by decide +kernel) (hts _ vx_words1) (hts _ vx_words2) (fun w hw => (vx_words0 w hw).elim (hts w) (fun h9 => cW_use hcast w h9)) vx_words3 hZ1 hZ2 hS (hl.1.trans hml.symm) d0 d3 d4 d7 (fun x hx9 => absurd hx9 (fun h => htab x h)) ?_ ?_ ?_ ?_ hlocks ?_ hS.2.2 (Nat.le_refl _) (Nat.le_refl _)
    · show _ < rm.frames
      rw [hro.1]
      exact Nat.lt_of_lt_of_le (by decide) hfr
    · show _ ≤ rm.locals
      rw [hro.2.1]
      exact Nat.le_trans (Nat.add_le_add_right hsum _) (Nat.le_trans (by decide) hlo)
    · show _ ≤ rm.cells
      rw [hro.2.2.1]
      exact Nat.le_refl _
    · show _ ≤ rm.slots
      rw [hro.2.2.2]
      exact Nat.le_refl _
    · intro t hal hsz hk
      refine ⟨u, hpx, ⟨rfl, ?_⟩, Nat.le_trans hS.1 hsz, fun q h1 h2 => (hk q (Nat.lt_of_lt_of_le h1 hS.1)).trans (hS.2.1 q h1 h2)⟩
      exact hP.kept (fun k x hx9 => hk x.1 ((hP k x hx9).lt))
theorem gC_X8_51 {X : XT} {l : Launch} {D : va_G} {ad : Nat → Nat} {T : TT} {cc : ByteArray} {nL fr lo : Nat} {σ : St} {pc : Nat} {lv : List (Nat × Value)} {st : List Value} (C : Cx X (KC l D ad T) cc RX8 nL fr lo) (d : decode cc pc = .ok (.getfield 51, 3)) (kk : At X nL (wC T ad σ) (pc + 3) lv (.ref (ad 32) :: st)) : At X nL (wC T ad σ) pc lv (.ref (ad 0) :: st) := at_get C ingX8 (ci := 8) rfl 0 (wC_g0 T ad σ) 5 (by decide) m_X8_51 rfl rfl d kk
theorem m_X8_152 : Cond.methodLinkNest RX8 152 yX5_clear "HawkRidge" ∈ nW := nW_in 693 (by decide +kernel) (by decide +kernel)
theorem mc_X5_clear : Cond.code yX5_clear cX5_clear 2 none ∈ gW := gW_in 696 (by decide +kernel) (by decide +kernel)
theorem ok_X5_clear : okM yX5_clear cX5_clear 2 none 0 := ⟨mc_X5_clear, mz_RX5, by decide +kernel⟩
theorem mi_X5_clear : Cond.instanceMethod yX5_clear ∈ gW := gW_in 695 (by decide +kernel) (by decide +kernel)
theorem ml_X5_clear : Cond.selects RX5 yX5_clear yX5_clear ∈ gW := gW_in 49 (by decide +kernel) (by decide +kernel)
theorem m_X8_155 : Cond.fieldLinkNest RX8 155 RX5 "own" "[I" "HawkRidge" ∈ nW := nW_in 286 (by decide +kernel) (by decide +kernel)
theorem gC_X8_155 {X : XT} {l : Launch} {D : va_G} {ad : Nat → Nat} {T : TT} {cc : ByteArray} {nL fr lo : Nat} {σ : St} {pc : Nat} {lv : List (Nat × Value)} {st : List Value} (C : Cx X (KC l D ad T) cc RX8 nL fr lo) (d : decode cc pc = .ok (.getfield 155, 3)) (kk : At X nL (wC T ad σ) (pc + 3) lv (.ref (ad 33) :: st)) : At X nL (wC T ad σ) pc lv (.ref (ad 32) :: st) := at_getN C ingX5 (ci := 5) rfl 32 (wC_g32 T ad σ) 1 (by decide) m_X8_155 rfl rfl d kk
theorem m_X8_158 : Cond.methodLinkNest RX8 158 yX0_addKinds "HawkRidge" ∈ nW := nW_in 697 (by decide +kernel) (by decide +kernel)
theorem mc_X0_addKinds : Cond.code yX0_addKinds cX0_addKinds 4 none ∈ gW := gW_in 700 (by decide +kernel) (by decide +kernel)
theorem ok_X0_addKinds : okM yX0_addKinds cX0_addKinds 4 none 2 := ⟨mc_X0_addKinds, mz_RX0, by decide +kernel⟩
theorem mi_X0_addKinds : Cond.instanceMethod yX0_addKinds ∈ gW := gW_in 699 (by decide +kernel) (by decide +kernel)
theorem ml_X0_addKinds : Cond.selects RX0 yX0_addKinds yX0_addKinds ∈ gW := gW_in 50 (by decide +kernel) (by decide +kernel)
theorem m_X8_165 : Cond.methodLinkNest RX8 165 yX5_partAll "HawkRidge" ∈ nW := nW_in 706 (by decide +kernel) (by decide +kernel)
theorem mc_X5_partAll : Cond.code yX5_partAll cX5_partAll 2 none ∈ gW := gW_in 709 (by decide +kernel) (by decide +kernel)
theorem ok_X5_partAll : okM yX5_partAll cX5_partAll 2 none 0 := ⟨mc_X5_partAll, mz_RX5, by decide +kernel⟩
theorem mi_X5_partAll : Cond.instanceMethod yX5_partAll ∈ gW := gW_in 708 (by decide +kernel) (by decide +kernel)
theorem ml_X5_partAll : Cond.selects RX5 yX5_partAll yX5_partAll ∈ gW := gW_in 52 (by decide +kernel) (by decide +kernel)
theorem m_X8_168 : Cond.methodLinkNest RX8 168 yX5_numberUnder "HawkRidge" ∈ nW := nW_in 722 (by decide +kernel) (by decide +kernel)
theorem mc_X5_numberUnder : Cond.code yX5_numberUnder cX5_numberUnder 4 (some .int) ∈ gW := gW_in 725 (by decide +kernel) (by decide +kernel)
theorem ok_X5_numberUnder : okM yX5_numberUnder cX5_numberUnder 4 (some .int) 1 := ⟨mc_X5_numberUnder, mz_RX5, by decide +kernel⟩
theorem mi_X5_numberUnder : Cond.instanceMethod yX5_numberUnder ∈ gW := gW_in 724 (by decide +kernel) (by decide +kernel)
theorem ml_X5_numberUnder : Cond.selects RX5 yX5_numberUnder yX5_numberUnder ∈ gW := gW_in 56 (by decide +kernel) (by decide +kernel)
theorem m_X8_162 : Cond.methodLinkNest RX8 162 yX5_ownUnder "HawkRidge" ∈ nW := nW_in 701 (by decide +kernel) (by decide +kernel)
theorem mc_X5_ownUnder : Cond.code yX5_ownUnder cX5_ownUnder 4 (some .int) ∈ gW := gW_in 704 (by decide +kernel) (by decide +kernel)
theorem ok_X5_ownUnder : okM yX5_ownUnder cX5_ownUnder 4 (some .int) 1 := ⟨mc_X5_ownUnder, mz_RX5, by decide +kernel⟩
theorem mi_X5_ownUnder : Cond.instanceMethod yX5_ownUnder ∈ gW := gW_in 703 (by decide +kernel) (by decide +kernel)
theorem ml_X5_ownUnder : Cond.selects RX5 yX5_ownUnder yX5_ownUnder ∈ gW := gW_in 51 (by decide +kernel) (by decide +kernel)
def qX8_birds_27  (Q : Int32 → St → Prop) (E : St → Prop)  (σ : St) : Prop := (E σ)
def pX8_birds (v1 : Int32) (v2 : Int32) (v3 : Int32) (σ : St) (Q : Int32 → St → Prop) (E : St → Prop) : Prop := (pX8_isYear v1 σ (fun r2 s1 => ((r2 = 0 → (qX8_birds_27  Q E s1)) ∧ (¬ r2 = 0 → (pX1_has v2 s1 (fun r4 s3 => ((r4 = 0 → (qX8_birds_27  Q E s3)) ∧ (¬ r4 = 0 → ((v3 < 0 → (qX8_birds_27  Q E s3)) ∧ (¬ v3 < 0 → ((v3 ≤ 2 → (pX0_pairYear v1 s3 (fun s5 => (pX5_clear s5 (fun s7 => (pX0_addKinds_a33 v1 s7 (fun s9 => ((¬ v3 = 0 → ((¬ v3 = 1 → (pX5_partAll s9 (fun s11 => (pX5_numberUnder v2 s11 (fun r14 s13 => (Q r14 s13)))))) ∧ (v3 = 1 → (pX5_ownUnder v2 s9 (fun r16 s15 => (Q r16 s15)))))) ∧ (v3 = 0 → (vp_in v2 20 ∧ (Q (s9 33 (Int32.toNatClampNeg v2)) s9))))))))))) ∧ (¬ v3 ≤ 2 → (qX8_birds_27  Q E s3)))))))))))))
set_option maxRecDepth 100000 in
set_option maxHeartbeats 4000000 in
theorem kX8_birds (l : Launch) (D : va_G) (ad : Nat → Nat) (T : TT) (hI : injA 40 ad) (hst : l.stackTraces = false) (v1 : Int32) (v2 : Int32) (v3 : Int32) (σ : St) (Q : Int32 → St → Prop) (E : St → Prop) (h : pX8_birds v1 v2 v3 σ Q E) : KX (KC l D ad T) (wC T ad) yX8_birds cX8_birds 4 (some .int) { frames := 20, cells := 1, slots := 6, locals := 480 } [.ref (ad 0), .int v1, .int v2, .int v3] (wC T ad σ) Q E := by
  refine st_MX (fr := 20) (lo := 480) hst (by decide) ⟨rfl, rfl, rfl, rfl⟩ (Nat.le_of_ble_eq_true rfl) (Nat.le_of_ble_eq_true rfl) rfl (Nat.le_of_ble_eq_true rfl) rfl (fun X C hD ret thr => ?_)
  replace hD : ∀ σ, DX X (wC T ad σ) := fun σ => hD _ (wC_D hI T σ)
  have t27 : ∀  (σ : St), qX8_birds_27  Q E  σ → At X 4 (wC T ad σ) 27 [] [] := by
    intro σ h
    unfold qX8_birds_27 at h
    exact thr _ _ _ _ dX8_birds_27 dX8_birds_30 dX8_birds_31 dX8_birds_34 (Nat.le_of_ble_eq_true rfl) h
  unfold pX8_birds at h
  refine at_iload_n C dX8_birds_0 1 rfl ?_
  refine at_callSi C (kX8_isYear l D ad T hI _ _ _ h) ok_X8_isYear m_X8_143 ms_X8_isYear ⟨rfl, rfl, Nat.le_of_ble_eq_true rfl, Nat.le_of_ble_eq_true rfl⟩ rfl rfl (Nat.le_of_ble_eq_true rfl) dX8_birds_1 (fun r2 s1 h => ?_)
  refine at_if_eq (tgt := 27) C dX8_birds_4 (by decide) (fun hc => ?_) (fun hc => ?_)
  · replace h := h.1 hc
    refine at_sub [] rfl ?_
    exact t27   _ h
  · replace h := h.2 hc
    refine at_aload_n C dX8_birds_7 0 rfl ?_
    refine gC_X8_19 C dX8_birds_8 ?_
    refine at_iload_n C dX8_birds_11 2 rfl ?_
    refine at_callVNi C (kX1_has l D ad T hI _ _ _ h) ok_X1_has m_X8_91 mi_X1_has ml_X1_has (wC_g4 T ad _) rfl ⟨rfl, rfl, Nat.le_of_ble_eq_true rfl, Nat.le_of_ble_eq_true rfl⟩ rfl rfl (Nat.le_of_ble_eq_true rfl) dX8_birds_12 (fun r4 s3 h => ?_)
    refine at_if_eq (tgt := 27) C dX8_birds_15 (by decide) (fun hc => ?_) (fun hc => ?_)
    · replace h := h.1 hc
      refine at_sub [] rfl ?_
      exact t27   _ h
    · replace h := h.2 hc
      refine at_iload_n C dX8_birds_18 3 rfl ?_
      refine at_if_lt (tgt := 27) C dX8_birds_19 (by decide) (fun hc => ?_) (fun hc => ?_)
      · replace h := h.1 hc
        refine at_sub [] rfl ?_
        exact t27   _ h
      · replace h := h.2 hc
        refine at_iload_n C dX8_birds_22 3 rfl ?_
        refine at_iconst (v := 2) C dX8_birds_23 (by decide) ?_
        refine at_icmp_le (tgt := 35) C dX8_birds_24 (by decide) (fun hc => ?_) (fun hc => ?_)
        · replace h := h.1 hc
          refine at_aload_n C dX8_birds_35 0 rfl ?_
          refine gC_X8_42 C dX8_birds_36 ?_
          refine at_iload_n C dX8_birds_39 1 rfl ?_
          refine at_callVNv C (kX0_pairYear l D ad T hI _ _ _ h) ok_X0_pairYear m_X8_149 mi_X0_pairYear ml_X0_pairYear (wC_g18 T ad _) rfl ⟨rfl, rfl, Nat.le_of_ble_eq_true rfl, Nat.le_of_ble_eq_true rfl⟩ rfl rfl (Nat.le_of_ble_eq_true rfl) dX8_birds_40 (fun s5 h => ?_)
          refine at_aload_n C dX8_birds_43 0 rfl ?_
          refine gC_X8_51 C dX8_birds_44 ?_
          refine at_callVNv C (kX5_clear l D ad T hI  _ _ h) ok_X5_clear m_X8_152 mi_X5_clear ml_X5_clear (wC_g32 T ad _) rfl ⟨rfl, rfl, Nat.le_of_ble_eq_true rfl, Nat.le_of_ble_eq_true rfl⟩ rfl rfl (Nat.le_of_ble_eq_true rfl) dX8_birds_47 (fun s7 h => ?_)
          refine at_aload_n C dX8_birds_50 0 rfl ?_
          refine gC_X8_42 C dX8_birds_51 ?_
          refine at_iload_n C dX8_birds_54 1 rfl ?_
          refine at_aload_n C dX8_birds_55 0 rfl ?_
          refine gC_X8_51 C dX8_birds_56 ?_
          refine gC_X8_155 C dX8_birds_59 ?_
          refine at_callVNv C (kX0_addKinds_a33 l D ad T hI _ _ _ h) ok_X0_addKinds m_X8_158 mi_X0_addKinds ml_X0_addKinds (wC_g18 T ad _) rfl ⟨rfl, rfl, Nat.le_of_ble_eq_true rfl, Nat.le_of_ble_eq_true rfl⟩ rfl rfl (Nat.le_of_ble_eq_true rfl) dX8_birds_62 (fun s9 h => ?_)
          refine at_iload_n C dX8_birds_65 3 rfl ?_
          refine at_if_ne (tgt := 79) C dX8_birds_66 (by decide) (fun hc => ?_) (fun hc => ?_)
          · replace h := h.1 hc
            refine at_iload_n C dX8_birds_79 3 rfl ?_
            refine at_iconst (v := 1) C dX8_birds_80 (by decide) ?_
            refine at_icmp_ne (tgt := 93) C dX8_birds_81 (by decide) (fun hc => ?_) (fun hc => ?_)
            · replace h := h.1 hc
              refine at_aload_n C dX8_birds_93 0 rfl ?_
              refine gC_X8_51 C dX8_birds_94 ?_
              refine at_callVNv C (kX5_partAll l D ad T hI  _ _ h) ok_X5_partAll m_X8_165 mi_X5_partAll ml_X5_partAll (wC_g32 T ad _) rfl ⟨rfl, rfl, Nat.le_of_ble_eq_true rfl, Nat.le_of_ble_eq_true rfl⟩ rfl rfl (Nat.le_of_ble_eq_true rfl) dX8_birds_97 (fun s11 h => ?_)
              refine at_aload_n C dX8_birds_100 0 rfl ?_
              refine gC_X8_51 C dX8_birds_101 ?_
              refine at_iload_n C dX8_birds_104 2 rfl ?_
              refine at_callVNi C (kX5_numberUnder l D ad T hI _ _ _ h) ok_X5_numberUnder m_X8_168 mi_X5_numberUnder ml_X5_numberUnder (wC_g32 T ad _) rfl ⟨rfl, rfl, Nat.le_of_ble_eq_true rfl, Nat.le_of_ble_eq_true rfl⟩ rfl rfl (Nat.le_of_ble_eq_true rfl) dX8_birds_105 (fun r14 s13 h => ?_)
              exact ret _ _ _ _ dX8_birds_108 h
            · replace h := h.2 hc
              refine at_aload_n C dX8_birds_84 0 rfl ?_
              refine gC_X8_51 C dX8_birds_85 ?_
              refine at_iload_n C dX8_birds_88 2 rfl ?_
              refine at_callVNi C (kX5_ownUnder l D ad T hI _ _ _ h) ok_X5_ownUnder m_X8_162 mi_X5_ownUnder ml_X5_ownUnder (wC_g32 T ad _) rfl ⟨rfl, rfl, Nat.le_of_ble_eq_true rfl, Nat.le_of_ble_eq_true rfl⟩ rfl rfl (Nat.le_of_ble_eq_true rfl) dX8_birds_89 (fun r16 s15 h => ?_)
              exact ret _ _ _ _ dX8_birds_92 h
          · replace h := h.2 hc
            refine at_aload_n C dX8_birds_69 0 rfl ?_
            refine gC_X8_51 C dX8_birds_70 ?_
            refine gC_X8_155 C dX8_birds_73 ?_
            refine at_iload_n C dX8_birds_76 2 rfl ?_
            obtain ⟨hi, h⟩ := h
            refine rC_33 C hi dX8_birds_77 ?_
            exact ret _ _ _ _ dX8_birds_78 h
        · replace h := h.2 hc
          refine at_sub [] rfl ?_
          exact t27   _ h
theorem m_X8_196 : Cond.methodLinkNest RX8 196 yX2_has "HawkRidge" ∈ nW := nW_in 733 (by decide +kernel) (by decide +kernel)
theorem mc_X2_has : Cond.code yX2_has cX2_has 2 (some .boolean) ∈ gW := gW_in 736 (by decide +kernel) (by decide +kernel)
theorem ok_X2_has : okM yX2_has cX2_has 2 (some .boolean) 1 := ⟨mc_X2_has, mz_RX2, by decide +kernel⟩
theorem mi_X2_has : Cond.instanceMethod yX2_has ∈ gW := gW_in 735 (by decide +kernel) (by decide +kernel)
theorem ml_X2_has : Cond.selects RX2 yX2_has yX2_has ∈ gW := gW_in 57 (by decide +kernel) (by decide +kernel)
theorem m_X8_197 : Cond.fieldLinkNest RX8 197 RX2 "minuteOf" "[I" "HawkRidge" ∈ nW := nW_in 174 (by decide +kernel) (by decide +kernel)
theorem gC_X8_197 {X : XT} {l : Launch} {D : va_G} {ad : Nat → Nat} {T : TT} {cc : ByteArray} {nL fr lo : Nat} {σ : St} {pc : Nat} {lv : List (Nat × Value)} {st : List Value} (C : Cx X (KC l D ad T) cc RX8 nL fr lo) (d : decode cc pc = .ok (.getfield 197, 3)) (kk : At X nL (wC T ad σ) (pc + 3) lv (.ref (ad 14) :: st)) : At X nL (wC T ad σ) pc lv (.ref (ad 12) :: st) := at_getN C ingX2 (ci := 2) rfl 12 (wC_g12 T ad σ) 1 (by decide) m_X8_197 rfl rfl d kk
theorem m_X8_200 : Cond.fieldLinkNest RX8 200 RX2 "postOf" "[I" "HawkRidge" ∈ nW := nW_in 176 (by decide +kernel) (by decide +kernel)
theorem gC_X8_200 {X : XT} {l : Launch} {D : va_G} {ad : Nat → Nat} {T : TT} {cc : ByteArray} {nL fr lo : Nat} {σ : St} {pc : Nat} {lv : List (Nat × Value)} {st : List Value} (C : Cx X (KC l D ad T) cc RX8 nL fr lo) (d : decode cc pc = .ok (.getfield 200, 3)) (kk : At X nL (wC T ad σ) (pc + 3) lv (.ref (ad 15) :: st)) : At X nL (wC T ad σ) pc lv (.ref (ad 12) :: st) := at_getN C ingX2 (ci := 2) rfl 12 (wC_g12 T ad σ) 2 (by decide) m_X8_200 rfl rfl d kk
theorem m_X8_203 : Cond.fieldLinkNest RX8 203 RX2 "kindOf" "[I" "HawkRidge" ∈ nW := nW_in 179 (by decide +kernel) (by decide +kernel)
theorem gC_X8_203 {X : XT} {l : Launch} {D : va_G} {ad : Nat → Nat} {T : TT} {cc : ByteArray} {nL fr lo : Nat} {σ : St} {pc : Nat} {lv : List (Nat × Value)} {st : List Value} (C : Cx X (KC l D ad T) cc RX8 nL fr lo) (d : decode cc pc = .ok (.getfield 203, 3)) (kk : At X nL (wC T ad σ) (pc + 3) lv (.ref (ad 16) :: st)) : At X nL (wC T ad σ) pc lv (.ref (ad 12) :: st) := at_getN C ingX2 (ci := 2) rfl 12 (wC_g12 T ad σ) 3 (by decide) m_X8_203 rfl rfl d kk
theorem m_X8_206 : Cond.fieldLinkNest RX8 206 RX2 "since" "[I" "HawkRidge" ∈ nW := nW_in 181 (by decide +kernel) (by decide +kernel)
theorem gC_X8_206 {X : XT} {l : Launch} {D : va_G} {ad : Nat → Nat} {T : TT} {cc : ByteArray} {nL fr lo : Nat} {σ : St} {pc : Nat} {lv : List (Nat × Value)} {st : List Value} (C : Cx X (KC l D ad T) cc RX8 nL fr lo) (d : decode cc pc = .ok (.getfield 206, 3)) (kk : At X nL (wC T ad σ) (pc + 3) lv (.ref (ad 17) :: st)) : At X nL (wC T ad σ) pc lv (.ref (ad 12) :: st) := at_getN C ingX2 (ci := 2) rfl 12 (wC_g12 T ad σ) 4 (by decide) m_X8_206 rfl rfl d kk
def qX8_look_20  (Q : Int32 → St → Prop) (E : St → Prop)  (σ : St) : Prop := (E σ)
def pX8_look (v1 : Int32) (v2 : Int32) (σ : St) (Q : Int32 → St → Prop) (E : St → Prop) : Prop := (pX2_has v1 σ (fun r2 s1 => ((r2 = 0 → (qX8_look_20  Q E s1)) ∧ (¬ r2 = 0 → ((v2 < 0 → (qX8_look_20  Q E s1)) ∧ (¬ v2 < 0 → ((v2 ≤ 5 → ((v2 = 0 → (vp_in v1 300 ∧ (Q ((s1 13 (Int32.toNatClampNeg v1)) / 30) s1))) ∧ (¬ v2 = 0 → ((v2 = 1 → (vp_in v1 300 ∧ (Q ((s1 13 (Int32.toNatClampNeg v1)) - (s1 13 (Int32.toNatClampNeg v1)) / 30 * 30) s1))) ∧ (¬ v2 = 1 → ((v2 = 2 → (vp_in v1 300 ∧ (Q (s1 14 (Int32.toNatClampNeg v1)) s1))) ∧ (¬ v2 = 2 → ((v2 = 3 → (vp_in v1 300 ∧ (Q (s1 15 (Int32.toNatClampNeg v1)) s1))) ∧ (¬ v2 = 3 → ((v2 = 4 → (vp_in v1 300 ∧ (Q (s1 16 (Int32.toNatClampNeg v1)) s1))) ∧ (¬ v2 = 4 → (vp_in v1 300 ∧ (Q (s1 17 (Int32.toNatClampNeg v1)) s1))))))))))))) ∧ (¬ v2 ≤ 5 → (qX8_look_20  Q E s1)))))))))
set_option maxRecDepth 100000 in
set_option maxHeartbeats 4000000 in
theorem kX8_look (l : Launch) (D : va_G) (ad : Nat → Nat) (T : TT) (hI : injA 40 ad) (hst : l.stackTraces = false) (v1 : Int32) (v2 : Int32) (σ : St) (Q : Int32 → St → Prop) (E : St → Prop) (h : pX8_look v1 v2 σ Q E) : KX (KC l D ad T) (wC T ad) yX8_look cX8_look 3 (some .int) { frames := 6, cells := 1, slots := 6, locals := 100 } [.ref (ad 0), .int v1, .int v2] (wC T ad σ) Q E := by
  refine st_MX (fr := 6) (lo := 100) hst (by decide) ⟨rfl, rfl, rfl, rfl⟩ (Nat.le_of_ble_eq_true rfl) (Nat.le_of_ble_eq_true rfl) rfl (Nat.le_of_ble_eq_true rfl) rfl (fun X C hD ret thr => ?_)
  replace hD : ∀ σ, DX X (wC T ad σ) := fun σ => hD _ (wC_D hI T σ)
  have t20 : ∀  (σ : St), qX8_look_20  Q E  σ → At X 3 (wC T ad σ) 20 [] [] := by
    intro σ h
    unfold qX8_look_20 at h
    exact thr _ _ _ _ dX8_look_20 dX8_look_23 dX8_look_24 dX8_look_27 (Nat.le_of_ble_eq_true rfl) h
  unfold pX8_look at h
  refine at_aload_n C dX8_look_0 0 rfl ?_
  refine gC_X8_33 C dX8_look_1 ?_
  refine at_iload_n C dX8_look_4 1 rfl ?_
  refine at_callVNi C (kX2_has l D ad T hI _ _ _ h) ok_X2_has m_X8_196 mi_X2_has ml_X2_has (wC_g12 T ad _) rfl ⟨rfl, rfl, Nat.le_of_ble_eq_true rfl, Nat.le_of_ble_eq_true rfl⟩ rfl rfl (Nat.le_of_ble_eq_true rfl) dX8_look_5 (fun r2 s1 h => ?_)
  refine at_if_eq (tgt := 20) C dX8_look_8 (by decide) (fun hc => ?_) (fun hc => ?_)
  · replace h := h.1 hc
    refine at_sub [] rfl ?_
    exact t20   _ h
  · replace h := h.2 hc
    refine at_iload_n C dX8_look_11 2 rfl ?_
    refine at_if_lt (tgt := 20) C dX8_look_12 (by decide) (fun hc => ?_) (fun hc => ?_)
    · replace h := h.1 hc
      refine at_sub [] rfl ?_
      exact t20   _ h
    · replace h := h.2 hc
      refine at_iload_n C dX8_look_15 2 rfl ?_
      refine at_iconst (v := 5) C dX8_look_16 (by decide) ?_
      refine at_icmp_le (tgt := 28) C dX8_look_17 (by decide) (fun hc => ?_) (fun hc => ?_)
      · replace h := h.1 hc
        refine at_iload_n C dX8_look_28 2 rfl ?_
        by_cases hc0 : v2 = 0
        · replace h := h.1 hc0
          refine at_tabIn (off := 35) (tgt := 64) C dX8_look_29 (by rw [hc0]; decide) (by rw [hc0]; decide) (by rw [hc0]; rfl) (by decide) ?_
          refine at_aload_n C dX8_look_64 0 rfl ?_
          refine gC_X8_33 C dX8_look_65 ?_
          refine gC_X8_132 C dX8_look_68 ?_
          refine at_iload_n C dX8_look_71 1 rfl ?_
          obtain ⟨hi, h⟩ := h
          refine rC_13 C hi dX8_look_72 ?_
          refine at_bipush (v := 30) C dX8_look_73 (by decide) ?_
          refine at_idiv C dX8_look_75 (by decide) ?_
          exact ret _ _ _ _ dX8_look_76 h
        · replace h := h.2 hc0
          by_cases hc1 : v2 = 1
          · replace h := h.1 hc1
            refine at_tabIn (off := 48) (tgt := 77) C dX8_look_29 (by rw [hc1]; decide) (by rw [hc1]; decide) (by rw [hc1]; rfl) (by decide) ?_
            refine at_aload_n C dX8_look_77 0 rfl ?_
            refine gC_X8_33 C dX8_look_78 ?_
            refine gC_X8_132 C dX8_look_81 ?_
            refine at_iload_n C dX8_look_84 1 rfl ?_
            obtain ⟨hi, h⟩ := h
            refine rC_13 C hi dX8_look_85 ?_
            refine at_bipush (v := 30) C dX8_look_86 (by decide) ?_
            refine at_irem C dX8_look_88 (by decide) ?_
            exact ret _ _ _ _ dX8_look_89 h
          · replace h := h.2 hc1
            by_cases hc2 : v2 = 2
            · replace h := h.1 hc2
              refine at_tabIn (off := 61) (tgt := 90) C dX8_look_29 (by rw [hc2]; decide) (by rw [hc2]; decide) (by rw [hc2]; rfl) (by decide) ?_
              refine at_aload_n C dX8_look_90 0 rfl ?_
              refine gC_X8_33 C dX8_look_91 ?_
              refine gC_X8_197 C dX8_look_94 ?_
              refine at_iload_n C dX8_look_97 1 rfl ?_
              obtain ⟨hi, h⟩ := h
              refine rC_14 C hi dX8_look_98 ?_
              exact ret _ _ _ _ dX8_look_99 h
            · replace h := h.2 hc2
              by_cases hc3 : v2 = 3
              · replace h := h.1 hc3
                refine at_tabIn (off := 71) (tgt := 100) C dX8_look_29 (by rw [hc3]; decide) (by rw [hc3]; decide) (by rw [hc3]; rfl) (by decide) ?_
                refine at_aload_n C dX8_look_100 0 rfl ?_
                refine gC_X8_33 C dX8_look_101 ?_
                refine gC_X8_200 C dX8_look_104 ?_
                refine at_iload_n C dX8_look_107 1 rfl ?_
                obtain ⟨hi, h⟩ := h
                refine rC_15 C hi dX8_look_108 ?_
                exact ret _ _ _ _ dX8_look_109 h
              · replace h := h.2 hc3
                by_cases hc4 : v2 = 4
                · replace h := h.1 hc4
                  refine at_tabIn (off := 81) (tgt := 110) C dX8_look_29 (by rw [hc4]; decide) (by rw [hc4]; decide) (by rw [hc4]; rfl) (by decide) ?_
                  refine at_aload_n C dX8_look_110 0 rfl ?_
                  refine gC_X8_33 C dX8_look_111 ?_
                  refine gC_X8_203 C dX8_look_114 ?_
                  refine at_iload_n C dX8_look_117 1 rfl ?_
                  obtain ⟨hi, h⟩ := h
                  refine rC_16 C hi dX8_look_118 ?_
                  exact ret _ _ _ _ dX8_look_119 h
                · replace h := h.2 hc4
                  refine at_tabOut (tgt := 120) C dX8_look_29 (by have q0 := lv_neT hc0 (a := 0) (by decide); have q1 := lv_neT hc1 (a := 1) (by decide); have q2 := lv_neT hc2 (a := 2) (by decide); have q3 := lv_neT hc3 (a := 3) (by decide); have q4 := lv_neT hc4 (a := 4) (by decide); omega) (by decide) ?_
                  refine at_aload_n C dX8_look_120 0 rfl ?_
                  refine gC_X8_33 C dX8_look_121 ?_
                  refine gC_X8_206 C dX8_look_124 ?_
                  refine at_iload_n C dX8_look_127 1 rfl ?_
                  obtain ⟨hi, h⟩ := h
                  refine rC_17 C hi dX8_look_128 ?_
                  exact ret _ _ _ _ dX8_look_129 h
      · replace h := h.2 hc
        refine at_sub [] rfl ?_
        exact t20   _ h
