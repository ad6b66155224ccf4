section
-- ===== PART A: goes FIRST, ahead of the names: the tables' words, and 'selects' of the private methods out of them =====
/-- a private method of a class that the tables say can be made, by its rows of tables_1 -/
def lw_okq (q : MethodName × Nat) : Prop := (q.1.cls ≠ "java/lang/invoke/MethodHandle" ∧ q.1.cls ≠ "java/lang/invoke/VarHandle") ∧ Cond.instantiable q.1.cls q.2 ∈ tables_1 ∧ Cond.privateMethod q.1 ∈ tables_1 ∧ Cond.instanceMethod q.1 ∈ tables_1
theorem lw_p0 : lw_okq (⟨"HawkRidge$Ridge", "add", "(I)I"⟩, 2) := ⟨⟨by decide +kernel, by decide +kernel⟩, List.mem_of_getElem? (i := 26) (by decide +kernel), List.mem_of_getElem? (i := 272) (by decide +kernel), List.mem_of_getElem? (i := 273) (by decide +kernel)⟩
theorem lw_p1 : lw_okq (⟨"HawkRidge$KindTree", "add", "(III)I"⟩, 5) := ⟨⟨by decide +kernel, by decide +kernel⟩, List.mem_of_getElem? (i := 42) (by decide +kernel), List.mem_of_getElem? (i := 280) (by decide +kernel), List.mem_of_getElem? (i := 281) (by decide +kernel)⟩
theorem lw_p2 : lw_okq (⟨"HawkRidge$KindTree", "has", "(I)Z"⟩, 5) := ⟨⟨by decide +kernel, by decide +kernel⟩, List.mem_of_getElem? (i := 42) (by decide +kernel), List.mem_of_getElem? (i := 284) (by decide +kernel), List.mem_of_getElem? (i := 285) (by decide +kernel)⟩
theorem lw_p3 : lw_okq (⟨"HawkRidge$Ridge", "has", "(I)Z"⟩, 2) := ⟨⟨by decide +kernel, by decide +kernel⟩, List.mem_of_getElem? (i := 26) (by decide +kernel), List.mem_of_getElem? (i := 302) (by decide +kernel), List.mem_of_getElem? (i := 303) (by decide +kernel)⟩
theorem lw_p4 : lw_okq (⟨"HawkRidge$Season", "isOff", "(II)Z"⟩, 2) := ⟨⟨by decide +kernel, by decide +kernel⟩, List.mem_of_getElem? (i := 68) (by decide +kernel), List.mem_of_getElem? (i := 310) (by decide +kernel), List.mem_of_getElem? (i := 311) (by decide +kernel)⟩
theorem lw_p5 : lw_okq (⟨"HawkRidge$Log", "toldAt", "(II)I"⟩, 7) := ⟨⟨by decide +kernel, by decide +kernel⟩, List.mem_of_getElem? (i := 83) (by decide +kernel), List.mem_of_getElem? (i := 314) (by decide +kernel), List.mem_of_getElem? (i := 315) (by decide +kernel)⟩
theorem lw_p6 : lw_okq (⟨"HawkRidge$Log", "add", "(IIIII)I"⟩, 7) := ⟨⟨by decide +kernel, by decide +kernel⟩, List.mem_of_getElem? (i := 83) (by decide +kernel), List.mem_of_getElem? (i := 318) (by decide +kernel), List.mem_of_getElem? (i := 319) (by decide +kernel)⟩
theorem lw_p7 : lw_okq (⟨"HawkRidge", "knownDay", "()I"⟩, 10) := ⟨⟨by decide +kernel, by decide +kernel⟩, List.mem_of_getElem? (i := 18) (by decide +kernel), List.mem_of_getElem? (i := 322) (by decide +kernel), List.mem_of_getElem? (i := 323) (by decide +kernel)⟩
theorem lw_p8 : lw_okq (⟨"HawkRidge$Log", "showUpTo", "(I)V"⟩, 7) := ⟨⟨by decide +kernel, by decide +kernel⟩, List.mem_of_getElem? (i := 83) (by decide +kernel), List.mem_of_getElem? (i := 326) (by decide +kernel), List.mem_of_getElem? (i := 327) (by decide +kernel)⟩
theorem lw_p9 : lw_okq (⟨"HawkRidge$Flock", "forget", "(I)V"⟩, 11) := ⟨⟨by decide +kernel, by decide +kernel⟩, List.mem_of_getElem? (i := 121) (by decide +kernel), List.mem_of_getElem? (i := 330) (by decide +kernel), List.mem_of_getElem? (i := 331) (by decide +kernel)⟩
theorem lw_p10 : lw_okq (⟨"HawkRidge$Log", "hasIn", "(II)Z"⟩, 7) := ⟨⟨by decide +kernel, by decide +kernel⟩, List.mem_of_getElem? (i := 83) (by decide +kernel), List.mem_of_getElem? (i := 338) (by decide +kernel), List.mem_of_getElem? (i := 339) (by decide +kernel)⟩
theorem lw_p11 : lw_okq (⟨"HawkRidge$Log", "hour", "(I)I"⟩, 7) := ⟨⟨by decide +kernel, by decide +kernel⟩, List.mem_of_getElem? (i := 83) (by decide +kernel), List.mem_of_getElem? (i := 342) (by decide +kernel), List.mem_of_getElem? (i := 343) (by decide +kernel)⟩
theorem lw_p12 : lw_okq (⟨"HawkRidge$Season", "turn", "(II)V"⟩, 2) := ⟨⟨by decide +kernel, by decide +kernel⟩, List.mem_of_getElem? (i := 68) (by decide +kernel), List.mem_of_getElem? (i := 346) (by decide +kernel), List.mem_of_getElem? (i := 347) (by decide +kernel)⟩
theorem lw_p13 : lw_okq (⟨"HawkRidge$Flock", "forgetAll", "()V"⟩, 11) := ⟨⟨by decide +kernel, by decide +kernel⟩, List.mem_of_getElem? (i := 121) (by decide +kernel), List.mem_of_getElem? (i := 358) (by decide +kernel), List.mem_of_getElem? (i := 359) (by decide +kernel)⟩
theorem lw_p14 : lw_okq (⟨"HawkRidge$Log", "shows", "(I)Z"⟩, 7) := ⟨⟨by decide +kernel, by decide +kernel⟩, List.mem_of_getElem? (i := 83) (by decide +kernel), List.mem_of_getElem? (i := 366) (by decide +kernel), List.mem_of_getElem? (i := 367) (by decide +kernel)⟩
theorem lw_p15 : lw_okq (⟨"HawkRidge$Flock", "pairDate", "(I)V"⟩, 11) := ⟨⟨by decide +kernel, by decide +kernel⟩, List.mem_of_getElem? (i := 121) (by decide +kernel), List.mem_of_getElem? (i := 370) (by decide +kernel), List.mem_of_getElem? (i := 371) (by decide +kernel)⟩
def lw_privs_1 : List (MethodName × Nat) := [(⟨"HawkRidge$Ridge", "add", "(I)I"⟩, 2), (⟨"HawkRidge$KindTree", "add", "(III)I"⟩, 5), (⟨"HawkRidge$KindTree", "has", "(I)Z"⟩, 5), (⟨"HawkRidge$Ridge", "has", "(I)Z"⟩, 2), (⟨"HawkRidge$Season", "isOff", "(II)Z"⟩, 2), (⟨"HawkRidge$Log", "toldAt", "(II)I"⟩, 7), (⟨"HawkRidge$Log", "add", "(IIIII)I"⟩, 7), (⟨"HawkRidge", "knownDay", "()I"⟩, 10), (⟨"HawkRidge$Log", "showUpTo", "(I)V"⟩, 7), (⟨"HawkRidge$Flock", "forget", "(I)V"⟩, 11), (⟨"HawkRidge$Log", "hasIn", "(II)Z"⟩, 7), (⟨"HawkRidge$Log", "hour", "(I)I"⟩, 7), (⟨"HawkRidge$Season", "turn", "(II)V"⟩, 2), (⟨"HawkRidge$Flock", "forgetAll", "()V"⟩, 11), (⟨"HawkRidge$Log", "shows", "(I)Z"⟩, 7), (⟨"HawkRidge$Flock", "pairDate", "(I)V"⟩, 11)]
theorem lw_r1 : ∀ q ∈ lw_privs_1, lw_okq q := List.forall_mem_cons.mpr ⟨lw_p0, List.forall_mem_cons.mpr ⟨lw_p1, List.forall_mem_cons.mpr ⟨lw_p2, List.forall_mem_cons.mpr ⟨lw_p3, List.forall_mem_cons.mpr ⟨lw_p4, List.forall_mem_cons.mpr ⟨lw_p5, List.forall_mem_cons.mpr ⟨lw_p6, List.forall_mem_cons.mpr ⟨lw_p7, List.forall_mem_cons.mpr ⟨lw_p8, List.forall_mem_cons.mpr ⟨lw_p9, List.forall_mem_cons.mpr ⟨lw_p10, List.forall_mem_cons.mpr ⟨lw_p11, List.forall_mem_cons.mpr ⟨lw_p12, List.forall_mem_cons.mpr ⟨lw_p13, List.forall_mem_cons.mpr ⟨lw_p14, List.forall_mem_cons.mpr ⟨lw_p15, fun _ h => absurd h List.not_mem_nil⟩⟩⟩⟩⟩⟩⟩⟩⟩⟩⟩⟩⟩⟩⟩⟩
theorem lw_p16 : lw_okq (⟨"HawkRidge$Flock", "pairPosts", "(II)V"⟩, 11) := ⟨⟨by decide +kernel, by decide +kernel⟩, List.mem_of_getElem? (i := 121) (by decide +kernel), List.mem_of_getElem? (i := 374) (by decide +kernel), List.mem_of_getElem? (i := 375) (by decide +kernel)⟩
theorem lw_p17 : lw_okq (⟨"HawkRidge$Log", "gather", "(II[I)I"⟩, 7) := ⟨⟨by decide +kernel, by decide +kernel⟩, List.mem_of_getElem? (i := 83) (by decide +kernel), List.mem_of_getElem? (i := 378) (by decide +kernel), List.mem_of_getElem? (i := 379) (by decide +kernel)⟩
theorem lw_p18 : lw_okq (⟨"HawkRidge$Ridge", "wayToNext", "(I)I"⟩, 2) := ⟨⟨by decide +kernel, by decide +kernel⟩, List.mem_of_getElem? (i := 26) (by decide +kernel), List.mem_of_getElem? (i := 382) (by decide +kernel), List.mem_of_getElem? (i := 383) (by decide +kernel)⟩
theorem lw_p19 : lw_okq (⟨"HawkRidge$Matcher", "start", "(II)V"⟩, 9) := ⟨⟨by decide +kernel, by decide +kernel⟩, List.mem_of_getElem? (i := 127) (by decide +kernel), List.mem_of_getElem? (i := 386) (by decide +kernel), List.mem_of_getElem? (i := 387) (by decide +kernel)⟩
theorem lw_p20 : lw_okq (⟨"HawkRidge$Flock", "meet", "(III)Z"⟩, 11) := ⟨⟨by decide +kernel, by decide +kernel⟩, List.mem_of_getElem? (i := 121) (by decide +kernel), List.mem_of_getElem? (i := 396) (by decide +kernel), List.mem_of_getElem? (i := 397) (by decide +kernel)⟩
theorem lw_p21 : lw_okq (⟨"HawkRidge$KindTree", "deeperOf", "(II)I"⟩, 5) := ⟨⟨by decide +kernel, by decide +kernel⟩, List.mem_of_getElem? (i := 42) (by decide +kernel), List.mem_of_getElem? (i := 400) (by decide +kernel), List.mem_of_getElem? (i := 401) (by decide +kernel)⟩
theorem lw_p22 : lw_okq (⟨"HawkRidge$KindTree", "isUnder", "(II)Z"⟩, 5) := ⟨⟨by decide +kernel, by decide +kernel⟩, List.mem_of_getElem? (i := 42) (by decide +kernel), List.mem_of_getElem? (i := 404) (by decide +kernel), List.mem_of_getElem? (i := 405) (by decide +kernel)⟩
theorem lw_p23 : lw_okq (⟨"HawkRidge$KindTree", "canFly", "(III)Z"⟩, 5) := ⟨⟨by decide +kernel, by decide +kernel⟩, List.mem_of_getElem? (i := 42) (by decide +kernel), List.mem_of_getElem? (i := 408) (by decide +kernel), List.mem_of_getElem? (i := 409) (by decide +kernel)⟩
theorem lw_p24 : lw_okq (⟨"HawkRidge$Matcher", "allow", "(II)V"⟩, 9) := ⟨⟨by decide +kernel, by decide +kernel⟩, List.mem_of_getElem? (i := 127) (by decide +kernel), List.mem_of_getElem? (i := 412) (by decide +kernel), List.mem_of_getElem? (i := 413) (by decide +kernel)⟩
theorem lw_p25 : lw_okq (⟨"HawkRidge$Matcher", "solve", "()V"⟩, 9) := ⟨⟨by decide +kernel, by decide +kernel⟩, List.mem_of_getElem? (i := 127) (by decide +kernel), List.mem_of_getElem? (i := 416) (by decide +kernel), List.mem_of_getElem? (i := 417) (by decide +kernel)⟩
theorem lw_p26 : lw_okq (⟨"HawkRidge$Matcher", "reach", "(II)Z"⟩, 9) := ⟨⟨by decide +kernel, by decide +kernel⟩, List.mem_of_getElem? (i := 127) (by decide +kernel), List.mem_of_getElem? (i := 420) (by decide +kernel), List.mem_of_getElem? (i := 421) (by decide +kernel)⟩
theorem lw_p27 : lw_okq (⟨"HawkRidge$Matcher", "canTake", "(II)Z"⟩, 9) := ⟨⟨by decide +kernel, by decide +kernel⟩, List.mem_of_getElem? (i := 127) (by decide +kernel), List.mem_of_getElem? (i := 424) (by decide +kernel), List.mem_of_getElem? (i := 425) (by decide +kernel)⟩
theorem lw_p28 : lw_okq (⟨"HawkRidge$Matcher", "keep", "()V"⟩, 9) := ⟨⟨by decide +kernel, by decide +kernel⟩, List.mem_of_getElem? (i := 127) (by decide +kernel), List.mem_of_getElem? (i := 428) (by decide +kernel), List.mem_of_getElem? (i := 429) (by decide +kernel)⟩
theorem lw_p29 : lw_okq (⟨"HawkRidge$Matcher", "restore", "()V"⟩, 9) := ⟨⟨by decide +kernel, by decide +kernel⟩, List.mem_of_getElem? (i := 127) (by decide +kernel), List.mem_of_getElem? (i := 432) (by decide +kernel), List.mem_of_getElem? (i := 433) (by decide +kernel)⟩
theorem lw_p30 : lw_okq (⟨"HawkRidge$Flock", "followBirds", "(II)V"⟩, 11) := ⟨⟨by decide +kernel, by decide +kernel⟩, List.mem_of_getElem? (i := 121) (by decide +kernel), List.mem_of_getElem? (i := 436) (by decide +kernel), List.mem_of_getElem? (i := 437) (by decide +kernel)⟩
theorem lw_p31 : lw_okq (⟨"HawkRidge$KindTree", "depth", "(I)I"⟩, 5) := ⟨⟨by decide +kernel, by decide +kernel⟩, List.mem_of_getElem? (i := 42) (by decide +kernel), List.mem_of_getElem? (i := 440) (by decide +kernel), List.mem_of_getElem? (i := 441) (by decide +kernel)⟩
def lw_privs_2 : List (MethodName × Nat) := [(⟨"HawkRidge$Flock", "pairPosts", "(II)V"⟩, 11), (⟨"HawkRidge$Log", "gather", "(II[I)I"⟩, 7), (⟨"HawkRidge$Ridge", "wayToNext", "(I)I"⟩, 2), (⟨"HawkRidge$Matcher", "start", "(II)V"⟩, 9), (⟨"HawkRidge$Flock", "meet", "(III)Z"⟩, 11), (⟨"HawkRidge$KindTree", "deeperOf", "(II)I"⟩, 5), (⟨"HawkRidge$KindTree", "isUnder", "(II)Z"⟩, 5), (⟨"HawkRidge$KindTree", "canFly", "(III)Z"⟩, 5), (⟨"HawkRidge$Matcher", "allow", "(II)V"⟩, 9), (⟨"HawkRidge$Matcher", "solve", "()V"⟩, 9), (⟨"HawkRidge$Matcher", "reach", "(II)Z"⟩, 9), (⟨"HawkRidge$Matcher", "canTake", "(II)Z"⟩, 9), (⟨"HawkRidge$Matcher", "keep", "()V"⟩, 9), (⟨"HawkRidge$Matcher", "restore", "()V"⟩, 9), (⟨"HawkRidge$Flock", "followBirds", "(II)V"⟩, 11), (⟨"HawkRidge$KindTree", "depth", "(I)I"⟩, 5)]
theorem lw_r2 : ∀ q ∈ lw_privs_2, lw_okq q := List.forall_mem_cons.mpr ⟨lw_p16, List.forall_mem_cons.mpr ⟨lw_p17, List.forall_mem_cons.mpr ⟨lw_p18, List.forall_mem_cons.mpr ⟨lw_p19, List.forall_mem_cons.mpr ⟨lw_p20, List.forall_mem_cons.mpr ⟨lw_p21, List.forall_mem_cons.mpr ⟨lw_p22, List.forall_mem_cons.mpr ⟨lw_p23, List.forall_mem_cons.mpr ⟨lw_p24, List.forall_mem_cons.mpr ⟨lw_p25, List.forall_mem_cons.mpr ⟨lw_p26, List.forall_mem_cons.mpr ⟨lw_p27, List.forall_mem_cons.mpr ⟨lw_p28, List.forall_mem_cons.mpr ⟨lw_p29, List.forall_mem_cons.mpr ⟨lw_p30, List.forall_mem_cons.mpr ⟨lw_p31, fun _ h => absurd h List.not_mem_nil⟩⟩⟩⟩⟩⟩⟩⟩⟩⟩⟩⟩⟩⟩⟩⟩
theorem lw_p32 : lw_okq (⟨"HawkRidge$Flock", "pairYear", "(I)V"⟩, 11) := ⟨⟨by decide +kernel, by decide +kernel⟩, List.mem_of_getElem? (i := 121) (by decide +kernel), List.mem_of_getElem? (i := 458) (by decide +kernel), List.mem_of_getElem? (i := 459) (by decide +kernel)⟩
theorem lw_p33 : lw_okq (⟨"HawkRidge$Log", "isIn", "(II)Z"⟩, 7) := ⟨⟨by decide +kernel, by decide +kernel⟩, List.mem_of_getElem? (i := 83) (by decide +kernel), List.mem_of_getElem? (i := 462) (by decide +kernel), List.mem_of_getElem? (i := 463) (by decide +kernel)⟩
theorem lw_p34 : lw_okq (⟨"HawkRidge$Log", "shownIn", "(I)I"⟩, 7) := ⟨⟨by decide +kernel, by decide +kernel⟩, List.mem_of_getElem? (i := 83) (by decide +kernel), List.mem_of_getElem? (i := 467) (by decide +kernel), List.mem_of_getElem? (i := 468) (by decide +kernel)⟩
theorem lw_p35 : lw_okq (⟨"HawkRidge$Flock", "pairsIn", "(I)I"⟩, 11) := ⟨⟨by decide +kernel, by decide +kernel⟩, List.mem_of_getElem? (i := 121) (by decide +kernel), List.mem_of_getElem? (i := 472) (by decide +kernel), List.mem_of_getElem? (i := 473) (by decide +kernel)⟩
theorem lw_p36 : lw_okq (⟨"HawkRidge$Flock", "birdsIn", "(I)I"⟩, 11) := ⟨⟨by decide +kernel, by decide +kernel⟩, List.mem_of_getElem? (i := 121) (by decide +kernel), List.mem_of_getElem? (i := 476) (by decide +kernel), List.mem_of_getElem? (i := 477) (by decide +kernel)⟩
theorem lw_p37 : lw_okq (⟨"HawkRidge$Flock", "isBirdOf", "(II)Z"⟩, 11) := ⟨⟨by decide +kernel, by decide +kernel⟩, List.mem_of_getElem? (i := 121) (by decide +kernel), List.mem_of_getElem? (i := 480) (by decide +kernel), List.mem_of_getElem? (i := 481) (by decide +kernel)⟩
theorem lw_p38 : lw_okq (⟨"HawkRidge$Season", "hoursOff", "(I)I"⟩, 2) := ⟨⟨by decide +kernel, by decide +kernel⟩, List.mem_of_getElem? (i := 68) (by decide +kernel), List.mem_of_getElem? (i := 484) (by decide +kernel), List.mem_of_getElem? (i := 485) (by decide +kernel)⟩
theorem lw_p39 : lw_okq (⟨"HawkRidge", "missedOf", "(I)I"⟩, 10) := ⟨⟨by decide +kernel, by decide +kernel⟩, List.mem_of_getElem? (i := 18) (by decide +kernel), List.mem_of_getElem? (i := 490) (by decide +kernel), List.mem_of_getElem? (i := 491) (by decide +kernel)⟩
theorem lw_p40 : lw_okq (⟨"HawkRidge$Missed", "clear", "()V"⟩, 3) := ⟨⟨by decide +kernel, by decide +kernel⟩, List.mem_of_getElem? (i := 218) (by decide +kernel), List.mem_of_getElem? (i := 494) (by decide +kernel), List.mem_of_getElem? (i := 495) (by decide +kernel)⟩
theorem lw_p41 : lw_okq (⟨"HawkRidge$Season", "addHours", "(I[I[I)V"⟩, 2) := ⟨⟨by decide +kernel, by decide +kernel⟩, List.mem_of_getElem? (i := 68) (by decide +kernel), List.mem_of_getElem? (i := 498) (by decide +kernel), List.mem_of_getElem? (i := 499) (by decide +kernel)⟩
theorem lw_p42 : lw_okq (⟨"HawkRidge$Flock", "addWinds", "(ILHawkRidge$Season;[I)V"⟩, 11) := ⟨⟨by decide +kernel, by decide +kernel⟩, List.mem_of_getElem? (i := 121) (by decide +kernel), List.mem_of_getElem? (i := 502) (by decide +kernel), List.mem_of_getElem? (i := 503) (by decide +kernel)⟩
theorem lw_p43 : lw_okq (⟨"HawkRidge$Missed", "thousandths", "()I"⟩, 3) := ⟨⟨by decide +kernel, by decide +kernel⟩, List.mem_of_getElem? (i := 218) (by decide +kernel), List.mem_of_getElem? (i := 506) (by decide +kernel), List.mem_of_getElem? (i := 507) (by decide +kernel)⟩
theorem lw_p44 : lw_okq (⟨"HawkRidge", "totalOf", "(I)I"⟩, 10) := ⟨⟨by decide +kernel, by decide +kernel⟩, List.mem_of_getElem? (i := 18) (by decide +kernel), List.mem_of_getElem? (i := 514) (by decide +kernel), List.mem_of_getElem? (i := 515) (by decide +kernel)⟩
theorem lw_p45 : lw_okq (⟨"HawkRidge$Flock", "addSlots", "(II[I)I"⟩, 11) := ⟨⟨by decide +kernel, by decide +kernel⟩, List.mem_of_getElem? (i := 121) (by decide +kernel), List.mem_of_getElem? (i := 522) (by decide +kernel), List.mem_of_getElem? (i := 523) (by decide +kernel)⟩
theorem lw_p46 : lw_okq (⟨"HawkRidge", "slotOfNth", "(I)I"⟩, 10) := ⟨⟨by decide +kernel, by decide +kernel⟩, List.mem_of_getElem? (i := 18) (by decide +kernel), List.mem_of_getElem? (i := 528) (by decide +kernel), List.mem_of_getElem? (i := 529) (by decide +kernel)⟩
theorem lw_p47 : lw_okq (⟨"HawkRidge$KindTree", "leaves", "()I"⟩, 5) := ⟨⟨by decide +kernel, by decide +kernel⟩, List.mem_of_getElem? (i := 42) (by decide +kernel), List.mem_of_getElem? (i := 540) (by decide +kernel), List.mem_of_getElem? (i := 541) (by decide +kernel)⟩
def lw_privs_3 : List (MethodName × Nat) := [(⟨"HawkRidge$Flock", "pairYear", "(I)V"⟩, 11), (⟨"HawkRidge$Log", "isIn", "(II)Z"⟩, 7), (⟨"HawkRidge$Log", "shownIn", "(I)I"⟩, 7), (⟨"HawkRidge$Flock", "pairsIn", "(I)I"⟩, 11), (⟨"HawkRidge$Flock", "birdsIn", "(I)I"⟩, 11), (⟨"HawkRidge$Flock", "isBirdOf", "(II)Z"⟩, 11), (⟨"HawkRidge$Season", "hoursOff", "(I)I"⟩, 2), (⟨"HawkRidge", "missedOf", "(I)I"⟩, 10), (⟨"HawkRidge$Missed", "clear", "()V"⟩, 3), (⟨"HawkRidge$Season", "addHours", "(I[I[I)V"⟩, 2), (⟨"HawkRidge$Flock", "addWinds", "(ILHawkRidge$Season;[I)V"⟩, 11), (⟨"HawkRidge$Missed", "thousandths", "()I"⟩, 3), (⟨"HawkRidge", "totalOf", "(I)I"⟩, 10), (⟨"HawkRidge$Flock", "addSlots", "(II[I)I"⟩, 11), (⟨"HawkRidge", "slotOfNth", "(I)I"⟩, 10), (⟨"HawkRidge$KindTree", "leaves", "()I"⟩, 5)]
theorem lw_r3 : ∀ q ∈ lw_privs_3, lw_okq q := List.forall_mem_cons.mpr ⟨lw_p32, List.forall_mem_cons.mpr ⟨lw_p33, List.forall_mem_cons.mpr ⟨lw_p34, List.forall_mem_cons.mpr ⟨lw_p35, List.forall_mem_cons.mpr ⟨lw_p36, List.forall_mem_cons.mpr ⟨lw_p37, List.forall_mem_cons.mpr ⟨lw_p38, List.forall_mem_cons.mpr ⟨lw_p39, List.forall_mem_cons.mpr ⟨lw_p40, List.forall_mem_cons.mpr ⟨lw_p41, List.forall_mem_cons.mpr ⟨lw_p42, List.forall_mem_cons.mpr ⟨lw_p43, List.forall_mem_cons.mpr ⟨lw_p44, List.forall_mem_cons.mpr ⟨lw_p45, List.forall_mem_cons.mpr ⟨lw_p46, List.forall_mem_cons.mpr ⟨lw_p47, fun _ h => absurd h List.not_mem_nil⟩⟩⟩⟩⟩⟩⟩⟩⟩⟩⟩⟩⟩⟩⟩⟩
theorem lw_p48 : lw_okq (⟨"java/lang/Throwable", "fillInStackTrace", "(I)Ljava/lang/Throwable;"⟩, 6) := ⟨⟨by decide +kernel, by decide +kernel⟩, List.mem_of_getElem? (i := 588) (by decide +kernel), List.mem_of_getElem? (i := 586) (by decide +kernel), List.mem_of_getElem? (i := 587) (by decide +kernel)⟩
theorem lw_p49 : lw_okq (⟨"HawkRidge$Parting", "clear", "()V"⟩, 4) := ⟨⟨by decide +kernel, by decide +kernel⟩, List.mem_of_getElem? (i := 198) (by decide +kernel), List.mem_of_getElem? (i := 613) (by decide +kernel), List.mem_of_getElem? (i := 614) (by decide +kernel)⟩
theorem lw_p50 : lw_okq (⟨"HawkRidge$Flock", "addKinds", "(I[I)V"⟩, 11) := ⟨⟨by decide +kernel, by decide +kernel⟩, List.mem_of_getElem? (i := 121) (by decide +kernel), List.mem_of_getElem? (i := 617) (by decide +kernel), List.mem_of_getElem? (i := 618) (by decide +kernel)⟩
theorem lw_p51 : lw_okq (⟨"HawkRidge$Parting", "ownUnder", "(I)I"⟩, 4) := ⟨⟨by decide +kernel, by decide +kernel⟩, List.mem_of_getElem? (i := 198) (by decide +kernel), List.mem_of_getElem? (i := 621) (by decide +kernel), List.mem_of_getElem? (i := 622) (by decide +kernel)⟩
theorem lw_p52 : lw_okq (⟨"HawkRidge$Parting", "partAll", "()V"⟩, 4) := ⟨⟨by decide +kernel, by decide +kernel⟩, List.mem_of_getElem? (i := 198) (by decide +kernel), List.mem_of_getElem? (i := 626) (by decide +kernel), List.mem_of_getElem? (i := 627) (by decide +kernel)⟩
theorem lw_p53 : lw_okq (⟨"HawkRidge$Parting", "part", "(I)V"⟩, 4) := ⟨⟨by decide +kernel, by decide +kernel⟩, List.mem_of_getElem? (i := 198) (by decide +kernel), List.mem_of_getElem? (i := 630) (by decide +kernel), List.mem_of_getElem? (i := 631) (by decide +kernel)⟩
theorem lw_p54 : lw_okq (⟨"HawkRidge$KindTree", "isLeafUnder", "(II)Z"⟩, 5) := ⟨⟨by decide +kernel, by decide +kernel⟩, List.mem_of_getElem? (i := 42) (by decide +kernel), List.mem_of_getElem? (i := 634) (by decide +kernel), List.mem_of_getElem? (i := 635) (by decide +kernel)⟩
theorem lw_p55 : lw_okq (⟨"HawkRidge$Parting", "giveToGreatestRest", "()V"⟩, 4) := ⟨⟨by decide +kernel, by decide +kernel⟩, List.mem_of_getElem? (i := 198) (by decide +kernel), List.mem_of_getElem? (i := 638) (by decide +kernel), List.mem_of_getElem? (i := 639) (by decide +kernel)⟩
theorem lw_p56 : lw_okq (⟨"HawkRidge$Parting", "numberUnder", "(I)I"⟩, 4) := ⟨⟨by decide +kernel, by decide +kernel⟩, List.mem_of_getElem? (i := 198) (by decide +kernel), List.mem_of_getElem? (i := 642) (by decide +kernel), List.mem_of_getElem? (i := 643) (by decide +kernel)⟩
theorem lw_p57 : lw_okq (⟨"HawkRidge$Log", "has", "(I)Z"⟩, 7) := ⟨⟨by decide +kernel, by decide +kernel⟩, List.mem_of_getElem? (i := 83) (by decide +kernel), List.mem_of_getElem? (i := 653) (by decide +kernel), List.mem_of_getElem? (i := 654) (by decide +kernel)⟩
theorem lw_p58 : lw_okq (⟨"HawkRidgeModel", "isKind", "(I)Z"⟩, 34) := ⟨⟨by decide +kernel, by decide +kernel⟩, List.mem_of_getElem? (i := 661) (by decide +kernel), List.mem_of_getElem? (i := 779) (by decide +kernel), List.mem_of_getElem? (i := 780) (by decide +kernel)⟩
theorem lw_p59 : lw_okq (⟨"HawkRidgeModel", "isKnown", "(I)Z"⟩, 34) := ⟨⟨by decide +kernel, by decide +kernel⟩, List.mem_of_getElem? (i := 661) (by decide +kernel), List.mem_of_getElem? (i := 813) (by decide +kernel), List.mem_of_getElem? (i := 814) (by decide +kernel)⟩
theorem lw_p60 : lw_okq (⟨"HawkRidgeModel", "pairsOf", "(I)V"⟩, 34) := ⟨⟨by decide +kernel, by decide +kernel⟩, List.mem_of_getElem? (i := 661) (by decide +kernel), List.mem_of_getElem? (i := 817) (by decide +kernel), List.mem_of_getElem? (i := 818) (by decide +kernel)⟩
theorem lw_p61 : lw_okq (⟨"HawkRidgeModel", "pairs", "(III)V"⟩, 34) := ⟨⟨by decide +kernel, by decide +kernel⟩, List.mem_of_getElem? (i := 661) (by decide +kernel), List.mem_of_getElem? (i := 821) (by decide +kernel), List.mem_of_getElem? (i := 822) (by decide +kernel)⟩
theorem lw_p62 : lw_okq (⟨"HawkRidgeModel", "collect", "(III)V"⟩, 34) := ⟨⟨by decide +kernel, by decide +kernel⟩, List.mem_of_getElem? (i := 661) (by decide +kernel), List.mem_of_getElem? (i := 825) (by decide +kernel), List.mem_of_getElem? (i := 826) (by decide +kernel)⟩
theorem lw_p63 : lw_okq (⟨"HawkRidgeModel", "meets", "(II)Z"⟩, 34) := ⟨⟨by decide +kernel, by decide +kernel⟩, List.mem_of_getElem? (i := 661) (by decide +kernel), List.mem_of_getElem? (i := 829) (by decide +kernel), List.mem_of_getElem? (i := 830) (by decide +kernel)⟩
def lw_privs_4 : List (MethodName × Nat) := [(⟨"java/lang/Throwable", "fillInStackTrace", "(I)Ljava/lang/Throwable;"⟩, 6), (⟨"HawkRidge$Parting", "clear", "()V"⟩, 4), (⟨"HawkRidge$Flock", "addKinds", "(I[I)V"⟩, 11), (⟨"HawkRidge$Parting", "ownUnder", "(I)I"⟩, 4), (⟨"HawkRidge$Parting", "partAll", "()V"⟩, 4), (⟨"HawkRidge$Parting", "part", "(I)V"⟩, 4), (⟨"HawkRidge$KindTree", "isLeafUnder", "(II)Z"⟩, 5), (⟨"HawkRidge$Parting", "giveToGreatestRest", "()V"⟩, 4), (⟨"HawkRidge$Parting", "numberUnder", "(I)I"⟩, 4), (⟨"HawkRidge$Log", "has", "(I)Z"⟩, 7), (⟨"HawkRidgeModel", "isKind", "(I)Z"⟩, 34), (⟨"HawkRidgeModel", "isKnown", "(I)Z"⟩, 34), (⟨"HawkRidgeModel", "pairsOf", "(I)V"⟩, 34), (⟨"HawkRidgeModel", "pairs", "(III)V"⟩, 34), (⟨"HawkRidgeModel", "collect", "(III)V"⟩, 34), (⟨"HawkRidgeModel", "meets", "(II)Z"⟩, 34)]
theorem lw_r4 : ∀ q ∈ lw_privs_4, lw_okq q := List.forall_mem_cons.mpr ⟨lw_p48, List.forall_mem_cons.mpr ⟨lw_p49, List.forall_mem_cons.mpr ⟨lw_p50, List.forall_mem_cons.mpr ⟨lw_p51, List.forall_mem_cons.mpr ⟨lw_p52, List.forall_mem_cons.mpr ⟨lw_p53, List.forall_mem_cons.mpr ⟨lw_p54, List.forall_mem_cons.mpr ⟨lw_p55, List.forall_mem_cons.mpr ⟨lw_p56, List.forall_mem_cons.mpr ⟨lw_p57, List.forall_mem_cons.mpr ⟨lw_p58, List.forall_mem_cons.mpr ⟨lw_p59, List.forall_mem_cons.mpr ⟨lw_p60, List.forall_mem_cons.mpr ⟨lw_p61, List.forall_mem_cons.mpr ⟨lw_p62, List.forall_mem_cons.mpr ⟨lw_p63, fun _ h => absurd h List.not_mem_nil⟩⟩⟩⟩⟩⟩⟩⟩⟩⟩⟩⟩⟩⟩⟩⟩
theorem lw_p64 : lw_okq (⟨"HawkRidgeModel", "isUnder", "(II)Z"⟩, 34) := ⟨⟨by decide +kernel, by decide +kernel⟩, List.mem_of_getElem? (i := 661) (by decide +kernel), List.mem_of_getElem? (i := 833) (by decide +kernel), List.mem_of_getElem? (i := 834) (by decide +kernel)⟩
theorem lw_p65 : lw_okq (⟨"HawkRidgeModel", "depth", "(I)I"⟩, 34) := ⟨⟨by decide +kernel, by decide +kernel⟩, List.mem_of_getElem? (i := 661) (by decide +kernel), List.mem_of_getElem? (i := 837) (by decide +kernel), List.mem_of_getElem? (i := 838) (by decide +kernel)⟩
theorem lw_p66 : lw_okq (⟨"HawkRidgeModel", "most", "()I"⟩, 34) := ⟨⟨by decide +kernel, by decide +kernel⟩, List.mem_of_getElem? (i := 661) (by decide +kernel), List.mem_of_getElem? (i := 841) (by decide +kernel), List.mem_of_getElem? (i := 842) (by decide +kernel)⟩
theorem lw_p67 : lw_okq (⟨"HawkRidgeModel", "finds", "(I)Z"⟩, 34) := ⟨⟨by decide +kernel, by decide +kernel⟩, List.mem_of_getElem? (i := 661) (by decide +kernel), List.mem_of_getElem? (i := 845) (by decide +kernel), List.mem_of_getElem? (i := 846) (by decide +kernel)⟩
theorem lw_p68 : lw_okq (⟨"HawkRidgeModel", "firstOf", "(I)I"⟩, 34) := ⟨⟨by decide +kernel, by decide +kernel⟩, List.mem_of_getElem? (i := 661) (by decide +kernel), List.mem_of_getElem? (i := 853) (by decide +kernel), List.mem_of_getElem? (i := 854) (by decide +kernel)⟩
theorem lw_p69 : lw_okq (⟨"HawkRidgeModel", "just", "(II)I"⟩, 34) := ⟨⟨by decide +kernel, by decide +kernel⟩, List.mem_of_getElem? (i := 661) (by decide +kernel), List.mem_of_getElem? (i := 861) (by decide +kernel), List.mem_of_getElem? (i := 862) (by decide +kernel)⟩
theorem lw_p70 : lw_okq (⟨"HawkRidgeModel", "isBird", "(II)Z"⟩, 34) := ⟨⟨by decide +kernel, by decide +kernel⟩, List.mem_of_getElem? (i := 661) (by decide +kernel), List.mem_of_getElem? (i := 865) (by decide +kernel), List.mem_of_getElem? (i := 866) (by decide +kernel)⟩
theorem lw_p71 : lw_okq (⟨"HawkRidgeModel", "kindOfBird", "(I)I"⟩, 34) := ⟨⟨by decide +kernel, by decide +kernel⟩, List.mem_of_getElem? (i := 661) (by decide +kernel), List.mem_of_getElem? (i := 869) (by decide +kernel), List.mem_of_getElem? (i := 870) (by decide +kernel)⟩
theorem lw_p72 : lw_okq (⟨"HawkRidgeModel", "numbers", "(I)V"⟩, 34) := ⟨⟨by decide +kernel, by decide +kernel⟩, List.mem_of_getElem? (i := 661) (by decide +kernel), List.mem_of_getElem? (i := 873) (by decide +kernel), List.mem_of_getElem? (i := 874) (by decide +kernel)⟩
theorem lw_p73 : lw_okq (⟨"HawkRidgeModel", "isLeaf", "(I)Z"⟩, 34) := ⟨⟨by decide +kernel, by decide +kernel⟩, List.mem_of_getElem? (i := 661) (by decide +kernel), List.mem_of_getElem? (i := 877) (by decide +kernel), List.mem_of_getElem? (i := 878) (by decide +kernel)⟩
theorem lw_p74 : lw_okq (⟨"HawkRidgeModel", "parts", "(I)V"⟩, 34) := ⟨⟨by decide +kernel, by decide +kernel⟩, List.mem_of_getElem? (i := 661) (by decide +kernel), List.mem_of_getElem? (i := 881) (by decide +kernel), List.mem_of_getElem? (i := 882) (by decide +kernel)⟩
theorem lw_p75 : lw_okq (⟨"HawkRidgeModel", "isLeafOf", "(II)Z"⟩, 34) := ⟨⟨by decide +kernel, by decide +kernel⟩, List.mem_of_getElem? (i := 661) (by decide +kernel), List.mem_of_getElem? (i := 885) (by decide +kernel), List.mem_of_getElem? (i := 886) (by decide +kernel)⟩
theorem lw_p76 : lw_okq (⟨"HawkRidgeModel", "birdsOf", "(II)I"⟩, 34) := ⟨⟨by decide +kernel, by decide +kernel⟩, List.mem_of_getElem? (i := 661) (by decide +kernel), List.mem_of_getElem? (i := 893) (by decide +kernel), List.mem_of_getElem? (i := 894) (by decide +kernel)⟩
theorem lw_p77 : lw_okq (⟨"HawkRidgeModel", "hoursOf", "(IIZ)I"⟩, 34) := ⟨⟨by decide +kernel, by decide +kernel⟩, List.mem_of_getElem? (i := 661) (by decide +kernel), List.mem_of_getElem? (i := 897) (by decide +kernel), List.mem_of_getElem? (i := 898) (by decide +kernel)⟩
theorem lw_p78 : lw_okq (⟨"HawkRidgeModel", "missed", "(I)J"⟩, 34) := ⟨⟨by decide +kernel, by decide +kernel⟩, List.mem_of_getElem? (i := 661) (by decide +kernel), List.mem_of_getElem? (i := 901) (by decide +kernel), List.mem_of_getElem? (i := 902) (by decide +kernel)⟩
theorem lw_p79 : lw_okq (⟨"HawkRidgeModel", "total", "(I)J"⟩, 34) := ⟨⟨by decide +kernel, by decide +kernel⟩, List.mem_of_getElem? (i := 661) (by decide +kernel), List.mem_of_getElem? (i := 906) (by decide +kernel), List.mem_of_getElem? (i := 907) (by decide +kernel)⟩
def lw_privs_5 : List (MethodName × Nat) := [(⟨"HawkRidgeModel", "isUnder", "(II)Z"⟩, 34), (⟨"HawkRidgeModel", "depth", "(I)I"⟩, 34), (⟨"HawkRidgeModel", "most", "()I"⟩, 34), (⟨"HawkRidgeModel", "finds", "(I)Z"⟩, 34), (⟨"HawkRidgeModel", "firstOf", "(I)I"⟩, 34), (⟨"HawkRidgeModel", "just", "(II)I"⟩, 34), (⟨"HawkRidgeModel", "isBird", "(II)Z"⟩, 34), (⟨"HawkRidgeModel", "kindOfBird", "(I)I"⟩, 34), (⟨"HawkRidgeModel", "numbers", "(I)V"⟩, 34), (⟨"HawkRidgeModel", "isLeaf", "(I)Z"⟩, 34), (⟨"HawkRidgeModel", "parts", "(I)V"⟩, 34), (⟨"HawkRidgeModel", "isLeafOf", "(II)Z"⟩, 34), (⟨"HawkRidgeModel", "birdsOf", "(II)I"⟩, 34), (⟨"HawkRidgeModel", "hoursOf", "(IIZ)I"⟩, 34), (⟨"HawkRidgeModel", "missed", "(I)J"⟩, 34), (⟨"HawkRidgeModel", "total", "(I)J"⟩, 34)]
theorem lw_r5 : ∀ q ∈ lw_privs_5, lw_okq q := List.forall_mem_cons.mpr ⟨lw_p64, List.forall_mem_cons.mpr ⟨lw_p65, List.forall_mem_cons.mpr ⟨lw_p66, List.forall_mem_cons.mpr ⟨lw_p67, List.forall_mem_cons.mpr ⟨lw_p68, List.forall_mem_cons.mpr ⟨lw_p69, List.forall_mem_cons.mpr ⟨lw_p70, List.forall_mem_cons.mpr ⟨lw_p71, List.forall_mem_cons.mpr ⟨lw_p72, List.forall_mem_cons.mpr ⟨lw_p73, List.forall_mem_cons.mpr ⟨lw_p74, List.forall_mem_cons.mpr ⟨lw_p75, List.forall_mem_cons.mpr ⟨lw_p76, List.forall_mem_cons.mpr ⟨lw_p77, List.forall_mem_cons.mpr ⟨lw_p78, List.forall_mem_cons.mpr ⟨lw_p79, fun _ h => absurd h List.not_mem_nil⟩⟩⟩⟩⟩⟩⟩⟩⟩⟩⟩⟩⟩⟩⟩⟩
theorem lw_p80 : lw_okq (⟨"HawkRidgeModel", "comeBy", "(III)I"⟩, 34) := ⟨⟨by decide +kernel, by decide +kernel⟩, List.mem_of_getElem? (i := 661) (by decide +kernel), List.mem_of_getElem? (i := 914) (by decide +kernel), List.mem_of_getElem? (i := 915) (by decide +kernel)⟩
def lw_privs_6 : List (MethodName × Nat) := [(⟨"HawkRidgeModel", "comeBy", "(III)I"⟩, 34)]
theorem lw_r6 : ∀ q ∈ lw_privs_6, lw_okq q := List.forall_mem_cons.mpr ⟨lw_p80, fun _ h => absurd h List.not_mem_nil⟩
def lw_privs : List (MethodName × Nat) := lw_privs_1 ++ (lw_privs_2 ++ (lw_privs_3 ++ (lw_privs_4 ++ (lw_privs_5 ++ (lw_privs_6)))))
def lw_tbl : List Cond := k2_sels lw_privs ++ tables_1
theorem lw_privs_ok : ∀ q ∈ lw_privs, lw_okq q := by
  show ∀ q ∈ lw_privs_1 ++ (lw_privs_2 ++ (lw_privs_3 ++ (lw_privs_4 ++ (lw_privs_5 ++ (lw_privs_6))))), lw_okq q
  exact List.forall_mem_append.mpr ⟨lw_r1, List.forall_mem_append.mpr ⟨lw_r2, List.forall_mem_append.mpr ⟨lw_r3, List.forall_mem_append.mpr ⟨lw_r4, List.forall_mem_append.mpr ⟨lw_r5, lw_r6⟩⟩⟩⟩⟩
end
section
def RX0 : String := "HawkRidge$Flock"
def TX0 : u_T := fun k => match k with
  | 0 => ("HawkRidge$Flock", "ridge", "LHawkRidge$Ridge;", true)
  | 1 => ("HawkRidge$Flock", "kinds", "LHawkRidge$KindTree;", true)
  | 2 => ("HawkRidge$Flock", "log", "LHawkRidge$Log;", true)
  | 3 => ("HawkRidge$Flock", "matcher", "LHawkRidge$Matcher;", true)
  | 4 => ("HawkRidge$Flock", "isPaired", "[Z", true)
  | 5 => ("HawkRidge$Flock", "above", "[I", true)
  | 6 => ("HawkRidge$Flock", "below", "[I", true)
  | 7 => ("HawkRidge$Flock", "first", "[I", true)
  | 8 => ("HawkRidge$Flock", "birdKind", "[I", true)
  | 9 => ("HawkRidge$Flock", "here", "[I", true)
  | _ => ("HawkRidge$Flock", "next", "[I", true)
def tyX0 : Nat → FieldType := fun k => match k with
  | 0 => .object "HawkRidge$Ridge"
  | 1 => .object "HawkRidge$KindTree"
  | 2 => .object "HawkRidge$Log"
  | 3 => .object "HawkRidge$Matcher"
  | 4 => .array .boolean
  | 5 => .array .int
  | 6 => .array .int
  | 7 => .array .int
  | 8 => .array .int
  | 9 => .array .int
  | _ => .array .int
abbrev wsX00 : List Cond := u_ws RX0 TX0 11
theorem nmX0 : ∀ a, a < 11 → ∀ b, b < 11 → a ≠ b → (TX0 a).2.1 ≠ (TX0 b).2.1 := by decide +kernel
theorem tyX0_ok : ∀ k, k < 11 → parseFieldDescriptor (TX0 k).2.2.1 = some (tyX0 k) := by decide +kernel
abbrev cX0_init : ByteArray := prog_2_method_1_code
def yX0_init : MethodName := ⟨RX0, "<init>", "(LHawkRidge$Ridge;LHawkRidge$KindTree;LHawkRidge$Log;)V"⟩
abbrev cX0_forget : ByteArray := prog_2_method_2_code
def yX0_forget : MethodName := ⟨RX0, "forget", "(I)V"⟩
abbrev cX0_forgetAll : ByteArray := prog_2_method_3_code
def yX0_forgetAll : MethodName := ⟨RX0, "forgetAll", "()V"⟩
abbrev cX0_pairYear : ByteArray := prog_2_method_4_code
def yX0_pairYear : MethodName := ⟨RX0, "pairYear", "(I)V"⟩
abbrev cX0_pairDate : ByteArray := prog_2_method_5_code
def yX0_pairDate : MethodName := ⟨RX0, "pairDate", "(I)V"⟩
abbrev cX0_pairPosts : ByteArray := prog_2_method_6_code
def yX0_pairPosts : MethodName := ⟨RX0, "pairPosts", "(II)V"⟩
abbrev cX0_meet : ByteArray := prog_2_method_7_code
def yX0_meet : MethodName := ⟨RX0, "meet", "(III)Z"⟩
abbrev cX0_followBirds : ByteArray := prog_2_method_8_code
def yX0_followBirds : MethodName := ⟨RX0, "followBirds", "(II)V"⟩
abbrev cX0_isBirdOf : ByteArray := prog_2_method_9_code
def yX0_isBirdOf : MethodName := ⟨RX0, "isBirdOf", "(II)Z"⟩
abbrev cX0_pairsIn : ByteArray := prog_2_method_10_code
def yX0_pairsIn : MethodName := ⟨RX0, "pairsIn", "(I)I"⟩
abbrev cX0_birdsIn : ByteArray := prog_2_method_11_code
def yX0_birdsIn : MethodName := ⟨RX0, "birdsIn", "(I)I"⟩
abbrev cX0_addKinds : ByteArray := prog_2_method_12_code
def yX0_addKinds : MethodName := ⟨RX0, "addKinds", "(I[I)V"⟩
abbrev cX0_addWinds : ByteArray := prog_2_method_13_code
def yX0_addWinds : MethodName := ⟨RX0, "addWinds", "(ILHawkRidge$Season;[I)V"⟩
abbrev cX0_addSlots : ByteArray := prog_2_method_14_code
def yX0_addSlots : MethodName := ⟨RX0, "addSlots", "(II[I)I"⟩
def RX1 : String := "HawkRidge$KindTree"
def TX1 : u_T := fun k => match k with
  | 0 => ("HawkRidge$KindTree", "slowest", "[I", true)
  | 1 => ("HawkRidge$KindTree", "fastest", "[I", true)
  | 2 => ("HawkRidge$KindTree", "upward", "[I", true)
  | 3 => ("HawkRidge$KindTree", "isLeaf", "[Z", true)
  | _ => ("HawkRidge$KindTree", "size", "I", false)
def tyX1 : Nat → FieldType := fun k => match k with
  | 0 => .array .int
  | 1 => .array .int
  | 2 => .array .int
  | 3 => .array .boolean
  | _ => .int
abbrev wsX10 : List Cond := u_ws RX1 TX1 5
theorem nmX1 : ∀ a, a < 5 → ∀ b, b < 5 → a ≠ b → (TX1 a).2.1 ≠ (TX1 b).2.1 := by decide +kernel
theorem tyX1_ok : ∀ k, k < 5 → parseFieldDescriptor (TX1 k).2.2.1 = some (tyX1 k) := by decide +kernel
abbrev cX1_init : ByteArray := prog_3_method_1_code
def yX1_init : MethodName := ⟨RX1, "<init>", "()V"⟩
abbrev cX1_has : ByteArray := prog_3_method_2_code
def yX1_has : MethodName := ⟨RX1, "has", "(I)Z"⟩
abbrev cX1_add : ByteArray := prog_3_method_3_code
def yX1_add : MethodName := ⟨RX1, "add", "(III)I"⟩
abbrev cX1_isUnder : ByteArray := prog_3_method_4_code
def yX1_isUnder : MethodName := ⟨RX1, "isUnder", "(II)Z"⟩
abbrev cX1_isLeafUnder : ByteArray := prog_3_method_5_code
def yX1_isLeafUnder : MethodName := ⟨RX1, "isLeafUnder", "(II)Z"⟩
abbrev cX1_depth : ByteArray := prog_3_method_6_code
def yX1_depth : MethodName := ⟨RX1, "depth", "(I)I"⟩
abbrev cX1_leaves : ByteArray := prog_3_method_7_code
def yX1_leaves : MethodName := ⟨RX1, "leaves", "()I"⟩
abbrev cX1_deeperOf : ByteArray := prog_3_method_8_code
def yX1_deeperOf : MethodName := ⟨RX1, "deeperOf", "(II)I"⟩
abbrev cX1_canFly : ByteArray := prog_3_method_9_code
def yX1_canFly : MethodName := ⟨RX1, "canFly", "(III)Z"⟩
def RX2 : String := "HawkRidge$Log"
def TX2 : u_T := fun k => match k with
  | 0 => ("HawkRidge$Log", "dateOf", "[I", true)
  | 1 => ("HawkRidge$Log", "minuteOf", "[I", true)
  | 2 => ("HawkRidge$Log", "postOf", "[I", true)
  | 3 => ("HawkRidge$Log", "kindOf", "[I", true)
  | 4 => ("HawkRidge$Log", "since", "[I", true)
  | 5 => ("HawkRidge$Log", "size", "I", false)
  | _ => ("HawkRidge$Log", "shown", "I", false)
def tyX2 : Nat → FieldType := fun k => match k with
  | 0 => .array .int
  | 1 => .array .int
  | 2 => .array .int
  | 3 => .array .int
  | 4 => .array .int
  | 5 => .int
  | _ => .int
abbrev wsX20 : List Cond := u_ws RX2 TX2 7
theorem nmX2 : ∀ a, a < 7 → ∀ b, b < 7 → a ≠ b → (TX2 a).2.1 ≠ (TX2 b).2.1 := by decide +kernel
theorem tyX2_ok : ∀ k, k < 7 → parseFieldDescriptor (TX2 k).2.2.1 = some (tyX2 k) := by decide +kernel
abbrev cX2_init : ByteArray := prog_4_method_1_code
def yX2_init : MethodName := ⟨RX2, "<init>", "()V"⟩
abbrev cX2_has : ByteArray := prog_4_method_2_code
def yX2_has : MethodName := ⟨RX2, "has", "(I)Z"⟩
abbrev cX2_shows : ByteArray := prog_4_method_3_code
def yX2_shows : MethodName := ⟨RX2, "shows", "(I)Z"⟩
abbrev cX2_add : ByteArray := prog_4_method_4_code
def yX2_add : MethodName := ⟨RX2, "add", "(IIIII)I"⟩
abbrev cX2_showUpTo : ByteArray := prog_4_method_5_code
def yX2_showUpTo : MethodName := ⟨RX2, "showUpTo", "(I)V"⟩
abbrev cX2_hour : ByteArray := prog_4_method_6_code
def yX2_hour : MethodName := ⟨RX2, "hour", "(I)I"⟩
abbrev cX2_toldAt : ByteArray := prog_4_method_7_code
def yX2_toldAt : MethodName := ⟨RX2, "toldAt", "(II)I"⟩
abbrev cX2_hasIn : ByteArray := prog_4_method_8_code
def yX2_hasIn : MethodName := ⟨RX2, "hasIn", "(II)Z"⟩
abbrev cX2_isIn : ByteArray := prog_4_method_9_code
def yX2_isIn : MethodName := ⟨RX2, "isIn", "(II)Z"⟩
abbrev cX2_shownIn : ByteArray := prog_4_method_10_code
def yX2_shownIn : MethodName := ⟨RX2, "shownIn", "(I)I"⟩
abbrev cX2_gather : ByteArray := prog_4_method_11_code
def yX2_gather : MethodName := ⟨RX2, "gather", "(II[I)I"⟩
def RX3 : String := "HawkRidge$Matcher"
def TX3 : u_T := fun k => match k with
  | 0 => ("HawkRidge$Matcher", "meets", "[I", true)
  | 1 => ("HawkRidge$Matcher", "mate", "[I", true)
  | 2 => ("HawkRidge$Matcher", "owner", "[I", true)
  | 3 => ("HawkRidge$Matcher", "keptMate", "[I", true)
  | 4 => ("HawkRidge$Matcher", "keptOwner", "[I", true)
  | 5 => ("HawkRidge$Matcher", "lefts", "I", false)
  | 6 => ("HawkRidge$Matcher", "rights", "I", false)
  | 7 => ("HawkRidge$Matcher", "settled", "I", false)
  | _ => ("HawkRidge$Matcher", "tried", "I", false)
def tyX3 : Nat → FieldType := fun k => match k with
  | 0 => .array .int
  | 1 => .array .int
  | 2 => .array .int
  | 3 => .array .int
  | 4 => .array .int
  | 5 => .int
  | 6 => .int
  | 7 => .int
  | _ => .int
abbrev wsX30 : List Cond := u_ws RX3 TX3 9
theorem nmX3 : ∀ a, a < 9 → ∀ b, b < 9 → a ≠ b → (TX3 a).2.1 ≠ (TX3 b).2.1 := by decide +kernel
theorem tyX3_ok : ∀ k, k < 9 → parseFieldDescriptor (TX3 k).2.2.1 = some (tyX3 k) := by decide +kernel
abbrev cX3_init : ByteArray := prog_5_method_1_code
def yX3_init : MethodName := ⟨RX3, "<init>", "()V"⟩
abbrev cX3_start : ByteArray := prog_5_method_2_code
def yX3_start : MethodName := ⟨RX3, "start", "(II)V"⟩
abbrev cX3_allow : ByteArray := prog_5_method_3_code
def yX3_allow : MethodName := ⟨RX3, "allow", "(II)V"⟩
abbrev cX3_solve : ByteArray := prog_5_method_4_code
def yX3_solve : MethodName := ⟨RX3, "solve", "()V"⟩
abbrev cX3_canTake : ByteArray := prog_5_method_5_code
def yX3_canTake : MethodName := ⟨RX3, "canTake", "(II)Z"⟩
abbrev cX3_reach : ByteArray := prog_5_method_6_code
def yX3_reach : MethodName := ⟨RX3, "reach", "(II)Z"⟩
abbrev cX3_keep : ByteArray := prog_5_method_7_code
def yX3_keep : MethodName := ⟨RX3, "keep", "()V"⟩
abbrev cX3_restore : ByteArray := prog_5_method_8_code
def yX3_restore : MethodName := ⟨RX3, "restore", "()V"⟩
def RX4 : String := "HawkRidge$Missed"
def TX4 : u_T := fun k => match k with
  | 0 => ("HawkRidge$Missed", "seen", "[I", true)
  | 1 => ("HawkRidge$Missed", "open", "[I", true)
  | _ => ("HawkRidge$Missed", "shut", "[I", true)
def tyX4 : Nat → FieldType := fun k => match k with
  | 0 => .array .int
  | 1 => .array .int
  | _ => .array .int
abbrev wsX40 : List Cond := u_ws RX4 TX4 3
theorem nmX4 : ∀ a, a < 3 → ∀ b, b < 3 → a ≠ b → (TX4 a).2.1 ≠ (TX4 b).2.1 := by decide +kernel
theorem tyX4_ok : ∀ k, k < 3 → parseFieldDescriptor (TX4 k).2.2.1 = some (tyX4 k) := by decide +kernel
abbrev cX4_init : ByteArray := prog_6_method_1_code
def yX4_init : MethodName := ⟨RX4, "<init>", "()V"⟩
abbrev cX4_clear : ByteArray := prog_6_method_2_code
def yX4_clear : MethodName := ⟨RX4, "clear", "()V"⟩
abbrev cX4_sum : ByteArray := prog_6_method_3_code
def yX4_sum : MethodName := ⟨RX4, "sum", "([I)I"⟩
abbrev cX4_thousandths : ByteArray := prog_6_method_4_code
def yX4_thousandths : MethodName := ⟨RX4, "thousandths", "()I"⟩
def RX5 : String := "HawkRidge$Parting"
def TX5 : u_T := fun k => match k with
  | 0 => ("HawkRidge$Parting", "kinds", "LHawkRidge$KindTree;", true)
  | 1 => ("HawkRidge$Parting", "own", "[I", true)
  | 2 => ("HawkRidge$Parting", "number", "[I", true)
  | _ => ("HawkRidge$Parting", "rest", "[I", true)
def tyX5 : Nat → FieldType := fun k => match k with
  | 0 => .object "HawkRidge$KindTree"
  | 1 => .array .int
  | 2 => .array .int
  | _ => .array .int
abbrev wsX50 : List Cond := u_ws RX5 TX5 4
theorem nmX5 : ∀ a, a < 4 → ∀ b, b < 4 → a ≠ b → (TX5 a).2.1 ≠ (TX5 b).2.1 := by decide +kernel
theorem tyX5_ok : ∀ k, k < 4 → parseFieldDescriptor (TX5 k).2.2.1 = some (tyX5 k) := by decide +kernel
abbrev cX5_init : ByteArray := prog_7_method_1_code
def yX5_init : MethodName := ⟨RX5, "<init>", "(LHawkRidge$KindTree;)V"⟩
abbrev cX5_clear : ByteArray := prog_7_method_2_code
def yX5_clear : MethodName := ⟨RX5, "clear", "()V"⟩
abbrev cX5_ownUnder : ByteArray := prog_7_method_3_code
def yX5_ownUnder : MethodName := ⟨RX5, "ownUnder", "(I)I"⟩
abbrev cX5_numberUnder : ByteArray := prog_7_method_4_code
def yX5_numberUnder : MethodName := ⟨RX5, "numberUnder", "(I)I"⟩
abbrev cX5_partAll : ByteArray := prog_7_method_5_code
def yX5_partAll : MethodName := ⟨RX5, "partAll", "()V"⟩
abbrev cX5_part : ByteArray := prog_7_method_6_code
def yX5_part : MethodName := ⟨RX5, "part", "(I)V"⟩
abbrev cX5_giveToGreatestRest : ByteArray := prog_7_method_7_code
def yX5_giveToGreatestRest : MethodName := ⟨RX5, "giveToGreatestRest", "()V"⟩
def RX6 : String := "HawkRidge$Ridge"
def TX6 : u_T := fun k => match k with
  | 0 => ("HawkRidge$Ridge", "place", "[I", true)
  | _ => ("HawkRidge$Ridge", "size", "I", false)
def tyX6 : Nat → FieldType := fun k => match k with
  | 0 => .array .int
  | _ => .int
abbrev wsX60 : List Cond := u_ws RX6 TX6 2
theorem nmX6 : ∀ a, a < 2 → ∀ b, b < 2 → a ≠ b → (TX6 a).2.1 ≠ (TX6 b).2.1 := by decide +kernel
theorem tyX6_ok : ∀ k, k < 2 → parseFieldDescriptor (TX6 k).2.2.1 = some (tyX6 k) := by decide +kernel
abbrev cX6_init : ByteArray := prog_8_method_1_code
def yX6_init : MethodName := ⟨RX6, "<init>", "()V"⟩
abbrev cX6_has : ByteArray := prog_8_method_2_code
def yX6_has : MethodName := ⟨RX6, "has", "(I)Z"⟩
abbrev cX6_add : ByteArray := prog_8_method_3_code
def yX6_add : MethodName := ⟨RX6, "add", "(I)I"⟩
abbrev cX6_wayToNext : ByteArray := prog_8_method_4_code
def yX6_wayToNext : MethodName := ⟨RX6, "wayToNext", "(I)I"⟩
def RX7 : String := "HawkRidge$Season"
def TX7 : u_T := fun k => match k with
  | 0 => ("HawkRidge$Season", "windOf", "[I", true)
  | _ => ("HawkRidge$Season", "shutHours", "[I", true)
def tyX7 : Nat → FieldType := fun k => match k with
  | 0 => .array .int
  | _ => .array .int
abbrev wsX70 : List Cond := u_ws RX7 TX7 2
theorem nmX7 : ∀ a, a < 2 → ∀ b, b < 2 → a ≠ b → (TX7 a).2.1 ≠ (TX7 b).2.1 := by decide +kernel
theorem tyX7_ok : ∀ k, k < 2 → parseFieldDescriptor (TX7 k).2.2.1 = some (tyX7 k) := by decide +kernel
abbrev cX7_init : ByteArray := prog_9_method_1_code
def yX7_init : MethodName := ⟨RX7, "<init>", "()V"⟩
abbrev cX7_isOff : ByteArray := prog_9_method_2_code
def yX7_isOff : MethodName := ⟨RX7, "isOff", "(II)Z"⟩
abbrev cX7_turn : ByteArray := prog_9_method_3_code
def yX7_turn : MethodName := ⟨RX7, "turn", "(II)V"⟩
abbrev cX7_hoursOff : ByteArray := prog_9_method_4_code
def yX7_hoursOff : MethodName := ⟨RX7, "hoursOff", "(I)I"⟩
abbrev cX7_addHours : ByteArray := prog_9_method_5_code
def yX7_addHours : MethodName := ⟨RX7, "addHours", "(I[I[I)V"⟩
def RX8 : String := "HawkRidge"
def TX8 : u_T := fun k => match k with
  | 0 => ("HawkRidge", "ridge", "LHawkRidge$Ridge;", true)
  | 1 => ("HawkRidge", "kinds", "LHawkRidge$KindTree;", true)
  | 2 => ("HawkRidge", "season", "LHawkRidge$Season;", true)
  | 3 => ("HawkRidge", "log", "LHawkRidge$Log;", true)
  | 4 => ("HawkRidge", "flock", "LHawkRidge$Flock;", true)
  | 5 => ("HawkRidge", "parting", "LHawkRidge$Parting;", true)
  | 6 => ("HawkRidge", "missed", "LHawkRidge$Missed;", true)
  | 7 => ("HawkRidge", "slots", "[I", true)
  | 8 => ("HawkRidge", "now", "I", false)
  | _ => ("HawkRidge", "asKnown", "I", false)
def tyX8 : Nat → FieldType := fun k => match k with
  | 0 => .object "HawkRidge$Ridge"
  | 1 => .object "HawkRidge$KindTree"
  | 2 => .object "HawkRidge$Season"
  | 3 => .object "HawkRidge$Log"
  | 4 => .object "HawkRidge$Flock"
  | 5 => .object "HawkRidge$Parting"
  | 6 => .object "HawkRidge$Missed"
  | 7 => .array .int
  | 8 => .int
  | _ => .int
abbrev wsX80 : List Cond := u_ws RX8 TX8 10
theorem nmX8 : ∀ a, a < 10 → ∀ b, b < 10 → a ≠ b → (TX8 a).2.1 ≠ (TX8 b).2.1 := by decide +kernel
theorem tyX8_ok : ∀ k, k < 10 → parseFieldDescriptor (TX8 k).2.2.1 = some (tyX8 k) := by decide +kernel
abbrev cX8_init : ByteArray := prog_1_method_1_code
def yX8_init : MethodName := ⟨RX8, "<init>", "()V"⟩
abbrev cX8_post : ByteArray := prog_1_method_2_code
def yX8_post : MethodName := ⟨RX8, "post", "(I)I"⟩
abbrev cX8_kind : ByteArray := prog_1_method_3_code
def yX8_kind : MethodName := ⟨RX8, "kind", "(III)I"⟩
abbrev cX8_later : ByteArray := prog_1_method_4_code
def yX8_later : MethodName := ⟨RX8, "later", "()I"⟩
abbrev cX8_tell : ByteArray := prog_1_method_5_code
def yX8_tell : MethodName := ⟨RX8, "tell", "(IIIII)I"⟩
abbrev cX8_off : ByteArray := prog_1_method_6_code
def yX8_off : MethodName := ⟨RX8, "off", "(IIIZ)Z"⟩
abbrev cX8_wind : ByteArray := prog_1_method_7_code
def yX8_wind : MethodName := ⟨RX8, "wind", "(III)Z"⟩
abbrev cX8_known : ByteArray := prog_1_method_8_code
def yX8_known : MethodName := ⟨RX8, "known", "(I)Z"⟩
abbrev cX8_partner : ByteArray := prog_1_method_9_code
def yX8_partner : MethodName := ⟨RX8, "partner", "(I)I"⟩
abbrev cX8_bird : ByteArray := prog_1_method_10_code
def yX8_bird : MethodName := ⟨RX8, "bird", "(I)I"⟩
abbrev cX8_birds : ByteArray := prog_1_method_11_code
def yX8_birds : MethodName := ⟨RX8, "birds", "(III)I"⟩
abbrev cX8_year : ByteArray := prog_1_method_12_code
def yX8_year : MethodName := ⟨RX8, "year", "(II)I"⟩
abbrev cX8_passage : ByteArray := prog_1_method_13_code
def yX8_passage : MethodName := ⟨RX8, "passage", "(III)I"⟩
abbrev cX8_change : ByteArray := prog_1_method_14_code
def yX8_change : MethodName := ⟨RX8, "change", "(II)I"⟩
abbrev cX8_look : ByteArray := prog_1_method_15_code
def yX8_look : MethodName := ⟨RX8, "look", "(II)I"⟩
abbrev cX8_count : ByteArray := prog_1_method_16_code
def yX8_count : MethodName := ⟨RX8, "count", "(I)I"⟩
abbrev cX8_isYear : ByteArray := prog_1_method_17_code
def yX8_isYear : MethodName := ⟨RX8, "isYear", "(I)Z"⟩
abbrev cX8_isDay : ByteArray := prog_1_method_18_code
def yX8_isDay : MethodName := ⟨RX8, "isDay", "(II)Z"⟩
abbrev cX8_dateOf : ByteArray := prog_1_method_19_code
def yX8_dateOf : MethodName := ⟨RX8, "dateOf", "(II)I"⟩
abbrev cX8_knownDay : ByteArray := prog_1_method_20_code
def yX8_knownDay : MethodName := ⟨RX8, "knownDay", "()I"⟩
abbrev cX8_missedOf : ByteArray := prog_1_method_21_code
def yX8_missedOf : MethodName := ⟨RX8, "missedOf", "(I)I"⟩
abbrev cX8_totalOf : ByteArray := prog_1_method_22_code
def yX8_totalOf : MethodName := ⟨RX8, "totalOf", "(I)I"⟩
abbrev cX8_slotOfNth : ByteArray := prog_1_method_23_code
def yX8_slotOfNth : MethodName := ⟨RX8, "slotOfNth", "(I)I"⟩
def RX9 : String := "HawkRidgeModel"
def TX9 : u_T := fun k => match k with
  | 0 => ("HawkRidgeModel", "thrown", "I", false)
  | 1 => ("HawkRidgeModel", "posts", "I", false)
  | 2 => ("HawkRidgeModel", "place", "[I", true)
  | 3 => ("HawkRidgeModel", "kinds", "I", false)
  | 4 => ("HawkRidgeModel", "kindOf", "[I", true)
  | 5 => ("HawkRidgeModel", "slowest", "[I", true)
  | 6 => ("HawkRidgeModel", "fastest", "[I", true)
  | 7 => ("HawkRidgeModel", "now", "I", false)
  | 8 => ("HawkRidgeModel", "asOf", "I", false)
  | 9 => ("HawkRidgeModel", "tellings", "I", false)
  | 10 => ("HawkRidgeModel", "years", "[I", true)
  | 11 => ("HawkRidgeModel", "days", "[I", true)
  | 12 => ("HawkRidgeModel", "minutes", "[I", true)
  | 13 => ("HawkRidgeModel", "atPost", "[I", true)
  | 14 => ("HawkRidgeModel", "told", "[I", true)
  | 15 => ("HawkRidgeModel", "since", "[I", true)
  | 16 => ("HawkRidgeModel", "isOff", "[Z", true)
  | 17 => ("HawkRidgeModel", "winds", "[I", true)
  | 18 => ("HawkRidgeModel", "upper", "[I", true)
  | 19 => ("HawkRidgeModel", "lower", "[I", true)
  | 20 => ("HawkRidgeModel", "ones", "I", false)
  | 21 => ("HawkRidgeModel", "twos", "I", false)
  | 22 => ("HawkRidgeModel", "one", "[I", true)
  | 23 => ("HawkRidgeModel", "two", "[I", true)
  | 24 => ("HawkRidgeModel", "isMet", "[Z", true)
  | 25 => ("HawkRidgeModel", "has", "[I", true)
  | 26 => ("HawkRidgeModel", "isSet", "[Z", true)
  | 27 => ("HawkRidgeModel", "isTaken", "[Z", true)
  | 28 => ("HawkRidgeModel", "isSeen", "[Z", true)
  | 29 => ("HawkRidgeModel", "number", "[I", true)
  | 30 => ("HawkRidgeModel", "own", "[I", true)
  | 31 => ("HawkRidgeModel", "rest", "[I", true)
  | 32 => ("HawkRidgeModel", "upOf", "[J", true)
  | _ => ("HawkRidgeModel", "downOf", "[J", true)
def tyX9 : Nat → FieldType := fun k => match k with
  | 0 => .int
  | 1 => .int
  | 2 => .array .int
  | 3 => .int
  | 4 => .array .int
  | 5 => .array .int
  | 6 => .array .int
  | 7 => .int
  | 8 => .int
  | 9 => .int
  | 10 => .array .int
  | 11 => .array .int
  | 12 => .array .int
  | 13 => .array .int
  | 14 => .array .int
  | 15 => .array .int
  | 16 => .array .boolean
  | 17 => .array .int
  | 18 => .array .int
  | 19 => .array .int
  | 20 => .int
  | 21 => .int
  | 22 => .array .int
  | 23 => .array .int
  | 24 => .array .boolean
  | 25 => .array .int
  | 26 => .array .boolean
  | 27 => .array .boolean
  | 28 => .array .boolean
  | 29 => .array .int
  | 30 => .array .int
  | 31 => .array .int
  | 32 => .array .long
  | _ => .array .long
abbrev wsX90 : List Cond := u_ws RX9 TX9 34
theorem nmX9 : ∀ a, a < 34 → ∀ b, b < 34 → a ≠ b → (TX9 a).2.1 ≠ (TX9 b).2.1 := by decide +kernel
theorem tyX9_ok : ∀ k, k < 34 → parseFieldDescriptor (TX9 k).2.2.1 = some (tyX9 k) := by decide +kernel
abbrev cX9_thrown : ByteArray := prog_11_method_1_code
def yX9_thrown : MethodName := ⟨RX9, "thrown", "()I"⟩
abbrev cX9_init : ByteArray := prog_11_method_2_code
def yX9_init : MethodName := ⟨RX9, "<init>", "()V"⟩
abbrev cX9_post : ByteArray := prog_11_method_3_code
def yX9_post : MethodName := ⟨RX9, "post", "(I)I"⟩
abbrev cX9_isKind : ByteArray := prog_11_method_4_code
def yX9_isKind : MethodName := ⟨RX9, "isKind", "(I)Z"⟩
abbrev cX9_kind : ByteArray := prog_11_method_5_code
def yX9_kind : MethodName := ⟨RX9, "kind", "(III)I"⟩
abbrev cX9_isUnder : ByteArray := prog_11_method_6_code
def yX9_isUnder : MethodName := ⟨RX9, "isUnder", "(II)Z"⟩
abbrev cX9_depth : ByteArray := prog_11_method_7_code
def yX9_depth : MethodName := ⟨RX9, "depth", "(I)I"⟩
abbrev cX9_isLeaf : ByteArray := prog_11_method_8_code
def yX9_isLeaf : MethodName := ⟨RX9, "isLeaf", "(I)Z"⟩
abbrev cX9_later : ByteArray := prog_11_method_9_code
def yX9_later : MethodName := ⟨RX9, "later", "()I"⟩
abbrev cX9_isDay : ByteArray := prog_11_method_10_code
def yX9_isDay : MethodName := ⟨RX9, "isDay", "(II)Z"⟩
abbrev cX9_hourOf : ByteArray := prog_11_method_11_code
def yX9_hourOf : MethodName := ⟨RX9, "hourOf", "(III)I"⟩
abbrev cX9_tell : ByteArray := prog_11_method_12_code
def yX9_tell : MethodName := ⟨RX9, "tell", "(IIIII)I"⟩
abbrev cX9_off : ByteArray := prog_11_method_13_code
def yX9_off : MethodName := ⟨RX9, "off", "(IIIZ)Z"⟩
abbrev cX9_wind : ByteArray := prog_11_method_14_code
def yX9_wind : MethodName := ⟨RX9, "wind", "(III)Z"⟩
abbrev cX9_known : ByteArray := prog_11_method_15_code
def yX9_known : MethodName := ⟨RX9, "known", "(I)Z"⟩
abbrev cX9_isKnown : ByteArray := prog_11_method_16_code
def yX9_isKnown : MethodName := ⟨RX9, "isKnown", "(I)Z"⟩
abbrev cX9_meets : ByteArray := prog_11_method_17_code
def yX9_meets : MethodName := ⟨RX9, "meets", "(II)Z"⟩
abbrev cX9_finds : ByteArray := prog_11_method_18_code
def yX9_finds : MethodName := ⟨RX9, "finds", "(I)Z"⟩
abbrev cX9_most : ByteArray := prog_11_method_19_code
def yX9_most : MethodName := ⟨RX9, "most", "()I"⟩
abbrev cX9_collect : ByteArray := prog_11_method_20_code
def yX9_collect : MethodName := ⟨RX9, "collect", "(III)V"⟩
abbrev cX9_pairs : ByteArray := prog_11_method_21_code
def yX9_pairs : MethodName := ⟨RX9, "pairs", "(III)V"⟩
abbrev cX9_pairsOf : ByteArray := prog_11_method_22_code
def yX9_pairsOf : MethodName := ⟨RX9, "pairsOf", "(I)V"⟩
abbrev cX9_partner : ByteArray := prog_11_method_23_code
def yX9_partner : MethodName := ⟨RX9, "partner", "(I)I"⟩
abbrev cX9_firstOf : ByteArray := prog_11_method_24_code
def yX9_firstOf : MethodName := ⟨RX9, "firstOf", "(I)I"⟩
abbrev cX9_bird : ByteArray := prog_11_method_25_code
def yX9_bird : MethodName := ⟨RX9, "bird", "(I)I"⟩
abbrev cX9_isBird : ByteArray := prog_11_method_26_code
def yX9_isBird : MethodName := ⟨RX9, "isBird", "(II)Z"⟩
abbrev cX9_kindOfBird : ByteArray := prog_11_method_27_code
def yX9_kindOfBird : MethodName := ⟨RX9, "kindOfBird", "(I)I"⟩
abbrev cX9_just : ByteArray := prog_11_method_28_code
def yX9_just : MethodName := ⟨RX9, "just", "(II)I"⟩
abbrev cX9_numbers : ByteArray := prog_11_method_29_code
def yX9_numbers : MethodName := ⟨RX9, "numbers", "(I)V"⟩
abbrev cX9_isLeafOf : ByteArray := prog_11_method_30_code
def yX9_isLeafOf : MethodName := ⟨RX9, "isLeafOf", "(II)Z"⟩
abbrev cX9_parts : ByteArray := prog_11_method_31_code
def yX9_parts : MethodName := ⟨RX9, "parts", "(I)V"⟩
abbrev cX9_birds : ByteArray := prog_11_method_32_code
def yX9_birds : MethodName := ⟨RX9, "birds", "(III)I"⟩
abbrev cX9_birdsOf : ByteArray := prog_11_method_33_code
def yX9_birdsOf : MethodName := ⟨RX9, "birdsOf", "(II)I"⟩
abbrev cX9_hoursOf : ByteArray := prog_11_method_34_code
def yX9_hoursOf : MethodName := ⟨RX9, "hoursOf", "(IIZ)I"⟩
abbrev cX9_missed : ByteArray := prog_11_method_35_code
def yX9_missed : MethodName := ⟨RX9, "missed", "(I)J"⟩
abbrev cX9_total : ByteArray := prog_11_method_36_code
def yX9_total : MethodName := ⟨RX9, "total", "(I)J"⟩
abbrev cX9_year : ByteArray := prog_11_method_37_code
def yX9_year : MethodName := ⟨RX9, "year", "(II)I"⟩
abbrev cX9_comeBy : ByteArray := prog_11_method_38_code
def yX9_comeBy : MethodName := ⟨RX9, "comeBy", "(III)I"⟩
abbrev cX9_passage : ByteArray := prog_11_method_39_code
def yX9_passage : MethodName := ⟨RX9, "passage", "(III)I"⟩
abbrev cX9_change : ByteArray := prog_11_method_40_code
def yX9_change : MethodName := ⟨RX9, "change", "(II)I"⟩
abbrev cX9_look : ByteArray := prog_11_method_41_code
def yX9_look : MethodName := ⟨RX9, "look", "(II)I"⟩
abbrev cX9_count : ByteArray := prog_11_method_42_code
def yX9_count : MethodName := ⟨RX9, "count", "(I)I"⟩
def RJ6 : String := "java/lang/Integer"
def TJ6 : u_T := fun k => match k with
  | _ => ("", "", "", false)
def tyJ6 : Nat → FieldType := fun k => match k with
  | _ => .int
abbrev wsJ60 : List Cond := u_ws RJ6 TJ6 0
theorem nmJ6 : ∀ a, a < 0 → ∀ b, b < 0 → a ≠ b → (TJ6 a).2.1 ≠ (TJ6 b).2.1 := by decide +kernel
theorem tyJ6_ok : ∀ k, k < 0 → parseFieldDescriptor (TJ6 k).2.2.1 = some (tyJ6 k) := by decide +kernel
abbrev cJ6_bitCount_0f7a4 : ByteArray := prog_13_method_49_code
def yJ6_bitCount_0f7a4 : MethodName := ⟨RJ6, "bitCount", "(I)I"⟩
def RJ9 : String := "java/lang/Math"
def TJ9 : u_T := fun k => match k with
  | _ => ("", "", "", false)
def tyJ9 : Nat → FieldType := fun k => match k with
  | _ => .int
abbrev wsJ90 : List Cond := u_ws RJ9 TJ9 0
theorem nmJ9 : ∀ a, a < 0 → ∀ b, b < 0 → a ≠ b → (TJ9 a).2.1 ≠ (TJ9 b).2.1 := by decide +kernel
theorem tyJ9_ok : ∀ k, k < 0 → parseFieldDescriptor (TJ9 k).2.2.1 = some (tyJ9 k) := by decide +kernel
abbrev cJ9_max_7cf53 : ByteArray := prog_14_method_65_code
def yJ9_max_7cf53 : MethodName := ⟨RJ9, "max", "(II)I"⟩
abbrev cJ9_min_7cf53 : ByteArray := prog_14_method_69_code
def yJ9_min_7cf53 : MethodName := ⟨RJ9, "min", "(II)I"⟩
def RL : String := "HawkRidgeLaw"
abbrev cL_birds : ByteArray := method_3_code
def yL_birds : MethodName := ⟨RL, "birds", "(LHawkRidge;III[J)I"⟩
abbrev cL_look : ByteArray := method_4_code
def yL_look : MethodName := ⟨RL, "look", "(LHawkRidge;II[J)I"⟩
abbrev cL_law : ByteArray := code
def yL_law : MethodName := ⟨RL, "law", "([I)Z"⟩
abbrev vwCl : List vw_C := [(RX0, TX0, 11), (RX1, TX1, 5), (RX2, TX2, 7), (RX3, TX3, 9), (RX4, TX4, 3), (RX5, TX5, 4), (RX6, TX6, 2), (RX7, TX7, 2), (RX8, TX8, 10), (RX9, TX9, 34)]
end
section
theorem dX0_init_0 : decode cX0_init 0 = .ok (.aload_n 0, 1) := by decide +kernel
theorem dX0_init_1 : decode cX0_init 1 = .ok (.invokespecial 3, 3) := by decide +kernel
theorem dX0_init_4 : decode cX0_init 4 = .ok (.aload_n 0, 1) := by decide +kernel
theorem dX0_init_5 : decode cX0_init 5 = .ok (.new 9, 3) := by decide +kernel
theorem dX0_init_8 : decode cX0_init 8 = .ok (.dup, 1) := by decide +kernel
theorem dX0_init_9 : decode cX0_init 9 = .ok (.invokespecial 11, 3) := by decide +kernel
theorem dX0_init_12 : decode cX0_init 12 = .ok (.putfield 12, 3) := by decide +kernel
theorem dX0_init_15 : decode cX0_init 15 = .ok (.aload_n 0, 1) := by decide +kernel
theorem dX0_init_16 : decode cX0_init 16 = .ok (.sipush 180, 3) := by decide +kernel
theorem dX0_init_19 : decode cX0_init 19 = .ok (.newarray .boolean, 2) := by decide +kernel
theorem dX0_init_21 : decode cX0_init 21 = .ok (.putfield 18, 3) := by decide +kernel
theorem dX0_init_24 : decode cX0_init 24 = .ok (.aload_n 0, 1) := by decide +kernel
theorem dX0_init_25 : decode cX0_init 25 = .ok (.sipush 300, 3) := by decide +kernel
theorem dX0_init_28 : decode cX0_init 28 = .ok (.newarray .int, 2) := by decide +kernel
theorem dX0_init_30 : decode cX0_init 30 = .ok (.putfield 22, 3) := by decide +kernel
theorem dX0_init_33 : decode cX0_init 33 = .ok (.aload_n 0, 1) := by decide +kernel
theorem dX0_init_34 : decode cX0_init 34 = .ok (.sipush 300, 3) := by decide +kernel
theorem dX0_init_37 : decode cX0_init 37 = .ok (.newarray .int, 2) := by decide +kernel
theorem dX0_init_39 : decode cX0_init 39 = .ok (.putfield 26, 3) := by decide +kernel
theorem dX0_init_42 : decode cX0_init 42 = .ok (.aload_n 0, 1) := by decide +kernel
theorem dX0_init_43 : decode cX0_init 43 = .ok (.sipush 300, 3) := by decide +kernel
theorem dX0_init_46 : decode cX0_init 46 = .ok (.newarray .int, 2) := by decide +kernel
theorem dX0_init_48 : decode cX0_init 48 = .ok (.putfield 29, 3) := by decide +kernel
theorem dX0_init_51 : decode cX0_init 51 = .ok (.aload_n 0, 1) := by decide +kernel
theorem dX0_init_52 : decode cX0_init 52 = .ok (.sipush 300, 3) := by decide +kernel
theorem dX0_init_55 : decode cX0_init 55 = .ok (.newarray .int, 2) := by decide +kernel
theorem dX0_init_57 : decode cX0_init 57 = .ok (.putfield 32, 3) := by decide +kernel
theorem dX0_init_60 : decode cX0_init 60 = .ok (.aload_n 0, 1) := by decide +kernel
theorem dX0_init_61 : decode cX0_init 61 = .ok (.bipush 12, 2) := by decide +kernel
theorem dX0_init_63 : decode cX0_init 63 = .ok (.newarray .int, 2) := by decide +kernel
theorem dX0_init_65 : decode cX0_init 65 = .ok (.putfield 35, 3) := by decide +kernel
theorem dX0_init_68 : decode cX0_init 68 = .ok (.aload_n 0, 1) := by decide +kernel
theorem dX0_init_69 : decode cX0_init 69 = .ok (.bipush 12, 2) := by decide +kernel
theorem dX0_init_71 : decode cX0_init 71 = .ok (.newarray .int, 2) := by decide +kernel
theorem dX0_init_73 : decode cX0_init 73 = .ok (.putfield 38, 3) := by decide +kernel
theorem dX0_init_76 : decode cX0_init 76 = .ok (.aload_n 0, 1) := by decide +kernel
theorem dX0_init_77 : decode cX0_init 77 = .ok (.aload_n 1, 1) := by decide +kernel
theorem dX0_init_78 : decode cX0_init 78 = .ok (.putfield 41, 3) := by decide +kernel
theorem dX0_init_81 : decode cX0_init 81 = .ok (.aload_n 0, 1) := by decide +kernel
theorem dX0_init_82 : decode cX0_init 82 = .ok (.aload_n 2, 1) := by decide +kernel
theorem dX0_init_83 : decode cX0_init 83 = .ok (.putfield 45, 3) := by decide +kernel
theorem dX0_init_86 : decode cX0_init 86 = .ok (.aload_n 0, 1) := by decide +kernel
theorem dX0_init_87 : decode cX0_init 87 = .ok (.aload_n 3, 1) := by decide +kernel
theorem dX0_init_88 : decode cX0_init 88 = .ok (.putfield 49, 3) := by decide +kernel
theorem dX0_init_91 : decode cX0_init 91 = .ok (.return_, 1) := by decide +kernel
theorem dX0_forget_0 : decode cX0_forget 0 = .ok (.aload_n 0, 1) := by decide +kernel
theorem dX0_forget_1 : decode cX0_forget 1 = .ok (.getfield 18, 3) := by decide +kernel
theorem dX0_forget_4 : decode cX0_forget 4 = .ok (.iload_n 1, 1) := by decide +kernel
theorem dX0_forget_5 : decode cX0_forget 5 = .ok (.iconst 0, 1) := by decide +kernel
theorem dX0_forget_6 : decode cX0_forget 6 = .ok (.bastore, 1) := by decide +kernel
theorem dX0_forget_7 : decode cX0_forget 7 = .ok (.return_, 1) := by decide +kernel
theorem dX0_forgetAll_0 : decode cX0_forgetAll 0 = .ok (.iconst 0, 1) := by decide +kernel
theorem dX0_forgetAll_1 : decode cX0_forgetAll 1 = .ok (.istore_n 1, 1) := by decide +kernel
theorem dX0_forgetAll_2 : decode cX0_forgetAll 2 = .ok (.iload_n 1, 1) := by decide +kernel
theorem dX0_forgetAll_3 : decode cX0_forgetAll 3 = .ok (.sipush 180, 3) := by decide +kernel
theorem dX0_forgetAll_6 : decode cX0_forgetAll 6 = .ok (.if_icmp .ge 16, 3) := by decide +kernel
theorem dX0_forgetAll_9 : decode cX0_forgetAll 9 = .ok (.aload_n 0, 1) := by decide +kernel
theorem dX0_forgetAll_10 : decode cX0_forgetAll 10 = .ok (.getfield 18, 3) := by decide +kernel
theorem dX0_forgetAll_13 : decode cX0_forgetAll 13 = .ok (.iload_n 1, 1) := by decide +kernel
theorem dX0_forgetAll_14 : decode cX0_forgetAll 14 = .ok (.iconst 0, 1) := by decide +kernel
theorem dX0_forgetAll_15 : decode cX0_forgetAll 15 = .ok (.bastore, 1) := by decide +kernel
theorem dX0_forgetAll_16 : decode cX0_forgetAll 16 = .ok (.iinc 1 1, 3) := by decide +kernel
theorem dX0_forgetAll_19 : decode cX0_forgetAll 19 = .ok (.goto (-17), 3) := by decide +kernel
theorem dX0_forgetAll_22 : decode cX0_forgetAll 22 = .ok (.return_, 1) := by decide +kernel
theorem dX0_pairYear_0 : decode cX0_pairYear 0 = .ok (.iconst 0, 1) := by decide +kernel
theorem dX0_pairYear_1 : decode cX0_pairYear 1 = .ok (.istore_n 2, 1) := by decide +kernel
theorem dX0_pairYear_2 : decode cX0_pairYear 2 = .ok (.iload_n 2, 1) := by decide +kernel
theorem dX0_pairYear_3 : decode cX0_pairYear 3 = .ok (.aload_n 0, 1) := by decide +kernel
theorem dX0_pairYear_4 : decode cX0_pairYear 4 = .ok (.getfield 49, 3) := by decide +kernel
theorem dX0_pairYear_7 : decode cX0_pairYear 7 = .ok (.getfield 53, 3) := by decide +kernel
theorem dX0_pairYear_10 : decode cX0_pairYear 10 = .ok (.if_icmp .ge 34, 3) := by decide +kernel
theorem dX0_pairYear_13 : decode cX0_pairYear 13 = .ok (.aload_n 0, 1) := by decide +kernel
theorem dX0_pairYear_14 : decode cX0_pairYear 14 = .ok (.getfield 49, 3) := by decide +kernel
theorem dX0_pairYear_17 : decode cX0_pairYear 17 = .ok (.iload_n 2, 1) := by decide +kernel
theorem dX0_pairYear_18 : decode cX0_pairYear 18 = .ok (.iload_n 1, 1) := by decide +kernel
theorem dX0_pairYear_19 : decode cX0_pairYear 19 = .ok (.invokevirtual 59, 3) := by decide +kernel
theorem dX0_pairYear_22 : decode cX0_pairYear 22 = .ok (.ifCond .eq 16, 3) := by decide +kernel
theorem dX0_pairYear_25 : decode cX0_pairYear 25 = .ok (.aload_n 0, 1) := by decide +kernel
theorem dX0_pairYear_26 : decode cX0_pairYear 26 = .ok (.aload_n 0, 1) := by decide +kernel
theorem dX0_pairYear_27 : decode cX0_pairYear 27 = .ok (.getfield 49, 3) := by decide +kernel
theorem dX0_pairYear_30 : decode cX0_pairYear 30 = .ok (.getfield 63, 3) := by decide +kernel
theorem dX0_pairYear_33 : decode cX0_pairYear 33 = .ok (.iload_n 2, 1) := by decide +kernel
theorem dX0_pairYear_34 : decode cX0_pairYear 34 = .ok (.iaload, 1) := by decide +kernel
theorem dX0_pairYear_35 : decode cX0_pairYear 35 = .ok (.invokevirtual 66, 3) := by decide +kernel
theorem dX0_pairYear_38 : decode cX0_pairYear 38 = .ok (.iinc 2 1, 3) := by decide +kernel
theorem dX0_pairYear_41 : decode cX0_pairYear 41 = .ok (.goto (-39), 3) := by decide +kernel
theorem dX0_pairYear_44 : decode cX0_pairYear 44 = .ok (.return_, 1) := by decide +kernel
theorem dX0_pairDate_0 : decode cX0_pairDate 0 = .ok (.aload_n 0, 1) := by decide +kernel
theorem dX0_pairDate_1 : decode cX0_pairDate 1 = .ok (.getfield 18, 3) := by decide +kernel
theorem dX0_pairDate_4 : decode cX0_pairDate 4 = .ok (.iload_n 1, 1) := by decide +kernel
theorem dX0_pairDate_5 : decode cX0_pairDate 5 = .ok (.baload, 1) := by decide +kernel
theorem dX0_pairDate_6 : decode cX0_pairDate 6 = .ok (.ifCond .eq 4, 3) := by decide +kernel
theorem dX0_pairDate_9 : decode cX0_pairDate 9 = .ok (.return_, 1) := by decide +kernel
theorem dX0_pairDate_10 : decode cX0_pairDate 10 = .ok (.iconst 0, 1) := by decide +kernel
theorem dX0_pairDate_11 : decode cX0_pairDate 11 = .ok (.istore_n 2, 1) := by decide +kernel
theorem dX0_pairDate_12 : decode cX0_pairDate 12 = .ok (.iload_n 2, 1) := by decide +kernel
theorem dX0_pairDate_13 : decode cX0_pairDate 13 = .ok (.aload_n 0, 1) := by decide +kernel
theorem dX0_pairDate_14 : decode cX0_pairDate 14 = .ok (.getfield 49, 3) := by decide +kernel
theorem dX0_pairDate_17 : decode cX0_pairDate 17 = .ok (.getfield 53, 3) := by decide +kernel
theorem dX0_pairDate_20 : decode cX0_pairDate 20 = .ok (.if_icmp .ge 36, 3) := by decide +kernel
theorem dX0_pairDate_23 : decode cX0_pairDate 23 = .ok (.aload_n 0, 1) := by decide +kernel
theorem dX0_pairDate_24 : decode cX0_pairDate 24 = .ok (.getfield 49, 3) := by decide +kernel
theorem dX0_pairDate_27 : decode cX0_pairDate 27 = .ok (.getfield 63, 3) := by decide +kernel
theorem dX0_pairDate_30 : decode cX0_pairDate 30 = .ok (.iload_n 2, 1) := by decide +kernel
theorem dX0_pairDate_31 : decode cX0_pairDate 31 = .ok (.iaload, 1) := by decide +kernel
theorem dX0_pairDate_32 : decode cX0_pairDate 32 = .ok (.iload_n 1, 1) := by decide +kernel
theorem dX0_pairDate_33 : decode cX0_pairDate 33 = .ok (.if_icmp .ne 17, 3) := by decide +kernel
theorem dX0_pairDate_36 : decode cX0_pairDate 36 = .ok (.aload_n 0, 1) := by decide +kernel
theorem dX0_pairDate_37 : decode cX0_pairDate 37 = .ok (.getfield 22, 3) := by decide +kernel
theorem dX0_pairDate_40 : decode cX0_pairDate 40 = .ok (.iload_n 2, 1) := by decide +kernel
theorem dX0_pairDate_41 : decode cX0_pairDate 41 = .ok (.iconst (-1), 1) := by decide +kernel
theorem dX0_pairDate_42 : decode cX0_pairDate 42 = .ok (.iastore, 1) := by decide +kernel
theorem dX0_pairDate_43 : decode cX0_pairDate 43 = .ok (.aload_n 0, 1) := by decide +kernel
theorem dX0_pairDate_44 : decode cX0_pairDate 44 = .ok (.getfield 26, 3) := by decide +kernel
theorem dX0_pairDate_47 : decode cX0_pairDate 47 = .ok (.iload_n 2, 1) := by decide +kernel
theorem dX0_pairDate_48 : decode cX0_pairDate 48 = .ok (.iconst (-1), 1) := by decide +kernel
theorem dX0_pairDate_49 : decode cX0_pairDate 49 = .ok (.iastore, 1) := by decide +kernel
theorem dX0_pairDate_50 : decode cX0_pairDate 50 = .ok (.iinc 2 1, 3) := by decide +kernel
theorem dX0_pairDate_53 : decode cX0_pairDate 53 = .ok (.goto (-41), 3) := by decide +kernel
theorem dX0_pairDate_56 : decode cX0_pairDate 56 = .ok (.iconst 0, 1) := by decide +kernel
theorem dX0_pairDate_57 : decode cX0_pairDate 57 = .ok (.istore_n 2, 1) := by decide +kernel
theorem dX0_pairDate_58 : decode cX0_pairDate 58 = .ok (.iload_n 2, 1) := by decide +kernel
theorem dX0_pairDate_59 : decode cX0_pairDate 59 = .ok (.iconst 1, 1) := by decide +kernel
theorem dX0_pairDate_60 : decode cX0_pairDate 60 = .ok (.iadd, 1) := by decide +kernel
theorem dX0_pairDate_61 : decode cX0_pairDate 61 = .ok (.aload_n 0, 1) := by decide +kernel
theorem dX0_pairDate_62 : decode cX0_pairDate 62 = .ok (.getfield 41, 3) := by decide +kernel
theorem dX0_pairDate_65 : decode cX0_pairDate 65 = .ok (.getfield 70, 3) := by decide +kernel
theorem dX0_pairDate_68 : decode cX0_pairDate 68 = .ok (.if_icmp .ge 15, 3) := by decide +kernel
theorem dX0_pairDate_71 : decode cX0_pairDate 71 = .ok (.aload_n 0, 1) := by decide +kernel
theorem dX0_pairDate_72 : decode cX0_pairDate 72 = .ok (.iload_n 1, 1) := by decide +kernel
theorem dX0_pairDate_73 : decode cX0_pairDate 73 = .ok (.iload_n 2, 1) := by decide +kernel
theorem dX0_pairDate_74 : decode cX0_pairDate 74 = .ok (.invokevirtual 75, 3) := by decide +kernel
theorem dX0_pairDate_77 : decode cX0_pairDate 77 = .ok (.iinc 2 1, 3) := by decide +kernel
theorem dX0_pairDate_80 : decode cX0_pairDate 80 = .ok (.goto (-22), 3) := by decide +kernel
theorem dX0_pairDate_83 : decode cX0_pairDate 83 = .ok (.iconst 0, 1) := by decide +kernel
theorem dX0_pairDate_84 : decode cX0_pairDate 84 = .ok (.istore_n 2, 1) := by decide +kernel
theorem dX0_pairDate_85 : decode cX0_pairDate 85 = .ok (.iload_n 2, 1) := by decide +kernel
theorem dX0_pairDate_86 : decode cX0_pairDate 86 = .ok (.aload_n 0, 1) := by decide +kernel
theorem dX0_pairDate_87 : decode cX0_pairDate 87 = .ok (.getfield 41, 3) := by decide +kernel
theorem dX0_pairDate_90 : decode cX0_pairDate 90 = .ok (.getfield 70, 3) := by decide +kernel
theorem dX0_pairDate_93 : decode cX0_pairDate 93 = .ok (.if_icmp .ge 15, 3) := by decide +kernel
theorem dX0_pairDate_96 : decode cX0_pairDate 96 = .ok (.aload_n 0, 1) := by decide +kernel
theorem dX0_pairDate_97 : decode cX0_pairDate 97 = .ok (.iload_n 1, 1) := by decide +kernel
theorem dX0_pairDate_98 : decode cX0_pairDate 98 = .ok (.iload_n 2, 1) := by decide +kernel
theorem dX0_pairDate_99 : decode cX0_pairDate 99 = .ok (.invokevirtual 79, 3) := by decide +kernel
theorem dX0_pairDate_102 : decode cX0_pairDate 102 = .ok (.iinc 2 1, 3) := by decide +kernel
theorem dX0_pairDate_105 : decode cX0_pairDate 105 = .ok (.goto (-20), 3) := by decide +kernel
theorem dX0_pairDate_108 : decode cX0_pairDate 108 = .ok (.aload_n 0, 1) := by decide +kernel
theorem dX0_pairDate_109 : decode cX0_pairDate 109 = .ok (.getfield 18, 3) := by decide +kernel
theorem dX0_pairDate_112 : decode cX0_pairDate 112 = .ok (.iload_n 1, 1) := by decide +kernel
theorem dX0_pairDate_113 : decode cX0_pairDate 113 = .ok (.iconst 1, 1) := by decide +kernel
theorem dX0_pairDate_114 : decode cX0_pairDate 114 = .ok (.bastore, 1) := by decide +kernel
theorem dX0_pairDate_115 : decode cX0_pairDate 115 = .ok (.return_, 1) := by decide +kernel
theorem dX0_pairPosts_0 : decode cX0_pairPosts 0 = .ok (.aload_n 0, 1) := by decide +kernel
theorem dX0_pairPosts_1 : decode cX0_pairPosts 1 = .ok (.getfield 49, 3) := by decide +kernel
theorem dX0_pairPosts_4 : decode cX0_pairPosts 4 = .ok (.iload_n 1, 1) := by decide +kernel
theorem dX0_pairPosts_5 : decode cX0_pairPosts 5 = .ok (.iload_n 2, 1) := by decide +kernel
theorem dX0_pairPosts_6 : decode cX0_pairPosts 6 = .ok (.aload_n 0, 1) := by decide +kernel
theorem dX0_pairPosts_7 : decode cX0_pairPosts 7 = .ok (.getfield 35, 3) := by decide +kernel
theorem dX0_pairPosts_10 : decode cX0_pairPosts 10 = .ok (.invokevirtual 82, 3) := by decide +kernel
theorem dX0_pairPosts_13 : decode cX0_pairPosts 13 = .ok (.istore_n 3, 1) := by decide +kernel
theorem dX0_pairPosts_14 : decode cX0_pairPosts 14 = .ok (.aload_n 0, 1) := by decide +kernel
theorem dX0_pairPosts_15 : decode cX0_pairPosts 15 = .ok (.getfield 49, 3) := by decide +kernel
theorem dX0_pairPosts_18 : decode cX0_pairPosts 18 = .ok (.iload_n 1, 1) := by decide +kernel
theorem dX0_pairPosts_19 : decode cX0_pairPosts 19 = .ok (.iload_n 2, 1) := by decide +kernel
theorem dX0_pairPosts_20 : decode cX0_pairPosts 20 = .ok (.iconst 1, 1) := by decide +kernel
theorem dX0_pairPosts_21 : decode cX0_pairPosts 21 = .ok (.iadd, 1) := by decide +kernel
theorem dX0_pairPosts_22 : decode cX0_pairPosts 22 = .ok (.aload_n 0, 1) := by decide +kernel
theorem dX0_pairPosts_23 : decode cX0_pairPosts 23 = .ok (.getfield 38, 3) := by decide +kernel
theorem dX0_pairPosts_26 : decode cX0_pairPosts 26 = .ok (.invokevirtual 82, 3) := by decide +kernel
theorem dX0_pairPosts_29 : decode cX0_pairPosts 29 = .ok (.istore 4, 2) := by decide +kernel
theorem dX0_pairPosts_31 : decode cX0_pairPosts 31 = .ok (.aload_n 0, 1) := by decide +kernel
theorem dX0_pairPosts_32 : decode cX0_pairPosts 32 = .ok (.getfield 41, 3) := by decide +kernel
theorem dX0_pairPosts_35 : decode cX0_pairPosts 35 = .ok (.iload_n 2, 1) := by decide +kernel
theorem dX0_pairPosts_36 : decode cX0_pairPosts 36 = .ok (.invokevirtual 86, 3) := by decide +kernel
theorem dX0_pairPosts_39 : decode cX0_pairPosts 39 = .ok (.istore 5, 2) := by decide +kernel
theorem dX0_pairPosts_41 : decode cX0_pairPosts 41 = .ok (.aload_n 0, 1) := by decide +kernel
theorem dX0_pairPosts_42 : decode cX0_pairPosts 42 = .ok (.getfield 12, 3) := by decide +kernel
theorem dX0_pairPosts_45 : decode cX0_pairPosts 45 = .ok (.iload_n 3, 1) := by decide +kernel
theorem dX0_pairPosts_46 : decode cX0_pairPosts 46 = .ok (.iload 4, 2) := by decide +kernel
theorem dX0_pairPosts_48 : decode cX0_pairPosts 48 = .ok (.invokevirtual 90, 3) := by decide +kernel
theorem dX0_pairPosts_51 : decode cX0_pairPosts 51 = .ok (.iconst 0, 1) := by decide +kernel
theorem dX0_pairPosts_52 : decode cX0_pairPosts 52 = .ok (.istore 6, 2) := by decide +kernel
theorem dX0_pairPosts_54 : decode cX0_pairPosts 54 = .ok (.iload 6, 2) := by decide +kernel
theorem dX0_pairPosts_56 : decode cX0_pairPosts 56 = .ok (.iload_n 3, 1) := by decide +kernel
theorem dX0_pairPosts_57 : decode cX0_pairPosts 57 = .ok (.if_icmp .ge 59, 3) := by decide +kernel
theorem dX0_pairPosts_60 : decode cX0_pairPosts 60 = .ok (.iconst 0, 1) := by decide +kernel
theorem dX0_pairPosts_61 : decode cX0_pairPosts 61 = .ok (.istore 7, 2) := by decide +kernel
theorem dX0_pairPosts_63 : decode cX0_pairPosts 63 = .ok (.iload 7, 2) := by decide +kernel
theorem dX0_pairPosts_65 : decode cX0_pairPosts 65 = .ok (.iload 4, 2) := by decide +kernel
theorem dX0_pairPosts_67 : decode cX0_pairPosts 67 = .ok (.if_icmp .ge 43, 3) := by decide +kernel
theorem dX0_pairPosts_70 : decode cX0_pairPosts 70 = .ok (.aload_n 0, 1) := by decide +kernel
theorem dX0_pairPosts_71 : decode cX0_pairPosts 71 = .ok (.aload_n 0, 1) := by decide +kernel
theorem dX0_pairPosts_72 : decode cX0_pairPosts 72 = .ok (.getfield 35, 3) := by decide +kernel
theorem dX0_pairPosts_75 : decode cX0_pairPosts 75 = .ok (.iload 6, 2) := by decide +kernel
theorem dX0_pairPosts_77 : decode cX0_pairPosts 77 = .ok (.iaload, 1) := by decide +kernel
theorem dX0_pairPosts_78 : decode cX0_pairPosts 78 = .ok (.aload_n 0, 1) := by decide +kernel
theorem dX0_pairPosts_79 : decode cX0_pairPosts 79 = .ok (.getfield 38, 3) := by decide +kernel
theorem dX0_pairPosts_82 : decode cX0_pairPosts 82 = .ok (.iload 7, 2) := by decide +kernel
theorem dX0_pairPosts_84 : decode cX0_pairPosts 84 = .ok (.iaload, 1) := by decide +kernel
theorem dX0_pairPosts_85 : decode cX0_pairPosts 85 = .ok (.iload 5, 2) := by decide +kernel
theorem dX0_pairPosts_87 : decode cX0_pairPosts 87 = .ok (.invokevirtual 93, 3) := by decide +kernel
theorem dX0_pairPosts_90 : decode cX0_pairPosts 90 = .ok (.ifCond .eq 14, 3) := by decide +kernel
theorem dX0_pairPosts_93 : decode cX0_pairPosts 93 = .ok (.aload_n 0, 1) := by decide +kernel
theorem dX0_pairPosts_94 : decode cX0_pairPosts 94 = .ok (.getfield 12, 3) := by decide +kernel
theorem dX0_pairPosts_97 : decode cX0_pairPosts 97 = .ok (.iload 6, 2) := by decide +kernel
theorem dX0_pairPosts_99 : decode cX0_pairPosts 99 = .ok (.iload 7, 2) := by decide +kernel
theorem dX0_pairPosts_101 : decode cX0_pairPosts 101 = .ok (.invokevirtual 97, 3) := by decide +kernel
theorem dX0_pairPosts_104 : decode cX0_pairPosts 104 = .ok (.iinc 7 1, 3) := by decide +kernel
theorem dX0_pairPosts_107 : decode cX0_pairPosts 107 = .ok (.goto (-44), 3) := by decide +kernel
theorem dX0_pairPosts_110 : decode cX0_pairPosts 110 = .ok (.iinc 6 1, 3) := by decide +kernel
theorem dX0_pairPosts_113 : decode cX0_pairPosts 113 = .ok (.goto (-59), 3) := by decide +kernel
theorem dX0_pairPosts_116 : decode cX0_pairPosts 116 = .ok (.aload_n 0, 1) := by decide +kernel
theorem dX0_pairPosts_117 : decode cX0_pairPosts 117 = .ok (.getfield 12, 3) := by decide +kernel
theorem dX0_pairPosts_120 : decode cX0_pairPosts 120 = .ok (.invokevirtual 100, 3) := by decide +kernel
theorem dX0_pairPosts_123 : decode cX0_pairPosts 123 = .ok (.iconst 0, 1) := by decide +kernel
theorem dX0_pairPosts_124 : decode cX0_pairPosts 124 = .ok (.istore 6, 2) := by decide +kernel
theorem dX0_pairPosts_126 : decode cX0_pairPosts 126 = .ok (.iload 6, 2) := by decide +kernel
theorem dX0_pairPosts_128 : decode cX0_pairPosts 128 = .ok (.iload_n 3, 1) := by decide +kernel
theorem dX0_pairPosts_129 : decode cX0_pairPosts 129 = .ok (.if_icmp .ge 71, 3) := by decide +kernel
theorem dX0_pairPosts_132 : decode cX0_pairPosts 132 = .ok (.aload_n 0, 1) := by decide +kernel
theorem dX0_pairPosts_133 : decode cX0_pairPosts 133 = .ok (.getfield 12, 3) := by decide +kernel
theorem dX0_pairPosts_136 : decode cX0_pairPosts 136 = .ok (.getfield 103, 3) := by decide +kernel
theorem dX0_pairPosts_139 : decode cX0_pairPosts 139 = .ok (.iload 6, 2) := by decide +kernel
theorem dX0_pairPosts_141 : decode cX0_pairPosts 141 = .ok (.iaload, 1) := by decide +kernel
theorem dX0_pairPosts_142 : decode cX0_pairPosts 142 = .ok (.istore 7, 2) := by decide +kernel
theorem dX0_pairPosts_144 : decode cX0_pairPosts 144 = .ok (.iload 7, 2) := by decide +kernel
theorem dX0_pairPosts_146 : decode cX0_pairPosts 146 = .ok (.ifCond .lt 48, 3) := by decide +kernel
theorem dX0_pairPosts_149 : decode cX0_pairPosts 149 = .ok (.iload 7, 2) := by decide +kernel
theorem dX0_pairPosts_151 : decode cX0_pairPosts 151 = .ok (.iload 4, 2) := by decide +kernel
theorem dX0_pairPosts_153 : decode cX0_pairPosts 153 = .ok (.if_icmp .ge 41, 3) := by decide +kernel
theorem dX0_pairPosts_156 : decode cX0_pairPosts 156 = .ok (.aload_n 0, 1) := by decide +kernel
theorem dX0_pairPosts_157 : decode cX0_pairPosts 157 = .ok (.getfield 22, 3) := by decide +kernel
theorem dX0_pairPosts_160 : decode cX0_pairPosts 160 = .ok (.aload_n 0, 1) := by decide +kernel
theorem dX0_pairPosts_161 : decode cX0_pairPosts 161 = .ok (.getfield 35, 3) := by decide +kernel
theorem dX0_pairPosts_164 : decode cX0_pairPosts 164 = .ok (.iload 6, 2) := by decide +kernel
theorem dX0_pairPosts_166 : decode cX0_pairPosts 166 = .ok (.iaload, 1) := by decide +kernel
theorem dX0_pairPosts_167 : decode cX0_pairPosts 167 = .ok (.aload_n 0, 1) := by decide +kernel
theorem dX0_pairPosts_168 : decode cX0_pairPosts 168 = .ok (.getfield 38, 3) := by decide +kernel
theorem dX0_pairPosts_171 : decode cX0_pairPosts 171 = .ok (.iload 7, 2) := by decide +kernel
theorem dX0_pairPosts_173 : decode cX0_pairPosts 173 = .ok (.iaload, 1) := by decide +kernel
theorem dX0_pairPosts_174 : decode cX0_pairPosts 174 = .ok (.iastore, 1) := by decide +kernel
theorem dX0_pairPosts_175 : decode cX0_pairPosts 175 = .ok (.aload_n 0, 1) := by decide +kernel
theorem dX0_pairPosts_176 : decode cX0_pairPosts 176 = .ok (.getfield 26, 3) := by decide +kernel
theorem dX0_pairPosts_179 : decode cX0_pairPosts 179 = .ok (.aload_n 0, 1) := by decide +kernel
theorem dX0_pairPosts_180 : decode cX0_pairPosts 180 = .ok (.getfield 38, 3) := by decide +kernel
theorem dX0_pairPosts_183 : decode cX0_pairPosts 183 = .ok (.iload 7, 2) := by decide +kernel
theorem dX0_pairPosts_185 : decode cX0_pairPosts 185 = .ok (.iaload, 1) := by decide +kernel
theorem dX0_pairPosts_186 : decode cX0_pairPosts 186 = .ok (.aload_n 0, 1) := by decide +kernel
theorem dX0_pairPosts_187 : decode cX0_pairPosts 187 = .ok (.getfield 35, 3) := by decide +kernel
theorem dX0_pairPosts_190 : decode cX0_pairPosts 190 = .ok (.iload 6, 2) := by decide +kernel
theorem dX0_pairPosts_192 : decode cX0_pairPosts 192 = .ok (.iaload, 1) := by decide +kernel
theorem dX0_pairPosts_193 : decode cX0_pairPosts 193 = .ok (.iastore, 1) := by decide +kernel
theorem dX0_pairPosts_194 : decode cX0_pairPosts 194 = .ok (.iinc 6 1, 3) := by decide +kernel
theorem dX0_pairPosts_197 : decode cX0_pairPosts 197 = .ok (.goto (-71), 3) := by decide +kernel
theorem dX0_pairPosts_200 : decode cX0_pairPosts 200 = .ok (.return_, 1) := by decide +kernel
theorem dX0_meet_0 : decode cX0_meet 0 = .ok (.aload_n 0, 1) := by decide +kernel
theorem dX0_meet_1 : decode cX0_meet 1 = .ok (.getfield 45, 3) := by decide +kernel
theorem dX0_meet_4 : decode cX0_meet 4 = .ok (.aload_n 0, 1) := by decide +kernel
theorem dX0_meet_5 : decode cX0_meet 5 = .ok (.getfield 49, 3) := by decide +kernel
theorem dX0_meet_8 : decode cX0_meet 8 = .ok (.getfield 106, 3) := by decide +kernel
theorem dX0_meet_11 : decode cX0_meet 11 = .ok (.iload_n 1, 1) := by decide +kernel
theorem dX0_meet_12 : decode cX0_meet 12 = .ok (.iaload, 1) := by decide +kernel
theorem dX0_meet_13 : decode cX0_meet 13 = .ok (.aload_n 0, 1) := by decide +kernel
theorem dX0_meet_14 : decode cX0_meet 14 = .ok (.getfield 49, 3) := by decide +kernel
theorem dX0_meet_17 : decode cX0_meet 17 = .ok (.getfield 106, 3) := by decide +kernel
theorem dX0_meet_20 : decode cX0_meet 20 = .ok (.iload_n 2, 1) := by decide +kernel
theorem dX0_meet_21 : decode cX0_meet 21 = .ok (.iaload, 1) := by decide +kernel
theorem dX0_meet_22 : decode cX0_meet 22 = .ok (.invokevirtual 109, 3) := by decide +kernel
theorem dX0_meet_25 : decode cX0_meet 25 = .ok (.istore 4, 2) := by decide +kernel
theorem dX0_meet_27 : decode cX0_meet 27 = .ok (.iload 4, 2) := by decide +kernel
theorem dX0_meet_29 : decode cX0_meet 29 = .ok (.iconst (-1), 1) := by decide +kernel
theorem dX0_meet_30 : decode cX0_meet 30 = .ok (.if_icmp .eq 39, 3) := by decide +kernel
theorem dX0_meet_33 : decode cX0_meet 33 = .ok (.aload_n 0, 1) := by decide +kernel
theorem dX0_meet_34 : decode cX0_meet 34 = .ok (.getfield 45, 3) := by decide +kernel
theorem dX0_meet_37 : decode cX0_meet 37 = .ok (.iload 4, 2) := by decide +kernel
theorem dX0_meet_39 : decode cX0_meet 39 = .ok (.iload_n 3, 1) := by decide +kernel
theorem dX0_meet_40 : decode cX0_meet 40 = .ok (.aload_n 0, 1) := by decide +kernel
theorem dX0_meet_41 : decode cX0_meet 41 = .ok (.getfield 49, 3) := by decide +kernel
theorem dX0_meet_44 : decode cX0_meet 44 = .ok (.getfield 115, 3) := by decide +kernel
theorem dX0_meet_47 : decode cX0_meet 47 = .ok (.iload_n 2, 1) := by decide +kernel
theorem dX0_meet_48 : decode cX0_meet 48 = .ok (.iaload, 1) := by decide +kernel
theorem dX0_meet_49 : decode cX0_meet 49 = .ok (.aload_n 0, 1) := by decide +kernel
theorem dX0_meet_50 : decode cX0_meet 50 = .ok (.getfield 49, 3) := by decide +kernel
theorem dX0_meet_53 : decode cX0_meet 53 = .ok (.getfield 115, 3) := by decide +kernel
theorem dX0_meet_56 : decode cX0_meet 56 = .ok (.iload_n 1, 1) := by decide +kernel
theorem dX0_meet_57 : decode cX0_meet 57 = .ok (.iaload, 1) := by decide +kernel
theorem dX0_meet_58 : decode cX0_meet 58 = .ok (.isub, 1) := by decide +kernel
theorem dX0_meet_59 : decode cX0_meet 59 = .ok (.invokevirtual 118, 3) := by decide +kernel
theorem dX0_meet_62 : decode cX0_meet 62 = .ok (.ifCond .eq 7, 3) := by decide +kernel
theorem dX0_meet_65 : decode cX0_meet 65 = .ok (.iconst 1, 1) := by decide +kernel
theorem dX0_meet_66 : decode cX0_meet 66 = .ok (.goto 4, 3) := by decide +kernel
theorem dX0_meet_69 : decode cX0_meet 69 = .ok (.iconst 0, 1) := by decide +kernel
theorem dX0_meet_70 : decode cX0_meet 70 = .ok (.ireturn, 1) := by decide +kernel
theorem dX0_followBirds_0 : decode cX0_followBirds 0 = .ok (.aload_n 0, 1) := by decide +kernel
theorem dX0_followBirds_1 : decode cX0_followBirds 1 = .ok (.getfield 49, 3) := by decide +kernel
theorem dX0_followBirds_4 : decode cX0_followBirds 4 = .ok (.iload_n 1, 1) := by decide +kernel
theorem dX0_followBirds_5 : decode cX0_followBirds 5 = .ok (.iload_n 2, 1) := by decide +kernel
theorem dX0_followBirds_6 : decode cX0_followBirds 6 = .ok (.aload_n 0, 1) := by decide +kernel
theorem dX0_followBirds_7 : decode cX0_followBirds 7 = .ok (.getfield 35, 3) := by decide +kernel
theorem dX0_followBirds_10 : decode cX0_followBirds 10 = .ok (.invokevirtual 82, 3) := by decide +kernel
theorem dX0_followBirds_13 : decode cX0_followBirds 13 = .ok (.istore_n 3, 1) := by decide +kernel
theorem dX0_followBirds_14 : decode cX0_followBirds 14 = .ok (.iconst 0, 1) := by decide +kernel
theorem dX0_followBirds_15 : decode cX0_followBirds 15 = .ok (.istore 4, 2) := by decide +kernel
theorem dX0_followBirds_17 : decode cX0_followBirds 17 = .ok (.iload 4, 2) := by decide +kernel
theorem dX0_followBirds_19 : decode cX0_followBirds 19 = .ok (.iload_n 3, 1) := by decide +kernel
theorem dX0_followBirds_20 : decode cX0_followBirds 20 = .ok (.if_icmp .ge 119, 3) := by decide +kernel
theorem dX0_followBirds_23 : decode cX0_followBirds 23 = .ok (.aload_n 0, 1) := by decide +kernel
theorem dX0_followBirds_24 : decode cX0_followBirds 24 = .ok (.getfield 35, 3) := by decide +kernel
theorem dX0_followBirds_27 : decode cX0_followBirds 27 = .ok (.iload 4, 2) := by decide +kernel
theorem dX0_followBirds_29 : decode cX0_followBirds 29 = .ok (.iaload, 1) := by decide +kernel
theorem dX0_followBirds_30 : decode cX0_followBirds 30 = .ok (.istore 5, 2) := by decide +kernel
theorem dX0_followBirds_32 : decode cX0_followBirds 32 = .ok (.aload_n 0, 1) := by decide +kernel
theorem dX0_followBirds_33 : decode cX0_followBirds 33 = .ok (.getfield 49, 3) := by decide +kernel
theorem dX0_followBirds_36 : decode cX0_followBirds 36 = .ok (.getfield 106, 3) := by decide +kernel
theorem dX0_followBirds_39 : decode cX0_followBirds 39 = .ok (.iload 5, 2) := by decide +kernel
theorem dX0_followBirds_41 : decode cX0_followBirds 41 = .ok (.iaload, 1) := by decide +kernel
theorem dX0_followBirds_42 : decode cX0_followBirds 42 = .ok (.istore 6, 2) := by decide +kernel
theorem dX0_followBirds_44 : decode cX0_followBirds 44 = .ok (.aload_n 0, 1) := by decide +kernel
theorem dX0_followBirds_45 : decode cX0_followBirds 45 = .ok (.getfield 26, 3) := by decide +kernel
theorem dX0_followBirds_48 : decode cX0_followBirds 48 = .ok (.iload 5, 2) := by decide +kernel
theorem dX0_followBirds_50 : decode cX0_followBirds 50 = .ok (.iaload, 1) := by decide +kernel
theorem dX0_followBirds_51 : decode cX0_followBirds 51 = .ok (.ifCond .ge 24, 3) := by decide +kernel
theorem dX0_followBirds_54 : decode cX0_followBirds 54 = .ok (.aload_n 0, 1) := by decide +kernel
theorem dX0_followBirds_55 : decode cX0_followBirds 55 = .ok (.getfield 29, 3) := by decide +kernel
theorem dX0_followBirds_58 : decode cX0_followBirds 58 = .ok (.iload 5, 2) := by decide +kernel
theorem dX0_followBirds_60 : decode cX0_followBirds 60 = .ok (.iload 5, 2) := by decide +kernel
theorem dX0_followBirds_62 : decode cX0_followBirds 62 = .ok (.iastore, 1) := by decide +kernel
theorem dX0_followBirds_63 : decode cX0_followBirds 63 = .ok (.aload_n 0, 1) := by decide +kernel
theorem dX0_followBirds_64 : decode cX0_followBirds 64 = .ok (.getfield 32, 3) := by decide +kernel
theorem dX0_followBirds_67 : decode cX0_followBirds 67 = .ok (.iload 5, 2) := by decide +kernel
theorem dX0_followBirds_69 : decode cX0_followBirds 69 = .ok (.iload 6, 2) := by decide +kernel
theorem dX0_followBirds_71 : decode cX0_followBirds 71 = .ok (.iastore, 1) := by decide +kernel
theorem dX0_followBirds_72 : decode cX0_followBirds 72 = .ok (.goto 61, 3) := by decide +kernel
theorem dX0_followBirds_75 : decode cX0_followBirds 75 = .ok (.aload_n 0, 1) := by decide +kernel
theorem dX0_followBirds_76 : decode cX0_followBirds 76 = .ok (.getfield 29, 3) := by decide +kernel
theorem dX0_followBirds_79 : decode cX0_followBirds 79 = .ok (.aload_n 0, 1) := by decide +kernel
theorem dX0_followBirds_80 : decode cX0_followBirds 80 = .ok (.getfield 26, 3) := by decide +kernel
theorem dX0_followBirds_83 : decode cX0_followBirds 83 = .ok (.iload 5, 2) := by decide +kernel
theorem dX0_followBirds_85 : decode cX0_followBirds 85 = .ok (.iaload, 1) := by decide +kernel
theorem dX0_followBirds_86 : decode cX0_followBirds 86 = .ok (.iaload, 1) := by decide +kernel
theorem dX0_followBirds_87 : decode cX0_followBirds 87 = .ok (.istore 7, 2) := by decide +kernel
theorem dX0_followBirds_89 : decode cX0_followBirds 89 = .ok (.aload_n 0, 1) := by decide +kernel
theorem dX0_followBirds_90 : decode cX0_followBirds 90 = .ok (.getfield 29, 3) := by decide +kernel
theorem dX0_followBirds_93 : decode cX0_followBirds 93 = .ok (.iload 5, 2) := by decide +kernel
theorem dX0_followBirds_95 : decode cX0_followBirds 95 = .ok (.iload 7, 2) := by decide +kernel
theorem dX0_followBirds_97 : decode cX0_followBirds 97 = .ok (.iastore, 1) := by decide +kernel
theorem dX0_followBirds_98 : decode cX0_followBirds 98 = .ok (.aload_n 0, 1) := by decide +kernel
theorem dX0_followBirds_99 : decode cX0_followBirds 99 = .ok (.getfield 45, 3) := by decide +kernel
theorem dX0_followBirds_102 : decode cX0_followBirds 102 = .ok (.iload 6, 2) := by decide +kernel
theorem dX0_followBirds_104 : decode cX0_followBirds 104 = .ok (.invokevirtual 121, 3) := by decide +kernel
theorem dX0_followBirds_107 : decode cX0_followBirds 107 = .ok (.aload_n 0, 1) := by decide +kernel
theorem dX0_followBirds_108 : decode cX0_followBirds 108 = .ok (.getfield 45, 3) := by decide +kernel
theorem dX0_followBirds_111 : decode cX0_followBirds 111 = .ok (.aload_n 0, 1) := by decide +kernel
theorem dX0_followBirds_112 : decode cX0_followBirds 112 = .ok (.getfield 32, 3) := by decide +kernel
theorem dX0_followBirds_115 : decode cX0_followBirds 115 = .ok (.iload 7, 2) := by decide +kernel
theorem dX0_followBirds_117 : decode cX0_followBirds 117 = .ok (.iaload, 1) := by decide +kernel
theorem dX0_followBirds_118 : decode cX0_followBirds 118 = .ok (.invokevirtual 121, 3) := by decide +kernel
theorem dX0_followBirds_121 : decode cX0_followBirds 121 = .ok (.if_icmp .le 12, 3) := by decide +kernel
theorem dX0_followBirds_124 : decode cX0_followBirds 124 = .ok (.aload_n 0, 1) := by decide +kernel
theorem dX0_followBirds_125 : decode cX0_followBirds 125 = .ok (.getfield 32, 3) := by decide +kernel
theorem dX0_followBirds_128 : decode cX0_followBirds 128 = .ok (.iload 7, 2) := by decide +kernel
theorem dX0_followBirds_130 : decode cX0_followBirds 130 = .ok (.iload 6, 2) := by decide +kernel
theorem dX0_followBirds_132 : decode cX0_followBirds 132 = .ok (.iastore, 1) := by decide +kernel
theorem dX0_followBirds_133 : decode cX0_followBirds 133 = .ok (.iinc 4 1, 3) := by decide +kernel
theorem dX0_followBirds_136 : decode cX0_followBirds 136 = .ok (.goto (-119), 3) := by decide +kernel
theorem dX0_followBirds_139 : decode cX0_followBirds 139 = .ok (.return_, 1) := by decide +kernel
theorem dX0_isBirdOf_0 : decode cX0_isBirdOf 0 = .ok (.aload_n 0, 1) := by decide +kernel
theorem dX0_isBirdOf_1 : decode cX0_isBirdOf 1 = .ok (.getfield 49, 3) := by decide +kernel
theorem dX0_isBirdOf_4 : decode cX0_isBirdOf 4 = .ok (.iload_n 1, 1) := by decide +kernel
theorem dX0_isBirdOf_5 : decode cX0_isBirdOf 5 = .ok (.iload_n 2, 1) := by decide +kernel
theorem dX0_isBirdOf_6 : decode cX0_isBirdOf 6 = .ok (.invokevirtual 59, 3) := by decide +kernel
theorem dX0_isBirdOf_9 : decode cX0_isBirdOf 9 = .ok (.ifCond .eq 17, 3) := by decide +kernel
theorem dX0_isBirdOf_12 : decode cX0_isBirdOf 12 = .ok (.aload_n 0, 1) := by decide +kernel
theorem dX0_isBirdOf_13 : decode cX0_isBirdOf 13 = .ok (.getfield 29, 3) := by decide +kernel
theorem dX0_isBirdOf_16 : decode cX0_isBirdOf 16 = .ok (.iload_n 1, 1) := by decide +kernel
theorem dX0_isBirdOf_17 : decode cX0_isBirdOf 17 = .ok (.iaload, 1) := by decide +kernel
theorem dX0_isBirdOf_18 : decode cX0_isBirdOf 18 = .ok (.iload_n 1, 1) := by decide +kernel
theorem dX0_isBirdOf_19 : decode cX0_isBirdOf 19 = .ok (.if_icmp .ne 7, 3) := by decide +kernel
theorem dX0_isBirdOf_22 : decode cX0_isBirdOf 22 = .ok (.iconst 1, 1) := by decide +kernel
theorem dX0_isBirdOf_23 : decode cX0_isBirdOf 23 = .ok (.goto 4, 3) := by decide +kernel
theorem dX0_isBirdOf_26 : decode cX0_isBirdOf 26 = .ok (.iconst 0, 1) := by decide +kernel
theorem dX0_isBirdOf_27 : decode cX0_isBirdOf 27 = .ok (.ireturn, 1) := by decide +kernel
theorem dX0_pairsIn_0 : decode cX0_pairsIn 0 = .ok (.iconst 0, 1) := by decide +kernel
theorem dX0_pairsIn_1 : decode cX0_pairsIn 1 = .ok (.istore_n 2, 1) := by decide +kernel
theorem dX0_pairsIn_2 : decode cX0_pairsIn 2 = .ok (.iconst 0, 1) := by decide +kernel
theorem dX0_pairsIn_3 : decode cX0_pairsIn 3 = .ok (.istore_n 3, 1) := by decide +kernel
theorem dX0_pairsIn_4 : decode cX0_pairsIn 4 = .ok (.iload_n 3, 1) := by decide +kernel
theorem dX0_pairsIn_5 : decode cX0_pairsIn 5 = .ok (.aload_n 0, 1) := by decide +kernel
theorem dX0_pairsIn_6 : decode cX0_pairsIn 6 = .ok (.getfield 49, 3) := by decide +kernel
theorem dX0_pairsIn_9 : decode cX0_pairsIn 9 = .ok (.getfield 53, 3) := by decide +kernel
theorem dX0_pairsIn_12 : decode cX0_pairsIn 12 = .ok (.if_icmp .ge 33, 3) := by decide +kernel
theorem dX0_pairsIn_15 : decode cX0_pairsIn 15 = .ok (.aload_n 0, 1) := by decide +kernel
theorem dX0_pairsIn_16 : decode cX0_pairsIn 16 = .ok (.getfield 49, 3) := by decide +kernel
theorem dX0_pairsIn_19 : decode cX0_pairsIn 19 = .ok (.iload_n 3, 1) := by decide +kernel
theorem dX0_pairsIn_20 : decode cX0_pairsIn 20 = .ok (.iload_n 1, 1) := by decide +kernel
theorem dX0_pairsIn_21 : decode cX0_pairsIn 21 = .ok (.invokevirtual 59, 3) := by decide +kernel
theorem dX0_pairsIn_24 : decode cX0_pairsIn 24 = .ok (.ifCond .eq 15, 3) := by decide +kernel
theorem dX0_pairsIn_27 : decode cX0_pairsIn 27 = .ok (.aload_n 0, 1) := by decide +kernel
theorem dX0_pairsIn_28 : decode cX0_pairsIn 28 = .ok (.getfield 22, 3) := by decide +kernel
theorem dX0_pairsIn_31 : decode cX0_pairsIn 31 = .ok (.iload_n 3, 1) := by decide +kernel
theorem dX0_pairsIn_32 : decode cX0_pairsIn 32 = .ok (.iaload, 1) := by decide +kernel
theorem dX0_pairsIn_33 : decode cX0_pairsIn 33 = .ok (.ifCond .lt 6, 3) := by decide +kernel
theorem dX0_pairsIn_36 : decode cX0_pairsIn 36 = .ok (.iinc 2 1, 3) := by decide +kernel
theorem dX0_pairsIn_39 : decode cX0_pairsIn 39 = .ok (.iinc 3 1, 3) := by decide +kernel
theorem dX0_pairsIn_42 : decode cX0_pairsIn 42 = .ok (.goto (-38), 3) := by decide +kernel
theorem dX0_pairsIn_45 : decode cX0_pairsIn 45 = .ok (.iload_n 2, 1) := by decide +kernel
theorem dX0_pairsIn_46 : decode cX0_pairsIn 46 = .ok (.ireturn, 1) := by decide +kernel
theorem dX0_birdsIn_0 : decode cX0_birdsIn 0 = .ok (.iconst 0, 1) := by decide +kernel
theorem dX0_birdsIn_1 : decode cX0_birdsIn 1 = .ok (.istore_n 2, 1) := by decide +kernel
theorem dX0_birdsIn_2 : decode cX0_birdsIn 2 = .ok (.iconst 0, 1) := by decide +kernel
theorem dX0_birdsIn_3 : decode cX0_birdsIn 3 = .ok (.istore_n 3, 1) := by decide +kernel
theorem dX0_birdsIn_4 : decode cX0_birdsIn 4 = .ok (.iload_n 3, 1) := by decide +kernel
theorem dX0_birdsIn_5 : decode cX0_birdsIn 5 = .ok (.aload_n 0, 1) := by decide +kernel
theorem dX0_birdsIn_6 : decode cX0_birdsIn 6 = .ok (.getfield 49, 3) := by decide +kernel
theorem dX0_birdsIn_9 : decode cX0_birdsIn 9 = .ok (.getfield 53, 3) := by decide +kernel
theorem dX0_birdsIn_12 : decode cX0_birdsIn 12 = .ok (.if_icmp .ge 21, 3) := by decide +kernel
theorem dX0_birdsIn_15 : decode cX0_birdsIn 15 = .ok (.aload_n 0, 1) := by decide +kernel
theorem dX0_birdsIn_16 : decode cX0_birdsIn 16 = .ok (.iload_n 3, 1) := by decide +kernel
theorem dX0_birdsIn_17 : decode cX0_birdsIn 17 = .ok (.iload_n 1, 1) := by decide +kernel
theorem dX0_birdsIn_18 : decode cX0_birdsIn 18 = .ok (.invokevirtual 124, 3) := by decide +kernel
theorem dX0_birdsIn_21 : decode cX0_birdsIn 21 = .ok (.ifCond .eq 6, 3) := by decide +kernel
theorem dX0_birdsIn_24 : decode cX0_birdsIn 24 = .ok (.iinc 2 1, 3) := by decide +kernel
theorem dX0_birdsIn_27 : decode cX0_birdsIn 27 = .ok (.iinc 3 1, 3) := by decide +kernel
theorem dX0_birdsIn_30 : decode cX0_birdsIn 30 = .ok (.goto (-26), 3) := by decide +kernel
theorem dX0_birdsIn_33 : decode cX0_birdsIn 33 = .ok (.iload_n 2, 1) := by decide +kernel
theorem dX0_birdsIn_34 : decode cX0_birdsIn 34 = .ok (.ireturn, 1) := by decide +kernel
theorem dX0_addKinds_0 : decode cX0_addKinds 0 = .ok (.iconst 0, 1) := by decide +kernel
theorem dX0_addKinds_1 : decode cX0_addKinds 1 = .ok (.istore_n 3, 1) := by decide +kernel
theorem dX0_addKinds_2 : decode cX0_addKinds 2 = .ok (.iload_n 3, 1) := by decide +kernel
theorem dX0_addKinds_3 : decode cX0_addKinds 3 = .ok (.aload_n 0, 1) := by decide +kernel
theorem dX0_addKinds_4 : decode cX0_addKinds 4 = .ok (.getfield 49, 3) := by decide +kernel
theorem dX0_addKinds_7 : decode cX0_addKinds 7 = .ok (.getfield 53, 3) := by decide +kernel
theorem dX0_addKinds_10 : decode cX0_addKinds 10 = .ok (.if_icmp .ge 30, 3) := by decide +kernel
theorem dX0_addKinds_13 : decode cX0_addKinds 13 = .ok (.aload_n 0, 1) := by decide +kernel
theorem dX0_addKinds_14 : decode cX0_addKinds 14 = .ok (.iload_n 3, 1) := by decide +kernel
theorem dX0_addKinds_15 : decode cX0_addKinds 15 = .ok (.iload_n 1, 1) := by decide +kernel
theorem dX0_addKinds_16 : decode cX0_addKinds 16 = .ok (.invokevirtual 124, 3) := by decide +kernel
theorem dX0_addKinds_19 : decode cX0_addKinds 19 = .ok (.ifCond .eq 15, 3) := by decide +kernel
theorem dX0_addKinds_22 : decode cX0_addKinds 22 = .ok (.aload_n 2, 1) := by decide +kernel
theorem dX0_addKinds_23 : decode cX0_addKinds 23 = .ok (.aload_n 0, 1) := by decide +kernel
theorem dX0_addKinds_24 : decode cX0_addKinds 24 = .ok (.getfield 32, 3) := by decide +kernel
theorem dX0_addKinds_27 : decode cX0_addKinds 27 = .ok (.iload_n 3, 1) := by decide +kernel
theorem dX0_addKinds_28 : decode cX0_addKinds 28 = .ok (.iaload, 1) := by decide +kernel
theorem dX0_addKinds_29 : decode cX0_addKinds 29 = .ok (.dup2, 1) := by decide +kernel
theorem dX0_addKinds_30 : decode cX0_addKinds 30 = .ok (.iaload, 1) := by decide +kernel
theorem dX0_addKinds_31 : decode cX0_addKinds 31 = .ok (.iconst 1, 1) := by decide +kernel
theorem dX0_addKinds_32 : decode cX0_addKinds 32 = .ok (.iadd, 1) := by decide +kernel
theorem dX0_addKinds_33 : decode cX0_addKinds 33 = .ok (.iastore, 1) := by decide +kernel
theorem dX0_addKinds_34 : decode cX0_addKinds 34 = .ok (.iinc 3 1, 3) := by decide +kernel
theorem dX0_addKinds_37 : decode cX0_addKinds 37 = .ok (.goto (-35), 3) := by decide +kernel
theorem dX0_addKinds_40 : decode cX0_addKinds 40 = .ok (.return_, 1) := by decide +kernel
theorem dX0_addWinds_0 : decode cX0_addWinds 0 = .ok (.iconst 0, 1) := by decide +kernel
theorem dX0_addWinds_1 : decode cX0_addWinds 1 = .ok (.istore 4, 2) := by decide +kernel
theorem dX0_addWinds_3 : decode cX0_addWinds 3 = .ok (.iload 4, 2) := by decide +kernel
theorem dX0_addWinds_5 : decode cX0_addWinds 5 = .ok (.aload_n 0, 1) := by decide +kernel
theorem dX0_addWinds_6 : decode cX0_addWinds 6 = .ok (.getfield 49, 3) := by decide +kernel
theorem dX0_addWinds_9 : decode cX0_addWinds 9 = .ok (.getfield 53, 3) := by decide +kernel
theorem dX0_addWinds_12 : decode cX0_addWinds 12 = .ok (.if_icmp .ge 40, 3) := by decide +kernel
theorem dX0_addWinds_15 : decode cX0_addWinds 15 = .ok (.aload_n 0, 1) := by decide +kernel
theorem dX0_addWinds_16 : decode cX0_addWinds 16 = .ok (.iload 4, 2) := by decide +kernel
theorem dX0_addWinds_18 : decode cX0_addWinds 18 = .ok (.iload_n 1, 1) := by decide +kernel
theorem dX0_addWinds_19 : decode cX0_addWinds 19 = .ok (.invokevirtual 124, 3) := by decide +kernel
theorem dX0_addWinds_22 : decode cX0_addWinds 22 = .ok (.ifCond .eq 24, 3) := by decide +kernel
theorem dX0_addWinds_25 : decode cX0_addWinds 25 = .ok (.aload_n 3, 1) := by decide +kernel
theorem dX0_addWinds_26 : decode cX0_addWinds 26 = .ok (.aload_n 2, 1) := by decide +kernel
theorem dX0_addWinds_27 : decode cX0_addWinds 27 = .ok (.getfield 127, 3) := by decide +kernel
theorem dX0_addWinds_30 : decode cX0_addWinds 30 = .ok (.aload_n 0, 1) := by decide +kernel
theorem dX0_addWinds_31 : decode cX0_addWinds 31 = .ok (.getfield 49, 3) := by decide +kernel
theorem dX0_addWinds_34 : decode cX0_addWinds 34 = .ok (.getfield 63, 3) := by decide +kernel
theorem dX0_addWinds_37 : decode cX0_addWinds 37 = .ok (.iload 4, 2) := by decide +kernel
theorem dX0_addWinds_39 : decode cX0_addWinds 39 = .ok (.iaload, 1) := by decide +kernel
theorem dX0_addWinds_40 : decode cX0_addWinds 40 = .ok (.iaload, 1) := by decide +kernel
theorem dX0_addWinds_41 : decode cX0_addWinds 41 = .ok (.dup2, 1) := by decide +kernel
theorem dX0_addWinds_42 : decode cX0_addWinds 42 = .ok (.iaload, 1) := by decide +kernel
theorem dX0_addWinds_43 : decode cX0_addWinds 43 = .ok (.iconst 1, 1) := by decide +kernel
theorem dX0_addWinds_44 : decode cX0_addWinds 44 = .ok (.iadd, 1) := by decide +kernel
theorem dX0_addWinds_45 : decode cX0_addWinds 45 = .ok (.iastore, 1) := by decide +kernel
theorem dX0_addWinds_46 : decode cX0_addWinds 46 = .ok (.iinc 4 1, 3) := by decide +kernel
theorem dX0_addWinds_49 : decode cX0_addWinds 49 = .ok (.goto (-46), 3) := by decide +kernel
theorem dX0_addWinds_52 : decode cX0_addWinds 52 = .ok (.return_, 1) := by decide +kernel
theorem dX0_addSlots_0 : decode cX0_addSlots 0 = .ok (.iconst 0, 1) := by decide +kernel
theorem dX0_addSlots_1 : decode cX0_addSlots 1 = .ok (.istore 4, 2) := by decide +kernel
theorem dX0_addSlots_3 : decode cX0_addSlots 3 = .ok (.iconst 0, 1) := by decide +kernel
theorem dX0_addSlots_4 : decode cX0_addSlots 4 = .ok (.istore 5, 2) := by decide +kernel
theorem dX0_addSlots_6 : decode cX0_addSlots 6 = .ok (.iload 5, 2) := by decide +kernel
theorem dX0_addSlots_8 : decode cX0_addSlots 8 = .ok (.aload_n 0, 1) := by decide +kernel
theorem dX0_addSlots_9 : decode cX0_addSlots 9 = .ok (.getfield 49, 3) := by decide +kernel
theorem dX0_addSlots_12 : decode cX0_addSlots 12 = .ok (.getfield 53, 3) := by decide +kernel
theorem dX0_addSlots_15 : decode cX0_addSlots 15 = .ok (.if_icmp .ge 72, 3) := by decide +kernel
theorem dX0_addSlots_18 : decode cX0_addSlots 18 = .ok (.aload_n 0, 1) := by decide +kernel
theorem dX0_addSlots_19 : decode cX0_addSlots 19 = .ok (.iload 5, 2) := by decide +kernel
theorem dX0_addSlots_21 : decode cX0_addSlots 21 = .ok (.iload_n 1, 1) := by decide +kernel
theorem dX0_addSlots_22 : decode cX0_addSlots 22 = .ok (.invokevirtual 124, 3) := by decide +kernel
theorem dX0_addSlots_25 : decode cX0_addSlots 25 = .ok (.ifCond .eq 56, 3) := by decide +kernel
theorem dX0_addSlots_28 : decode cX0_addSlots 28 = .ok (.aload_n 0, 1) := by decide +kernel
theorem dX0_addSlots_29 : decode cX0_addSlots 29 = .ok (.getfield 45, 3) := by decide +kernel
theorem dX0_addSlots_32 : decode cX0_addSlots 32 = .ok (.aload_n 0, 1) := by decide +kernel
theorem dX0_addSlots_33 : decode cX0_addSlots 33 = .ok (.getfield 32, 3) := by decide +kernel
theorem dX0_addSlots_36 : decode cX0_addSlots 36 = .ok (.iload 5, 2) := by decide +kernel
theorem dX0_addSlots_38 : decode cX0_addSlots 38 = .ok (.iaload, 1) := by decide +kernel
theorem dX0_addSlots_39 : decode cX0_addSlots 39 = .ok (.iload_n 2, 1) := by decide +kernel
theorem dX0_addSlots_40 : decode cX0_addSlots 40 = .ok (.invokevirtual 132, 3) := by decide +kernel
theorem dX0_addSlots_43 : decode cX0_addSlots 43 = .ok (.ifCond .eq 38, 3) := by decide +kernel
theorem dX0_addSlots_46 : decode cX0_addSlots 46 = .ok (.aload_n 3, 1) := by decide +kernel
theorem dX0_addSlots_47 : decode cX0_addSlots 47 = .ok (.aload_n 0, 1) := by decide +kernel
theorem dX0_addSlots_48 : decode cX0_addSlots 48 = .ok (.getfield 49, 3) := by decide +kernel
theorem dX0_addSlots_51 : decode cX0_addSlots 51 = .ok (.getfield 63, 3) := by decide +kernel
theorem dX0_addSlots_54 : decode cX0_addSlots 54 = .ok (.iload 5, 2) := by decide +kernel
theorem dX0_addSlots_56 : decode cX0_addSlots 56 = .ok (.iaload, 1) := by decide +kernel
theorem dX0_addSlots_57 : decode cX0_addSlots 57 = .ok (.bipush 30, 2) := by decide +kernel
theorem dX0_addSlots_59 : decode cX0_addSlots 59 = .ok (.irem, 1) := by decide +kernel
theorem dX0_addSlots_60 : decode cX0_addSlots 60 = .ok (.bipush 10, 2) := by decide +kernel
theorem dX0_addSlots_62 : decode cX0_addSlots 62 = .ok (.imul, 1) := by decide +kernel
theorem dX0_addSlots_63 : decode cX0_addSlots 63 = .ok (.aload_n 0, 1) := by decide +kernel
theorem dX0_addSlots_64 : decode cX0_addSlots 64 = .ok (.getfield 49, 3) := by decide +kernel
theorem dX0_addSlots_67 : decode cX0_addSlots 67 = .ok (.iload 5, 2) := by decide +kernel
theorem dX0_addSlots_69 : decode cX0_addSlots 69 = .ok (.invokevirtual 135, 3) := by decide +kernel
theorem dX0_addSlots_72 : decode cX0_addSlots 72 = .ok (.iadd, 1) := by decide +kernel
theorem dX0_addSlots_73 : decode cX0_addSlots 73 = .ok (.dup2, 1) := by decide +kernel
theorem dX0_addSlots_74 : decode cX0_addSlots 74 = .ok (.iaload, 1) := by decide +kernel
theorem dX0_addSlots_75 : decode cX0_addSlots 75 = .ok (.iconst 1, 1) := by decide +kernel
theorem dX0_addSlots_76 : decode cX0_addSlots 76 = .ok (.iadd, 1) := by decide +kernel
theorem dX0_addSlots_77 : decode cX0_addSlots 77 = .ok (.iastore, 1) := by decide +kernel
theorem dX0_addSlots_78 : decode cX0_addSlots 78 = .ok (.iinc 4 1, 3) := by decide +kernel
theorem dX0_addSlots_81 : decode cX0_addSlots 81 = .ok (.iinc 5 1, 3) := by decide +kernel
theorem dX0_addSlots_84 : decode cX0_addSlots 84 = .ok (.goto (-78), 3) := by decide +kernel
theorem dX0_addSlots_87 : decode cX0_addSlots 87 = .ok (.iload 4, 2) := by decide +kernel
theorem dX0_addSlots_89 : decode cX0_addSlots 89 = .ok (.ireturn, 1) := by decide +kernel
theorem dX1_init_0 : decode cX1_init 0 = .ok (.aload_n 0, 1) := by decide +kernel
theorem dX1_init_1 : decode cX1_init 1 = .ok (.invokespecial 3, 3) := by decide +kernel
theorem dX1_init_4 : decode cX1_init 4 = .ok (.aload_n 0, 1) := by decide +kernel
theorem dX1_init_5 : decode cX1_init 5 = .ok (.bipush 20, 2) := by decide +kernel
theorem dX1_init_7 : decode cX1_init 7 = .ok (.newarray .int, 2) := by decide +kernel
theorem dX1_init_9 : decode cX1_init 9 = .ok (.putfield 9, 3) := by decide +kernel
theorem dX1_init_12 : decode cX1_init 12 = .ok (.aload_n 0, 1) := by decide +kernel
theorem dX1_init_13 : decode cX1_init 13 = .ok (.bipush 20, 2) := by decide +kernel
theorem dX1_init_15 : decode cX1_init 15 = .ok (.newarray .int, 2) := by decide +kernel
theorem dX1_init_17 : decode cX1_init 17 = .ok (.putfield 15, 3) := by decide +kernel
theorem dX1_init_20 : decode cX1_init 20 = .ok (.aload_n 0, 1) := by decide +kernel
theorem dX1_init_21 : decode cX1_init 21 = .ok (.bipush 20, 2) := by decide +kernel
theorem dX1_init_23 : decode cX1_init 23 = .ok (.newarray .int, 2) := by decide +kernel
theorem dX1_init_25 : decode cX1_init 25 = .ok (.putfield 18, 3) := by decide +kernel
theorem dX1_init_28 : decode cX1_init 28 = .ok (.aload_n 0, 1) := by decide +kernel
theorem dX1_init_29 : decode cX1_init 29 = .ok (.bipush 20, 2) := by decide +kernel
theorem dX1_init_31 : decode cX1_init 31 = .ok (.newarray .boolean, 2) := by decide +kernel
theorem dX1_init_33 : decode cX1_init 33 = .ok (.putfield 21, 3) := by decide +kernel
theorem dX1_init_36 : decode cX1_init 36 = .ok (.aload_n 0, 1) := by decide +kernel
theorem dX1_init_37 : decode cX1_init 37 = .ok (.getfield 9, 3) := by decide +kernel
theorem dX1_init_40 : decode cX1_init 40 = .ok (.iconst 0, 1) := by decide +kernel
theorem dX1_init_41 : decode cX1_init 41 = .ok (.iconst 1, 1) := by decide +kernel
theorem dX1_init_42 : decode cX1_init 42 = .ok (.iastore, 1) := by decide +kernel
theorem dX1_init_43 : decode cX1_init 43 = .ok (.aload_n 0, 1) := by decide +kernel
theorem dX1_init_44 : decode cX1_init 44 = .ok (.getfield 15, 3) := by decide +kernel
theorem dX1_init_47 : decode cX1_init 47 = .ok (.iconst 0, 1) := by decide +kernel
theorem dX1_init_48 : decode cX1_init 48 = .ok (.sipush 400, 3) := by decide +kernel
theorem dX1_init_51 : decode cX1_init 51 = .ok (.iastore, 1) := by decide +kernel
theorem dX1_init_52 : decode cX1_init 52 = .ok (.aload_n 0, 1) := by decide +kernel
theorem dX1_init_53 : decode cX1_init 53 = .ok (.getfield 18, 3) := by decide +kernel
theorem dX1_init_56 : decode cX1_init 56 = .ok (.iconst 0, 1) := by decide +kernel
theorem dX1_init_57 : decode cX1_init 57 = .ok (.iconst 1, 1) := by decide +kernel
theorem dX1_init_58 : decode cX1_init 58 = .ok (.iastore, 1) := by decide +kernel
theorem dX1_init_59 : decode cX1_init 59 = .ok (.aload_n 0, 1) := by decide +kernel
theorem dX1_init_60 : decode cX1_init 60 = .ok (.getfield 21, 3) := by decide +kernel
theorem dX1_init_63 : decode cX1_init 63 = .ok (.iconst 0, 1) := by decide +kernel
theorem dX1_init_64 : decode cX1_init 64 = .ok (.iconst 1, 1) := by decide +kernel
theorem dX1_init_65 : decode cX1_init 65 = .ok (.bastore, 1) := by decide +kernel
theorem dX1_init_66 : decode cX1_init 66 = .ok (.aload_n 0, 1) := by decide +kernel
theorem dX1_init_67 : decode cX1_init 67 = .ok (.iconst 1, 1) := by decide +kernel
theorem dX1_init_68 : decode cX1_init 68 = .ok (.putfield 25, 3) := by decide +kernel
theorem dX1_init_71 : decode cX1_init 71 = .ok (.return_, 1) := by decide +kernel
theorem dX1_has_0 : decode cX1_has 0 = .ok (.iload_n 1, 1) := by decide +kernel
theorem dX1_has_1 : decode cX1_has 1 = .ok (.ifCond .lt 15, 3) := by decide +kernel
theorem dX1_has_4 : decode cX1_has 4 = .ok (.iload_n 1, 1) := by decide +kernel
theorem dX1_has_5 : decode cX1_has 5 = .ok (.aload_n 0, 1) := by decide +kernel
theorem dX1_has_6 : decode cX1_has 6 = .ok (.getfield 25, 3) := by decide +kernel
theorem dX1_has_9 : decode cX1_has 9 = .ok (.if_icmp .ge 7, 3) := by decide +kernel
theorem dX1_has_12 : decode cX1_has 12 = .ok (.iconst 1, 1) := by decide +kernel
theorem dX1_has_13 : decode cX1_has 13 = .ok (.goto 4, 3) := by decide +kernel
theorem dX1_has_16 : decode cX1_has 16 = .ok (.iconst 0, 1) := by decide +kernel
theorem dX1_has_17 : decode cX1_has 17 = .ok (.ireturn, 1) := by decide +kernel
theorem dX1_add_0 : decode cX1_add 0 = .ok (.aload_n 0, 1) := by decide +kernel
theorem dX1_add_1 : decode cX1_add 1 = .ok (.iload_n 1, 1) := by decide +kernel
theorem dX1_add_2 : decode cX1_add 2 = .ok (.invokevirtual 29, 3) := by decide +kernel
theorem dX1_add_5 : decode cX1_add 5 = .ok (.ifCond .eq 12, 3) := by decide +kernel
theorem dX1_add_8 : decode cX1_add 8 = .ok (.aload_n 0, 1) := by decide +kernel
theorem dX1_add_9 : decode cX1_add 9 = .ok (.getfield 25, 3) := by decide +kernel
theorem dX1_add_12 : decode cX1_add 12 = .ok (.bipush 20, 2) := by decide +kernel
theorem dX1_add_14 : decode cX1_add 14 = .ok (.if_icmp .lt 5, 3) := by decide +kernel
theorem dX1_add_17 : decode cX1_add 17 = .ok (.iconst (-1), 1) := by decide +kernel
theorem dX1_add_18 : decode cX1_add 18 = .ok (.ireturn, 1) := by decide +kernel
theorem dX1_add_19 : decode cX1_add 19 = .ok (.iload_n 2, 1) := by decide +kernel
theorem dX1_add_20 : decode cX1_add 20 = .ok (.iconst 1, 1) := by decide +kernel
theorem dX1_add_21 : decode cX1_add 21 = .ok (.if_icmp .lt 15, 3) := by decide +kernel
theorem dX1_add_24 : decode cX1_add 24 = .ok (.iload_n 2, 1) := by decide +kernel
theorem dX1_add_25 : decode cX1_add 25 = .ok (.iload_n 3, 1) := by decide +kernel
theorem dX1_add_26 : decode cX1_add 26 = .ok (.if_icmp .gt 10, 3) := by decide +kernel
theorem dX1_add_29 : decode cX1_add 29 = .ok (.iload_n 3, 1) := by decide +kernel
theorem dX1_add_30 : decode cX1_add 30 = .ok (.sipush 400, 3) := by decide +kernel
theorem dX1_add_33 : decode cX1_add 33 = .ok (.if_icmp .le 5, 3) := by decide +kernel
theorem dX1_add_36 : decode cX1_add 36 = .ok (.iconst (-1), 1) := by decide +kernel
theorem dX1_add_37 : decode cX1_add 37 = .ok (.ireturn, 1) := by decide +kernel
theorem dX1_add_38 : decode cX1_add 38 = .ok (.aload_n 0, 1) := by decide +kernel
theorem dX1_add_39 : decode cX1_add 39 = .ok (.getfield 9, 3) := by decide +kernel
theorem dX1_add_42 : decode cX1_add 42 = .ok (.aload_n 0, 1) := by decide +kernel
theorem dX1_add_43 : decode cX1_add 43 = .ok (.getfield 25, 3) := by decide +kernel
theorem dX1_add_46 : decode cX1_add 46 = .ok (.iload_n 2, 1) := by decide +kernel
theorem dX1_add_47 : decode cX1_add 47 = .ok (.iastore, 1) := by decide +kernel
theorem dX1_add_48 : decode cX1_add 48 = .ok (.aload_n 0, 1) := by decide +kernel
theorem dX1_add_49 : decode cX1_add 49 = .ok (.getfield 15, 3) := by decide +kernel
theorem dX1_add_52 : decode cX1_add 52 = .ok (.aload_n 0, 1) := by decide +kernel
theorem dX1_add_53 : decode cX1_add 53 = .ok (.getfield 25, 3) := by decide +kernel
theorem dX1_add_56 : decode cX1_add 56 = .ok (.iload_n 3, 1) := by decide +kernel
theorem dX1_add_57 : decode cX1_add 57 = .ok (.iastore, 1) := by decide +kernel
theorem dX1_add_58 : decode cX1_add 58 = .ok (.aload_n 0, 1) := by decide +kernel
theorem dX1_add_59 : decode cX1_add 59 = .ok (.getfield 18, 3) := by decide +kernel
theorem dX1_add_62 : decode cX1_add 62 = .ok (.aload_n 0, 1) := by decide +kernel
theorem dX1_add_63 : decode cX1_add 63 = .ok (.getfield 25, 3) := by decide +kernel
theorem dX1_add_66 : decode cX1_add 66 = .ok (.aload_n 0, 1) := by decide +kernel
theorem dX1_add_67 : decode cX1_add 67 = .ok (.getfield 18, 3) := by decide +kernel
theorem dX1_add_70 : decode cX1_add 70 = .ok (.iload_n 1, 1) := by decide +kernel
theorem dX1_add_71 : decode cX1_add 71 = .ok (.iaload, 1) := by decide +kernel
theorem dX1_add_72 : decode cX1_add 72 = .ok (.iconst 1, 1) := by decide +kernel
theorem dX1_add_73 : decode cX1_add 73 = .ok (.aload_n 0, 1) := by decide +kernel
theorem dX1_add_74 : decode cX1_add 74 = .ok (.getfield 25, 3) := by decide +kernel
theorem dX1_add_77 : decode cX1_add 77 = .ok (.ishl, 1) := by decide +kernel
theorem dX1_add_78 : decode cX1_add 78 = .ok (.ior, 1) := by decide +kernel
theorem dX1_add_79 : decode cX1_add 79 = .ok (.iastore, 1) := by decide +kernel
theorem dX1_add_80 : decode cX1_add 80 = .ok (.aload_n 0, 1) := by decide +kernel
theorem dX1_add_81 : decode cX1_add 81 = .ok (.getfield 21, 3) := by decide +kernel
theorem dX1_add_84 : decode cX1_add 84 = .ok (.aload_n 0, 1) := by decide +kernel
theorem dX1_add_85 : decode cX1_add 85 = .ok (.getfield 25, 3) := by decide +kernel
theorem dX1_add_88 : decode cX1_add 88 = .ok (.iconst 1, 1) := by decide +kernel
theorem dX1_add_89 : decode cX1_add 89 = .ok (.bastore, 1) := by decide +kernel
theorem dX1_add_90 : decode cX1_add 90 = .ok (.aload_n 0, 1) := by decide +kernel
theorem dX1_add_91 : decode cX1_add 91 = .ok (.getfield 21, 3) := by decide +kernel
theorem dX1_add_94 : decode cX1_add 94 = .ok (.iload_n 1, 1) := by decide +kernel
theorem dX1_add_95 : decode cX1_add 95 = .ok (.iconst 0, 1) := by decide +kernel
theorem dX1_add_96 : decode cX1_add 96 = .ok (.bastore, 1) := by decide +kernel
theorem dX1_add_97 : decode cX1_add 97 = .ok (.aload_n 0, 1) := by decide +kernel
theorem dX1_add_98 : decode cX1_add 98 = .ok (.dup, 1) := by decide +kernel
theorem dX1_add_99 : decode cX1_add 99 = .ok (.getfield 25, 3) := by decide +kernel
theorem dX1_add_102 : decode cX1_add 102 = .ok (.iconst 1, 1) := by decide +kernel
theorem dX1_add_103 : decode cX1_add 103 = .ok (.iadd, 1) := by decide +kernel
theorem dX1_add_104 : decode cX1_add 104 = .ok (.putfield 25, 3) := by decide +kernel
theorem dX1_add_107 : decode cX1_add 107 = .ok (.aload_n 0, 1) := by decide +kernel
theorem dX1_add_108 : decode cX1_add 108 = .ok (.getfield 25, 3) := by decide +kernel
theorem dX1_add_111 : decode cX1_add 111 = .ok (.iconst 1, 1) := by decide +kernel
theorem dX1_add_112 : decode cX1_add 112 = .ok (.isub, 1) := by decide +kernel
theorem dX1_add_113 : decode cX1_add 113 = .ok (.ireturn, 1) := by decide +kernel
theorem dX1_isUnder_0 : decode cX1_isUnder 0 = .ok (.aload_n 0, 1) := by decide +kernel
theorem dX1_isUnder_1 : decode cX1_isUnder 1 = .ok (.getfield 18, 3) := by decide +kernel
theorem dX1_isUnder_4 : decode cX1_isUnder 4 = .ok (.iload_n 1, 1) := by decide +kernel
theorem dX1_isUnder_5 : decode cX1_isUnder 5 = .ok (.iaload, 1) := by decide +kernel
theorem dX1_isUnder_6 : decode cX1_isUnder 6 = .ok (.iconst 1, 1) := by decide +kernel
theorem dX1_isUnder_7 : decode cX1_isUnder 7 = .ok (.iload_n 2, 1) := by decide +kernel
theorem dX1_isUnder_8 : decode cX1_isUnder 8 = .ok (.ishl, 1) := by decide +kernel
theorem dX1_isUnder_9 : decode cX1_isUnder 9 = .ok (.iand, 1) := by decide +kernel
theorem dX1_isUnder_10 : decode cX1_isUnder 10 = .ok (.ifCond .eq 7, 3) := by decide +kernel
theorem dX1_isUnder_13 : decode cX1_isUnder 13 = .ok (.iconst 1, 1) := by decide +kernel
theorem dX1_isUnder_14 : decode cX1_isUnder 14 = .ok (.goto 4, 3) := by decide +kernel
theorem dX1_isUnder_17 : decode cX1_isUnder 17 = .ok (.iconst 0, 1) := by decide +kernel
theorem dX1_isUnder_18 : decode cX1_isUnder 18 = .ok (.ireturn, 1) := by decide +kernel
theorem dX1_isLeafUnder_0 : decode cX1_isLeafUnder 0 = .ok (.aload_n 0, 1) := by decide +kernel
theorem dX1_isLeafUnder_1 : decode cX1_isLeafUnder 1 = .ok (.getfield 21, 3) := by decide +kernel
theorem dX1_isLeafUnder_4 : decode cX1_isLeafUnder 4 = .ok (.iload_n 1, 1) := by decide +kernel
theorem dX1_isLeafUnder_5 : decode cX1_isLeafUnder 5 = .ok (.baload, 1) := by decide +kernel
theorem dX1_isLeafUnder_6 : decode cX1_isLeafUnder 6 = .ok (.ifCond .eq 16, 3) := by decide +kernel
theorem dX1_isLeafUnder_9 : decode cX1_isLeafUnder 9 = .ok (.aload_n 0, 1) := by decide +kernel
theorem dX1_isLeafUnder_10 : decode cX1_isLeafUnder 10 = .ok (.iload_n 1, 1) := by decide +kernel
theorem dX1_isLeafUnder_11 : decode cX1_isLeafUnder 11 = .ok (.iload_n 2, 1) := by decide +kernel
theorem dX1_isLeafUnder_12 : decode cX1_isLeafUnder 12 = .ok (.invokevirtual 33, 3) := by decide +kernel
theorem dX1_isLeafUnder_15 : decode cX1_isLeafUnder 15 = .ok (.ifCond .eq 7, 3) := by decide +kernel
theorem dX1_isLeafUnder_18 : decode cX1_isLeafUnder 18 = .ok (.iconst 1, 1) := by decide +kernel
theorem dX1_isLeafUnder_19 : decode cX1_isLeafUnder 19 = .ok (.goto 4, 3) := by decide +kernel
theorem dX1_isLeafUnder_22 : decode cX1_isLeafUnder 22 = .ok (.iconst 0, 1) := by decide +kernel
theorem dX1_isLeafUnder_23 : decode cX1_isLeafUnder 23 = .ok (.ireturn, 1) := by decide +kernel
theorem dX1_depth_0 : decode cX1_depth 0 = .ok (.aload_n 0, 1) := by decide +kernel
theorem dX1_depth_1 : decode cX1_depth 1 = .ok (.getfield 18, 3) := by decide +kernel
theorem dX1_depth_4 : decode cX1_depth 4 = .ok (.iload_n 1, 1) := by decide +kernel
theorem dX1_depth_5 : decode cX1_depth 5 = .ok (.iaload, 1) := by decide +kernel
theorem dX1_depth_6 : decode cX1_depth 6 = .ok (.invokestatic 37, 3) := by decide +kernel
theorem dX1_depth_9 : decode cX1_depth 9 = .ok (.iconst 1, 1) := by decide +kernel
theorem dX1_depth_10 : decode cX1_depth 10 = .ok (.isub, 1) := by decide +kernel
theorem dX1_depth_11 : decode cX1_depth 11 = .ok (.ireturn, 1) := by decide +kernel
theorem dX1_leaves_0 : decode cX1_leaves 0 = .ok (.iconst 0, 1) := by decide +kernel
theorem dX1_leaves_1 : decode cX1_leaves 1 = .ok (.istore_n 1, 1) := by decide +kernel
theorem dX1_leaves_2 : decode cX1_leaves 2 = .ok (.iconst 0, 1) := by decide +kernel
theorem dX1_leaves_3 : decode cX1_leaves 3 = .ok (.istore_n 2, 1) := by decide +kernel
theorem dX1_leaves_4 : decode cX1_leaves 4 = .ok (.iload_n 2, 1) := by decide +kernel
theorem dX1_leaves_5 : decode cX1_leaves 5 = .ok (.aload_n 0, 1) := by decide +kernel
theorem dX1_leaves_6 : decode cX1_leaves 6 = .ok (.getfield 25, 3) := by decide +kernel
theorem dX1_leaves_9 : decode cX1_leaves 9 = .ok (.if_icmp .ge 21, 3) := by decide +kernel
theorem dX1_leaves_12 : decode cX1_leaves 12 = .ok (.aload_n 0, 1) := by decide +kernel
theorem dX1_leaves_13 : decode cX1_leaves 13 = .ok (.getfield 21, 3) := by decide +kernel
theorem dX1_leaves_16 : decode cX1_leaves 16 = .ok (.iload_n 2, 1) := by decide +kernel
theorem dX1_leaves_17 : decode cX1_leaves 17 = .ok (.baload, 1) := by decide +kernel
theorem dX1_leaves_18 : decode cX1_leaves 18 = .ok (.ifCond .eq 6, 3) := by decide +kernel
theorem dX1_leaves_21 : decode cX1_leaves 21 = .ok (.iinc 1 1, 3) := by decide +kernel
theorem dX1_leaves_24 : decode cX1_leaves 24 = .ok (.iinc 2 1, 3) := by decide +kernel
theorem dX1_leaves_27 : decode cX1_leaves 27 = .ok (.goto (-23), 3) := by decide +kernel
theorem dX1_leaves_30 : decode cX1_leaves 30 = .ok (.iload_n 1, 1) := by decide +kernel
theorem dX1_leaves_31 : decode cX1_leaves 31 = .ok (.ireturn, 1) := by decide +kernel
theorem dX1_deeperOf_0 : decode cX1_deeperOf 0 = .ok (.aload_n 0, 1) := by decide +kernel
theorem dX1_deeperOf_1 : decode cX1_deeperOf 1 = .ok (.iload_n 1, 1) := by decide +kernel
theorem dX1_deeperOf_2 : decode cX1_deeperOf 2 = .ok (.iload_n 2, 1) := by decide +kernel
theorem dX1_deeperOf_3 : decode cX1_deeperOf 3 = .ok (.invokevirtual 33, 3) := by decide +kernel
theorem dX1_deeperOf_6 : decode cX1_deeperOf 6 = .ok (.ifCond .eq 5, 3) := by decide +kernel
theorem dX1_deeperOf_9 : decode cX1_deeperOf 9 = .ok (.iload_n 1, 1) := by decide +kernel
theorem dX1_deeperOf_10 : decode cX1_deeperOf 10 = .ok (.ireturn, 1) := by decide +kernel
theorem dX1_deeperOf_11 : decode cX1_deeperOf 11 = .ok (.aload_n 0, 1) := by decide +kernel
theorem dX1_deeperOf_12 : decode cX1_deeperOf 12 = .ok (.iload_n 2, 1) := by decide +kernel
theorem dX1_deeperOf_13 : decode cX1_deeperOf 13 = .ok (.iload_n 1, 1) := by decide +kernel
theorem dX1_deeperOf_14 : decode cX1_deeperOf 14 = .ok (.invokevirtual 33, 3) := by decide +kernel
theorem dX1_deeperOf_17 : decode cX1_deeperOf 17 = .ok (.ifCond .eq 7, 3) := by decide +kernel
theorem dX1_deeperOf_20 : decode cX1_deeperOf 20 = .ok (.iload_n 2, 1) := by decide +kernel
theorem dX1_deeperOf_21 : decode cX1_deeperOf 21 = .ok (.goto 4, 3) := by decide +kernel
theorem dX1_deeperOf_24 : decode cX1_deeperOf 24 = .ok (.iconst (-1), 1) := by decide +kernel
theorem dX1_deeperOf_25 : decode cX1_deeperOf 25 = .ok (.ireturn, 1) := by decide +kernel
theorem dX1_canFly_0 : decode cX1_canFly 0 = .ok (.iload_n 2, 1) := by decide +kernel
theorem dX1_canFly_1 : decode cX1_canFly 1 = .ok (.bipush 60, 2) := by decide +kernel
theorem dX1_canFly_3 : decode cX1_canFly 3 = .ok (.imul, 1) := by decide +kernel
theorem dX1_canFly_4 : decode cX1_canFly 4 = .ok (.istore 4, 2) := by decide +kernel
theorem dX1_canFly_6 : decode cX1_canFly 6 = .ok (.iload_n 3, 1) := by decide +kernel
theorem dX1_canFly_7 : decode cX1_canFly 7 = .ok (.iconst 1, 1) := by decide +kernel
theorem dX1_canFly_8 : decode cX1_canFly 8 = .ok (.if_icmp .lt 33, 3) := by decide +kernel
theorem dX1_canFly_11 : decode cX1_canFly 11 = .ok (.iload 4, 2) := by decide +kernel
theorem dX1_canFly_13 : decode cX1_canFly 13 = .ok (.aload_n 0, 1) := by decide +kernel
theorem dX1_canFly_14 : decode cX1_canFly 14 = .ok (.getfield 9, 3) := by decide +kernel
theorem dX1_canFly_17 : decode cX1_canFly 17 = .ok (.iload_n 1, 1) := by decide +kernel
theorem dX1_canFly_18 : decode cX1_canFly 18 = .ok (.iaload, 1) := by decide +kernel
theorem dX1_canFly_19 : decode cX1_canFly 19 = .ok (.iload_n 3, 1) := by decide +kernel
theorem dX1_canFly_20 : decode cX1_canFly 20 = .ok (.imul, 1) := by decide +kernel
theorem dX1_canFly_21 : decode cX1_canFly 21 = .ok (.if_icmp .lt 20, 3) := by decide +kernel
theorem dX1_canFly_24 : decode cX1_canFly 24 = .ok (.iload 4, 2) := by decide +kernel
theorem dX1_canFly_26 : decode cX1_canFly 26 = .ok (.aload_n 0, 1) := by decide +kernel
theorem dX1_canFly_27 : decode cX1_canFly 27 = .ok (.getfield 15, 3) := by decide +kernel
theorem dX1_canFly_30 : decode cX1_canFly 30 = .ok (.iload_n 1, 1) := by decide +kernel
theorem dX1_canFly_31 : decode cX1_canFly 31 = .ok (.iaload, 1) := by decide +kernel
theorem dX1_canFly_32 : decode cX1_canFly 32 = .ok (.iload_n 3, 1) := by decide +kernel
theorem dX1_canFly_33 : decode cX1_canFly 33 = .ok (.imul, 1) := by decide +kernel
theorem dX1_canFly_34 : decode cX1_canFly 34 = .ok (.if_icmp .gt 7, 3) := by decide +kernel
theorem dX1_canFly_37 : decode cX1_canFly 37 = .ok (.iconst 1, 1) := by decide +kernel
theorem dX1_canFly_38 : decode cX1_canFly 38 = .ok (.goto 4, 3) := by decide +kernel
theorem dX1_canFly_41 : decode cX1_canFly 41 = .ok (.iconst 0, 1) := by decide +kernel
theorem dX1_canFly_42 : decode cX1_canFly 42 = .ok (.ireturn, 1) := by decide +kernel
theorem dX2_init_0 : decode cX2_init 0 = .ok (.aload_n 0, 1) := by decide +kernel
theorem dX2_init_1 : decode cX2_init 1 = .ok (.invokespecial 3, 3) := by decide +kernel
theorem dX2_init_4 : decode cX2_init 4 = .ok (.aload_n 0, 1) := by decide +kernel
theorem dX2_init_5 : decode cX2_init 5 = .ok (.sipush 300, 3) := by decide +kernel
theorem dX2_init_8 : decode cX2_init 8 = .ok (.newarray .int, 2) := by decide +kernel
theorem dX2_init_10 : decode cX2_init 10 = .ok (.putfield 9, 3) := by decide +kernel
theorem dX2_init_13 : decode cX2_init 13 = .ok (.aload_n 0, 1) := by decide +kernel
theorem dX2_init_14 : decode cX2_init 14 = .ok (.sipush 300, 3) := by decide +kernel
theorem dX2_init_17 : decode cX2_init 17 = .ok (.newarray .int, 2) := by decide +kernel
theorem dX2_init_19 : decode cX2_init 19 = .ok (.putfield 15, 3) := by decide +kernel
theorem dX2_init_22 : decode cX2_init 22 = .ok (.aload_n 0, 1) := by decide +kernel
theorem dX2_init_23 : decode cX2_init 23 = .ok (.sipush 300, 3) := by decide +kernel
theorem dX2_init_26 : decode cX2_init 26 = .ok (.newarray .int, 2) := by decide +kernel
theorem dX2_init_28 : decode cX2_init 28 = .ok (.putfield 18, 3) := by decide +kernel
theorem dX2_init_31 : decode cX2_init 31 = .ok (.aload_n 0, 1) := by decide +kernel
theorem dX2_init_32 : decode cX2_init 32 = .ok (.sipush 300, 3) := by decide +kernel
theorem dX2_init_35 : decode cX2_init 35 = .ok (.newarray .int, 2) := by decide +kernel
theorem dX2_init_37 : decode cX2_init 37 = .ok (.putfield 21, 3) := by decide +kernel
theorem dX2_init_40 : decode cX2_init 40 = .ok (.aload_n 0, 1) := by decide +kernel
theorem dX2_init_41 : decode cX2_init 41 = .ok (.sipush 300, 3) := by decide +kernel
theorem dX2_init_44 : decode cX2_init 44 = .ok (.newarray .int, 2) := by decide +kernel
theorem dX2_init_46 : decode cX2_init 46 = .ok (.putfield 24, 3) := by decide +kernel
theorem dX2_init_49 : decode cX2_init 49 = .ok (.aload_n 0, 1) := by decide +kernel
theorem dX2_init_50 : decode cX2_init 50 = .ok (.iconst 0, 1) := by decide +kernel
theorem dX2_init_51 : decode cX2_init 51 = .ok (.putfield 27, 3) := by decide +kernel
theorem dX2_init_54 : decode cX2_init 54 = .ok (.aload_n 0, 1) := by decide +kernel
theorem dX2_init_55 : decode cX2_init 55 = .ok (.iconst 0, 1) := by decide +kernel
theorem dX2_init_56 : decode cX2_init 56 = .ok (.putfield 31, 3) := by decide +kernel
theorem dX2_init_59 : decode cX2_init 59 = .ok (.return_, 1) := by decide +kernel
theorem dX2_has_0 : decode cX2_has 0 = .ok (.iload_n 1, 1) := by decide +kernel
theorem dX2_has_1 : decode cX2_has 1 = .ok (.ifCond .lt 15, 3) := by decide +kernel
theorem dX2_has_4 : decode cX2_has 4 = .ok (.iload_n 1, 1) := by decide +kernel
theorem dX2_has_5 : decode cX2_has 5 = .ok (.aload_n 0, 1) := by decide +kernel
theorem dX2_has_6 : decode cX2_has 6 = .ok (.getfield 27, 3) := by decide +kernel
theorem dX2_has_9 : decode cX2_has 9 = .ok (.if_icmp .ge 7, 3) := by decide +kernel
theorem dX2_has_12 : decode cX2_has 12 = .ok (.iconst 1, 1) := by decide +kernel
theorem dX2_has_13 : decode cX2_has 13 = .ok (.goto 4, 3) := by decide +kernel
theorem dX2_has_16 : decode cX2_has 16 = .ok (.iconst 0, 1) := by decide +kernel
theorem dX2_has_17 : decode cX2_has 17 = .ok (.ireturn, 1) := by decide +kernel
theorem dX2_shows_0 : decode cX2_shows 0 = .ok (.iload_n 1, 1) := by decide +kernel
theorem dX2_shows_1 : decode cX2_shows 1 = .ok (.ifCond .lt 15, 3) := by decide +kernel
theorem dX2_shows_4 : decode cX2_shows 4 = .ok (.iload_n 1, 1) := by decide +kernel
theorem dX2_shows_5 : decode cX2_shows 5 = .ok (.aload_n 0, 1) := by decide +kernel
theorem dX2_shows_6 : decode cX2_shows 6 = .ok (.getfield 31, 3) := by decide +kernel
theorem dX2_shows_9 : decode cX2_shows 9 = .ok (.if_icmp .ge 7, 3) := by decide +kernel
theorem dX2_shows_12 : decode cX2_shows 12 = .ok (.iconst 1, 1) := by decide +kernel
theorem dX2_shows_13 : decode cX2_shows 13 = .ok (.goto 4, 3) := by decide +kernel
theorem dX2_shows_16 : decode cX2_shows 16 = .ok (.iconst 0, 1) := by decide +kernel
theorem dX2_shows_17 : decode cX2_shows 17 = .ok (.ireturn, 1) := by decide +kernel
theorem dX2_add_0 : decode cX2_add 0 = .ok (.aload_n 0, 1) := by decide +kernel
theorem dX2_add_1 : decode cX2_add 1 = .ok (.getfield 27, 3) := by decide +kernel
theorem dX2_add_4 : decode cX2_add 4 = .ok (.sipush 300, 3) := by decide +kernel
theorem dX2_add_7 : decode cX2_add 7 = .ok (.if_icmp .lt 5, 3) := by decide +kernel
theorem dX2_add_10 : decode cX2_add 10 = .ok (.iconst (-1), 1) := by decide +kernel
theorem dX2_add_11 : decode cX2_add 11 = .ok (.ireturn, 1) := by decide +kernel
theorem dX2_add_12 : decode cX2_add 12 = .ok (.aload_n 0, 1) := by decide +kernel
theorem dX2_add_13 : decode cX2_add 13 = .ok (.getfield 9, 3) := by decide +kernel
theorem dX2_add_16 : decode cX2_add 16 = .ok (.aload_n 0, 1) := by decide +kernel
theorem dX2_add_17 : decode cX2_add 17 = .ok (.getfield 27, 3) := by decide +kernel
theorem dX2_add_20 : decode cX2_add 20 = .ok (.iload_n 1, 1) := by decide +kernel
theorem dX2_add_21 : decode cX2_add 21 = .ok (.iastore, 1) := by decide +kernel
theorem dX2_add_22 : decode cX2_add 22 = .ok (.aload_n 0, 1) := by decide +kernel
theorem dX2_add_23 : decode cX2_add 23 = .ok (.getfield 15, 3) := by decide +kernel
theorem dX2_add_26 : decode cX2_add 26 = .ok (.aload_n 0, 1) := by decide +kernel
theorem dX2_add_27 : decode cX2_add 27 = .ok (.getfield 27, 3) := by decide +kernel
theorem dX2_add_30 : decode cX2_add 30 = .ok (.iload_n 2, 1) := by decide +kernel
theorem dX2_add_31 : decode cX2_add 31 = .ok (.iastore, 1) := by decide +kernel
theorem dX2_add_32 : decode cX2_add 32 = .ok (.aload_n 0, 1) := by decide +kernel
theorem dX2_add_33 : decode cX2_add 33 = .ok (.getfield 18, 3) := by decide +kernel
theorem dX2_add_36 : decode cX2_add 36 = .ok (.aload_n 0, 1) := by decide +kernel
theorem dX2_add_37 : decode cX2_add 37 = .ok (.getfield 27, 3) := by decide +kernel
theorem dX2_add_40 : decode cX2_add 40 = .ok (.iload_n 3, 1) := by decide +kernel
theorem dX2_add_41 : decode cX2_add 41 = .ok (.iastore, 1) := by decide +kernel
theorem dX2_add_42 : decode cX2_add 42 = .ok (.aload_n 0, 1) := by decide +kernel
theorem dX2_add_43 : decode cX2_add 43 = .ok (.getfield 21, 3) := by decide +kernel
theorem dX2_add_46 : decode cX2_add 46 = .ok (.aload_n 0, 1) := by decide +kernel
theorem dX2_add_47 : decode cX2_add 47 = .ok (.getfield 27, 3) := by decide +kernel
theorem dX2_add_50 : decode cX2_add 50 = .ok (.iload 4, 2) := by decide +kernel
theorem dX2_add_52 : decode cX2_add 52 = .ok (.iastore, 1) := by decide +kernel
theorem dX2_add_53 : decode cX2_add 53 = .ok (.aload_n 0, 1) := by decide +kernel
theorem dX2_add_54 : decode cX2_add 54 = .ok (.getfield 24, 3) := by decide +kernel
theorem dX2_add_57 : decode cX2_add 57 = .ok (.aload_n 0, 1) := by decide +kernel
theorem dX2_add_58 : decode cX2_add 58 = .ok (.getfield 27, 3) := by decide +kernel
theorem dX2_add_61 : decode cX2_add 61 = .ok (.iload 5, 2) := by decide +kernel
theorem dX2_add_63 : decode cX2_add 63 = .ok (.iastore, 1) := by decide +kernel
theorem dX2_add_64 : decode cX2_add 64 = .ok (.aload_n 0, 1) := by decide +kernel
theorem dX2_add_65 : decode cX2_add 65 = .ok (.dup, 1) := by decide +kernel
theorem dX2_add_66 : decode cX2_add 66 = .ok (.getfield 27, 3) := by decide +kernel
theorem dX2_add_69 : decode cX2_add 69 = .ok (.iconst 1, 1) := by decide +kernel
theorem dX2_add_70 : decode cX2_add 70 = .ok (.iadd, 1) := by decide +kernel
theorem dX2_add_71 : decode cX2_add 71 = .ok (.putfield 27, 3) := by decide +kernel
theorem dX2_add_74 : decode cX2_add 74 = .ok (.aload_n 0, 1) := by decide +kernel
theorem dX2_add_75 : decode cX2_add 75 = .ok (.getfield 27, 3) := by decide +kernel
theorem dX2_add_78 : decode cX2_add 78 = .ok (.iconst 1, 1) := by decide +kernel
theorem dX2_add_79 : decode cX2_add 79 = .ok (.isub, 1) := by decide +kernel
theorem dX2_add_80 : decode cX2_add 80 = .ok (.ireturn, 1) := by decide +kernel
theorem dX2_showUpTo_0 : decode cX2_showUpTo 0 = .ok (.aload_n 0, 1) := by decide +kernel
theorem dX2_showUpTo_1 : decode cX2_showUpTo 1 = .ok (.iconst 0, 1) := by decide +kernel
theorem dX2_showUpTo_2 : decode cX2_showUpTo 2 = .ok (.putfield 31, 3) := by decide +kernel
theorem dX2_showUpTo_5 : decode cX2_showUpTo 5 = .ok (.iconst 0, 1) := by decide +kernel
theorem dX2_showUpTo_6 : decode cX2_showUpTo 6 = .ok (.istore_n 2, 1) := by decide +kernel
theorem dX2_showUpTo_7 : decode cX2_showUpTo 7 = .ok (.iload_n 2, 1) := by decide +kernel
theorem dX2_showUpTo_8 : decode cX2_showUpTo 8 = .ok (.aload_n 0, 1) := by decide +kernel
theorem dX2_showUpTo_9 : decode cX2_showUpTo 9 = .ok (.getfield 27, 3) := by decide +kernel
theorem dX2_showUpTo_12 : decode cX2_showUpTo 12 = .ok (.if_icmp .ge 29, 3) := by decide +kernel
theorem dX2_showUpTo_15 : decode cX2_showUpTo 15 = .ok (.aload_n 0, 1) := by decide +kernel
theorem dX2_showUpTo_16 : decode cX2_showUpTo 16 = .ok (.getfield 24, 3) := by decide +kernel
theorem dX2_showUpTo_19 : decode cX2_showUpTo 19 = .ok (.iload_n 2, 1) := by decide +kernel
theorem dX2_showUpTo_20 : decode cX2_showUpTo 20 = .ok (.iaload, 1) := by decide +kernel
theorem dX2_showUpTo_21 : decode cX2_showUpTo 21 = .ok (.iload_n 1, 1) := by decide +kernel
theorem dX2_showUpTo_22 : decode cX2_showUpTo 22 = .ok (.if_icmp .gt 13, 3) := by decide +kernel
theorem dX2_showUpTo_25 : decode cX2_showUpTo 25 = .ok (.aload_n 0, 1) := by decide +kernel
theorem dX2_showUpTo_26 : decode cX2_showUpTo 26 = .ok (.dup, 1) := by decide +kernel
theorem dX2_showUpTo_27 : decode cX2_showUpTo 27 = .ok (.getfield 31, 3) := by decide +kernel
theorem dX2_showUpTo_30 : decode cX2_showUpTo 30 = .ok (.iconst 1, 1) := by decide +kernel
theorem dX2_showUpTo_31 : decode cX2_showUpTo 31 = .ok (.iadd, 1) := by decide +kernel
theorem dX2_showUpTo_32 : decode cX2_showUpTo 32 = .ok (.putfield 31, 3) := by decide +kernel
theorem dX2_showUpTo_35 : decode cX2_showUpTo 35 = .ok (.iinc 2 1, 3) := by decide +kernel
theorem dX2_showUpTo_38 : decode cX2_showUpTo 38 = .ok (.goto (-31), 3) := by decide +kernel
theorem dX2_showUpTo_41 : decode cX2_showUpTo 41 = .ok (.return_, 1) := by decide +kernel
theorem dX2_hour_0 : decode cX2_hour 0 = .ok (.aload_n 0, 1) := by decide +kernel
theorem dX2_hour_1 : decode cX2_hour 1 = .ok (.getfield 15, 3) := by decide +kernel
theorem dX2_hour_4 : decode cX2_hour 4 = .ok (.iload_n 1, 1) := by decide +kernel
theorem dX2_hour_5 : decode cX2_hour 5 = .ok (.iaload, 1) := by decide +kernel
theorem dX2_hour_6 : decode cX2_hour 6 = .ok (.bipush 60, 2) := by decide +kernel
theorem dX2_hour_8 : decode cX2_hour 8 = .ok (.idiv, 1) := by decide +kernel
theorem dX2_hour_9 : decode cX2_hour 9 = .ok (.ireturn, 1) := by decide +kernel
theorem dX2_toldAt_0 : decode cX2_toldAt 0 = .ok (.iconst 0, 1) := by decide +kernel
theorem dX2_toldAt_1 : decode cX2_toldAt 1 = .ok (.istore_n 3, 1) := by decide +kernel
theorem dX2_toldAt_2 : decode cX2_toldAt 2 = .ok (.iconst 0, 1) := by decide +kernel
theorem dX2_toldAt_3 : decode cX2_toldAt 3 = .ok (.istore 4, 2) := by decide +kernel
theorem dX2_toldAt_5 : decode cX2_toldAt 5 = .ok (.iload 4, 2) := by decide +kernel
theorem dX2_toldAt_7 : decode cX2_toldAt 7 = .ok (.aload_n 0, 1) := by decide +kernel
theorem dX2_toldAt_8 : decode cX2_toldAt 8 = .ok (.getfield 27, 3) := by decide +kernel
theorem dX2_toldAt_11 : decode cX2_toldAt 11 = .ok (.if_icmp .ge 34, 3) := by decide +kernel
theorem dX2_toldAt_14 : decode cX2_toldAt 14 = .ok (.aload_n 0, 1) := by decide +kernel
theorem dX2_toldAt_15 : decode cX2_toldAt 15 = .ok (.getfield 9, 3) := by decide +kernel
theorem dX2_toldAt_18 : decode cX2_toldAt 18 = .ok (.iload 4, 2) := by decide +kernel
theorem dX2_toldAt_20 : decode cX2_toldAt 20 = .ok (.iaload, 1) := by decide +kernel
theorem dX2_toldAt_21 : decode cX2_toldAt 21 = .ok (.iload_n 1, 1) := by decide +kernel
theorem dX2_toldAt_22 : decode cX2_toldAt 22 = .ok (.if_icmp .ne 17, 3) := by decide +kernel
theorem dX2_toldAt_25 : decode cX2_toldAt 25 = .ok (.aload_n 0, 1) := by decide +kernel
theorem dX2_toldAt_26 : decode cX2_toldAt 26 = .ok (.getfield 18, 3) := by decide +kernel
theorem dX2_toldAt_29 : decode cX2_toldAt 29 = .ok (.iload 4, 2) := by decide +kernel
theorem dX2_toldAt_31 : decode cX2_toldAt 31 = .ok (.iaload, 1) := by decide +kernel
theorem dX2_toldAt_32 : decode cX2_toldAt 32 = .ok (.iload_n 2, 1) := by decide +kernel
theorem dX2_toldAt_33 : decode cX2_toldAt 33 = .ok (.if_icmp .ne 6, 3) := by decide +kernel
theorem dX2_toldAt_36 : decode cX2_toldAt 36 = .ok (.iinc 3 1, 3) := by decide +kernel
theorem dX2_toldAt_39 : decode cX2_toldAt 39 = .ok (.iinc 4 1, 3) := by decide +kernel
theorem dX2_toldAt_42 : decode cX2_toldAt 42 = .ok (.goto (-37), 3) := by decide +kernel
theorem dX2_toldAt_45 : decode cX2_toldAt 45 = .ok (.iload_n 3, 1) := by decide +kernel
theorem dX2_toldAt_46 : decode cX2_toldAt 46 = .ok (.ireturn, 1) := by decide +kernel
theorem dX2_hasIn_0 : decode cX2_hasIn 0 = .ok (.iconst 0, 1) := by decide +kernel
theorem dX2_hasIn_1 : decode cX2_hasIn 1 = .ok (.istore_n 3, 1) := by decide +kernel
theorem dX2_hasIn_2 : decode cX2_hasIn 2 = .ok (.iload_n 3, 1) := by decide +kernel
theorem dX2_hasIn_3 : decode cX2_hasIn 3 = .ok (.aload_n 0, 1) := by decide +kernel
theorem dX2_hasIn_4 : decode cX2_hasIn 4 = .ok (.getfield 27, 3) := by decide +kernel
theorem dX2_hasIn_7 : decode cX2_hasIn 7 = .ok (.if_icmp .ge 30, 3) := by decide +kernel
theorem dX2_hasIn_10 : decode cX2_hasIn 10 = .ok (.aload_n 0, 1) := by decide +kernel
theorem dX2_hasIn_11 : decode cX2_hasIn 11 = .ok (.getfield 9, 3) := by decide +kernel
theorem dX2_hasIn_14 : decode cX2_hasIn 14 = .ok (.iload_n 3, 1) := by decide +kernel
theorem dX2_hasIn_15 : decode cX2_hasIn 15 = .ok (.iaload, 1) := by decide +kernel
theorem dX2_hasIn_16 : decode cX2_hasIn 16 = .ok (.iload_n 1, 1) := by decide +kernel
theorem dX2_hasIn_17 : decode cX2_hasIn 17 = .ok (.if_icmp .ne 14, 3) := by decide +kernel
theorem dX2_hasIn_20 : decode cX2_hasIn 20 = .ok (.aload_n 0, 1) := by decide +kernel
theorem dX2_hasIn_21 : decode cX2_hasIn 21 = .ok (.iload_n 3, 1) := by decide +kernel
theorem dX2_hasIn_22 : decode cX2_hasIn 22 = .ok (.invokevirtual 34, 3) := by decide +kernel
theorem dX2_hasIn_25 : decode cX2_hasIn 25 = .ok (.iload_n 2, 1) := by decide +kernel
theorem dX2_hasIn_26 : decode cX2_hasIn 26 = .ok (.if_icmp .ne 5, 3) := by decide +kernel
theorem dX2_hasIn_29 : decode cX2_hasIn 29 = .ok (.iconst 1, 1) := by decide +kernel
theorem dX2_hasIn_30 : decode cX2_hasIn 30 = .ok (.ireturn, 1) := by decide +kernel
theorem dX2_hasIn_31 : decode cX2_hasIn 31 = .ok (.iinc 3 1, 3) := by decide +kernel
theorem dX2_hasIn_34 : decode cX2_hasIn 34 = .ok (.goto (-32), 3) := by decide +kernel
theorem dX2_hasIn_37 : decode cX2_hasIn 37 = .ok (.iconst 0, 1) := by decide +kernel
theorem dX2_hasIn_38 : decode cX2_hasIn 38 = .ok (.ireturn, 1) := by decide +kernel
theorem dX2_isIn_0 : decode cX2_isIn 0 = .ok (.aload_n 0, 1) := by decide +kernel
theorem dX2_isIn_1 : decode cX2_isIn 1 = .ok (.getfield 9, 3) := by decide +kernel
theorem dX2_isIn_4 : decode cX2_isIn 4 = .ok (.iload_n 1, 1) := by decide +kernel
theorem dX2_isIn_5 : decode cX2_isIn 5 = .ok (.iaload, 1) := by decide +kernel
theorem dX2_isIn_6 : decode cX2_isIn 6 = .ok (.bipush 30, 2) := by decide +kernel
theorem dX2_isIn_8 : decode cX2_isIn 8 = .ok (.idiv, 1) := by decide +kernel
theorem dX2_isIn_9 : decode cX2_isIn 9 = .ok (.iload_n 2, 1) := by decide +kernel
theorem dX2_isIn_10 : decode cX2_isIn 10 = .ok (.if_icmp .ne 7, 3) := by decide +kernel
theorem dX2_isIn_13 : decode cX2_isIn 13 = .ok (.iconst 1, 1) := by decide +kernel
theorem dX2_isIn_14 : decode cX2_isIn 14 = .ok (.goto 4, 3) := by decide +kernel
theorem dX2_isIn_17 : decode cX2_isIn 17 = .ok (.iconst 0, 1) := by decide +kernel
theorem dX2_isIn_18 : decode cX2_isIn 18 = .ok (.ireturn, 1) := by decide +kernel
theorem dX2_shownIn_0 : decode cX2_shownIn 0 = .ok (.iconst 0, 1) := by decide +kernel
theorem dX2_shownIn_1 : decode cX2_shownIn 1 = .ok (.istore_n 2, 1) := by decide +kernel
theorem dX2_shownIn_2 : decode cX2_shownIn 2 = .ok (.iconst 0, 1) := by decide +kernel
theorem dX2_shownIn_3 : decode cX2_shownIn 3 = .ok (.istore_n 3, 1) := by decide +kernel
theorem dX2_shownIn_4 : decode cX2_shownIn 4 = .ok (.iload_n 3, 1) := by decide +kernel
theorem dX2_shownIn_5 : decode cX2_shownIn 5 = .ok (.aload_n 0, 1) := by decide +kernel
theorem dX2_shownIn_6 : decode cX2_shownIn 6 = .ok (.getfield 31, 3) := by decide +kernel
theorem dX2_shownIn_9 : decode cX2_shownIn 9 = .ok (.if_icmp .ge 21, 3) := by decide +kernel
theorem dX2_shownIn_12 : decode cX2_shownIn 12 = .ok (.aload_n 0, 1) := by decide +kernel
theorem dX2_shownIn_13 : decode cX2_shownIn 13 = .ok (.iload_n 3, 1) := by decide +kernel
theorem dX2_shownIn_14 : decode cX2_shownIn 14 = .ok (.iload_n 1, 1) := by decide +kernel
theorem dX2_shownIn_15 : decode cX2_shownIn 15 = .ok (.invokevirtual 38, 3) := by decide +kernel
theorem dX2_shownIn_18 : decode cX2_shownIn 18 = .ok (.ifCond .eq 6, 3) := by decide +kernel
theorem dX2_shownIn_21 : decode cX2_shownIn 21 = .ok (.iinc 2 1, 3) := by decide +kernel
theorem dX2_shownIn_24 : decode cX2_shownIn 24 = .ok (.iinc 3 1, 3) := by decide +kernel
theorem dX2_shownIn_27 : decode cX2_shownIn 27 = .ok (.goto (-23), 3) := by decide +kernel
theorem dX2_shownIn_30 : decode cX2_shownIn 30 = .ok (.iload_n 2, 1) := by decide +kernel
theorem dX2_shownIn_31 : decode cX2_shownIn 31 = .ok (.ireturn, 1) := by decide +kernel
theorem dX2_gather_0 : decode cX2_gather 0 = .ok (.iconst 0, 1) := by decide +kernel
theorem dX2_gather_1 : decode cX2_gather 1 = .ok (.istore 4, 2) := by decide +kernel
theorem dX2_gather_3 : decode cX2_gather 3 = .ok (.iconst 0, 1) := by decide +kernel
theorem dX2_gather_4 : decode cX2_gather 4 = .ok (.istore 5, 2) := by decide +kernel
theorem dX2_gather_6 : decode cX2_gather 6 = .ok (.iload 5, 2) := by decide +kernel
theorem dX2_gather_8 : decode cX2_gather 8 = .ok (.aload_n 0, 1) := by decide +kernel
theorem dX2_gather_9 : decode cX2_gather 9 = .ok (.getfield 31, 3) := by decide +kernel
theorem dX2_gather_12 : decode cX2_gather 12 = .ok (.if_icmp .ge 47, 3) := by decide +kernel
theorem dX2_gather_15 : decode cX2_gather 15 = .ok (.aload_n 0, 1) := by decide +kernel
theorem dX2_gather_16 : decode cX2_gather 16 = .ok (.getfield 9, 3) := by decide +kernel
theorem dX2_gather_19 : decode cX2_gather 19 = .ok (.iload 5, 2) := by decide +kernel
theorem dX2_gather_21 : decode cX2_gather 21 = .ok (.iaload, 1) := by decide +kernel
theorem dX2_gather_22 : decode cX2_gather 22 = .ok (.iload_n 1, 1) := by decide +kernel
theorem dX2_gather_23 : decode cX2_gather 23 = .ok (.if_icmp .ne 30, 3) := by decide +kernel
theorem dX2_gather_26 : decode cX2_gather 26 = .ok (.aload_n 0, 1) := by decide +kernel
theorem dX2_gather_27 : decode cX2_gather 27 = .ok (.getfield 18, 3) := by decide +kernel
theorem dX2_gather_30 : decode cX2_gather 30 = .ok (.iload 5, 2) := by decide +kernel
theorem dX2_gather_32 : decode cX2_gather 32 = .ok (.iaload, 1) := by decide +kernel
theorem dX2_gather_33 : decode cX2_gather 33 = .ok (.iload_n 2, 1) := by decide +kernel
theorem dX2_gather_34 : decode cX2_gather 34 = .ok (.if_icmp .ne 19, 3) := by decide +kernel
theorem dX2_gather_37 : decode cX2_gather 37 = .ok (.iload 4, 2) := by decide +kernel
theorem dX2_gather_39 : decode cX2_gather 39 = .ok (.aload_n 3, 1) := by decide +kernel
theorem dX2_gather_40 : decode cX2_gather 40 = .ok (.arraylength, 1) := by decide +kernel
theorem dX2_gather_41 : decode cX2_gather 41 = .ok (.if_icmp .ge 12, 3) := by decide +kernel
theorem dX2_gather_44 : decode cX2_gather 44 = .ok (.aload_n 3, 1) := by decide +kernel
theorem dX2_gather_45 : decode cX2_gather 45 = .ok (.iload 4, 2) := by decide +kernel
theorem dX2_gather_47 : decode cX2_gather 47 = .ok (.iload 5, 2) := by decide +kernel
theorem dX2_gather_49 : decode cX2_gather 49 = .ok (.iastore, 1) := by decide +kernel
theorem dX2_gather_50 : decode cX2_gather 50 = .ok (.iinc 4 1, 3) := by decide +kernel
theorem dX2_gather_53 : decode cX2_gather 53 = .ok (.iinc 5 1, 3) := by decide +kernel
theorem dX2_gather_56 : decode cX2_gather 56 = .ok (.goto (-50), 3) := by decide +kernel
theorem dX2_gather_59 : decode cX2_gather 59 = .ok (.iload 4, 2) := by decide +kernel
theorem dX2_gather_61 : decode cX2_gather 61 = .ok (.ireturn, 1) := by decide +kernel
theorem dX3_init_0 : decode cX3_init 0 = .ok (.aload_n 0, 1) := by decide +kernel
theorem dX3_init_1 : decode cX3_init 1 = .ok (.invokespecial 3, 3) := by decide +kernel
theorem dX3_init_4 : decode cX3_init 4 = .ok (.aload_n 0, 1) := by decide +kernel
theorem dX3_init_5 : decode cX3_init 5 = .ok (.bipush 12, 2) := by decide +kernel
theorem dX3_init_7 : decode cX3_init 7 = .ok (.newarray .int, 2) := by decide +kernel
theorem dX3_init_9 : decode cX3_init 9 = .ok (.putfield 9, 3) := by decide +kernel
theorem dX3_init_12 : decode cX3_init 12 = .ok (.aload_n 0, 1) := by decide +kernel
theorem dX3_init_13 : decode cX3_init 13 = .ok (.bipush 12, 2) := by decide +kernel
theorem dX3_init_15 : decode cX3_init 15 = .ok (.newarray .int, 2) := by decide +kernel
theorem dX3_init_17 : decode cX3_init 17 = .ok (.putfield 15, 3) := by decide +kernel
theorem dX3_init_20 : decode cX3_init 20 = .ok (.aload_n 0, 1) := by decide +kernel
theorem dX3_init_21 : decode cX3_init 21 = .ok (.bipush 12, 2) := by decide +kernel
theorem dX3_init_23 : decode cX3_init 23 = .ok (.newarray .int, 2) := by decide +kernel
theorem dX3_init_25 : decode cX3_init 25 = .ok (.putfield 18, 3) := by decide +kernel
theorem dX3_init_28 : decode cX3_init 28 = .ok (.aload_n 0, 1) := by decide +kernel
theorem dX3_init_29 : decode cX3_init 29 = .ok (.bipush 12, 2) := by decide +kernel
theorem dX3_init_31 : decode cX3_init 31 = .ok (.newarray .int, 2) := by decide +kernel
theorem dX3_init_33 : decode cX3_init 33 = .ok (.putfield 21, 3) := by decide +kernel
theorem dX3_init_36 : decode cX3_init 36 = .ok (.aload_n 0, 1) := by decide +kernel
theorem dX3_init_37 : decode cX3_init 37 = .ok (.bipush 12, 2) := by decide +kernel
theorem dX3_init_39 : decode cX3_init 39 = .ok (.newarray .int, 2) := by decide +kernel
theorem dX3_init_41 : decode cX3_init 41 = .ok (.putfield 24, 3) := by decide +kernel
theorem dX3_init_44 : decode cX3_init 44 = .ok (.aload_n 0, 1) := by decide +kernel
theorem dX3_init_45 : decode cX3_init 45 = .ok (.iconst 0, 1) := by decide +kernel
theorem dX3_init_46 : decode cX3_init 46 = .ok (.putfield 27, 3) := by decide +kernel
theorem dX3_init_49 : decode cX3_init 49 = .ok (.aload_n 0, 1) := by decide +kernel
theorem dX3_init_50 : decode cX3_init 50 = .ok (.iconst 0, 1) := by decide +kernel
theorem dX3_init_51 : decode cX3_init 51 = .ok (.putfield 31, 3) := by decide +kernel
theorem dX3_init_54 : decode cX3_init 54 = .ok (.aload_n 0, 1) := by decide +kernel
theorem dX3_init_55 : decode cX3_init 55 = .ok (.iconst 0, 1) := by decide +kernel
theorem dX3_init_56 : decode cX3_init 56 = .ok (.putfield 34, 3) := by decide +kernel
theorem dX3_init_59 : decode cX3_init 59 = .ok (.aload_n 0, 1) := by decide +kernel
theorem dX3_init_60 : decode cX3_init 60 = .ok (.iconst 0, 1) := by decide +kernel
theorem dX3_init_61 : decode cX3_init 61 = .ok (.putfield 37, 3) := by decide +kernel
theorem dX3_init_64 : decode cX3_init 64 = .ok (.return_, 1) := by decide +kernel
theorem dX3_start_0 : decode cX3_start 0 = .ok (.aload_n 0, 1) := by decide +kernel
theorem dX3_start_1 : decode cX3_start 1 = .ok (.iload_n 1, 1) := by decide +kernel
theorem dX3_start_2 : decode cX3_start 2 = .ok (.iconst 0, 1) := by decide +kernel
theorem dX3_start_3 : decode cX3_start 3 = .ok (.invokestatic 40, 3) := by decide +kernel
theorem dX3_start_6 : decode cX3_start 6 = .ok (.bipush 12, 2) := by decide +kernel
theorem dX3_start_8 : decode cX3_start 8 = .ok (.invokestatic 46, 3) := by decide +kernel
theorem dX3_start_11 : decode cX3_start 11 = .ok (.putfield 27, 3) := by decide +kernel
theorem dX3_start_14 : decode cX3_start 14 = .ok (.aload_n 0, 1) := by decide +kernel
theorem dX3_start_15 : decode cX3_start 15 = .ok (.iload_n 2, 1) := by decide +kernel
theorem dX3_start_16 : decode cX3_start 16 = .ok (.iconst 0, 1) := by decide +kernel
theorem dX3_start_17 : decode cX3_start 17 = .ok (.invokestatic 40, 3) := by decide +kernel
theorem dX3_start_20 : decode cX3_start 20 = .ok (.bipush 12, 2) := by decide +kernel
theorem dX3_start_22 : decode cX3_start 22 = .ok (.invokestatic 46, 3) := by decide +kernel
theorem dX3_start_25 : decode cX3_start 25 = .ok (.putfield 31, 3) := by decide +kernel
theorem dX3_start_28 : decode cX3_start 28 = .ok (.aload_n 0, 1) := by decide +kernel
theorem dX3_start_29 : decode cX3_start 29 = .ok (.iconst 0, 1) := by decide +kernel
theorem dX3_start_30 : decode cX3_start 30 = .ok (.putfield 34, 3) := by decide +kernel
theorem dX3_start_33 : decode cX3_start 33 = .ok (.iconst 0, 1) := by decide +kernel
theorem dX3_start_34 : decode cX3_start 34 = .ok (.istore_n 3, 1) := by decide +kernel
theorem dX3_start_35 : decode cX3_start 35 = .ok (.iload_n 3, 1) := by decide +kernel
theorem dX3_start_36 : decode cX3_start 36 = .ok (.bipush 12, 2) := by decide +kernel
theorem dX3_start_38 : decode cX3_start 38 = .ok (.if_icmp .ge 30, 3) := by decide +kernel
theorem dX3_start_41 : decode cX3_start 41 = .ok (.aload_n 0, 1) := by decide +kernel
theorem dX3_start_42 : decode cX3_start 42 = .ok (.getfield 9, 3) := by decide +kernel
theorem dX3_start_45 : decode cX3_start 45 = .ok (.iload_n 3, 1) := by decide +kernel
theorem dX3_start_46 : decode cX3_start 46 = .ok (.iconst 0, 1) := by decide +kernel
theorem dX3_start_47 : decode cX3_start 47 = .ok (.iastore, 1) := by decide +kernel
theorem dX3_start_48 : decode cX3_start 48 = .ok (.aload_n 0, 1) := by decide +kernel
theorem dX3_start_49 : decode cX3_start 49 = .ok (.getfield 15, 3) := by decide +kernel
theorem dX3_start_52 : decode cX3_start 52 = .ok (.iload_n 3, 1) := by decide +kernel
theorem dX3_start_53 : decode cX3_start 53 = .ok (.iconst (-1), 1) := by decide +kernel
theorem dX3_start_54 : decode cX3_start 54 = .ok (.iastore, 1) := by decide +kernel
theorem dX3_start_55 : decode cX3_start 55 = .ok (.aload_n 0, 1) := by decide +kernel
theorem dX3_start_56 : decode cX3_start 56 = .ok (.getfield 18, 3) := by decide +kernel
theorem dX3_start_59 : decode cX3_start 59 = .ok (.iload_n 3, 1) := by decide +kernel
theorem dX3_start_60 : decode cX3_start 60 = .ok (.iconst (-1), 1) := by decide +kernel
theorem dX3_start_61 : decode cX3_start 61 = .ok (.iastore, 1) := by decide +kernel
theorem dX3_start_62 : decode cX3_start 62 = .ok (.iinc 3 1, 3) := by decide +kernel
theorem dX3_start_65 : decode cX3_start 65 = .ok (.goto (-30), 3) := by decide +kernel
theorem dX3_start_68 : decode cX3_start 68 = .ok (.return_, 1) := by decide +kernel
theorem dX3_allow_0 : decode cX3_allow 0 = .ok (.aload_n 0, 1) := by decide +kernel
theorem dX3_allow_1 : decode cX3_allow 1 = .ok (.getfield 9, 3) := by decide +kernel
theorem dX3_allow_4 : decode cX3_allow 4 = .ok (.iload_n 1, 1) := by decide +kernel
theorem dX3_allow_5 : decode cX3_allow 5 = .ok (.dup2, 1) := by decide +kernel
theorem dX3_allow_6 : decode cX3_allow 6 = .ok (.iaload, 1) := by decide +kernel
theorem dX3_allow_7 : decode cX3_allow 7 = .ok (.iconst 1, 1) := by decide +kernel
theorem dX3_allow_8 : decode cX3_allow 8 = .ok (.iload_n 2, 1) := by decide +kernel
theorem dX3_allow_9 : decode cX3_allow 9 = .ok (.ishl, 1) := by decide +kernel
theorem dX3_allow_10 : decode cX3_allow 10 = .ok (.ior, 1) := by decide +kernel
theorem dX3_allow_11 : decode cX3_allow 11 = .ok (.iastore, 1) := by decide +kernel
theorem dX3_allow_12 : decode cX3_allow 12 = .ok (.return_, 1) := by decide +kernel
theorem dX3_solve_0 : decode cX3_solve 0 = .ok (.iconst 0, 1) := by decide +kernel
theorem dX3_solve_1 : decode cX3_solve 1 = .ok (.istore_n 1, 1) := by decide +kernel
theorem dX3_solve_2 : decode cX3_solve 2 = .ok (.iload_n 1, 1) := by decide +kernel
theorem dX3_solve_3 : decode cX3_solve 3 = .ok (.aload_n 0, 1) := by decide +kernel
theorem dX3_solve_4 : decode cX3_solve 4 = .ok (.getfield 27, 3) := by decide +kernel
theorem dX3_solve_7 : decode cX3_solve 7 = .ok (.if_icmp .ge 21, 3) := by decide +kernel
theorem dX3_solve_10 : decode cX3_solve 10 = .ok (.aload_n 0, 1) := by decide +kernel
theorem dX3_solve_11 : decode cX3_solve 11 = .ok (.iconst 0, 1) := by decide +kernel
theorem dX3_solve_12 : decode cX3_solve 12 = .ok (.putfield 37, 3) := by decide +kernel
theorem dX3_solve_15 : decode cX3_solve 15 = .ok (.aload_n 0, 1) := by decide +kernel
theorem dX3_solve_16 : decode cX3_solve 16 = .ok (.iload_n 1, 1) := by decide +kernel
theorem dX3_solve_17 : decode cX3_solve 17 = .ok (.iconst 0, 1) := by decide +kernel
theorem dX3_solve_18 : decode cX3_solve 18 = .ok (.invokevirtual 49, 3) := by decide +kernel
theorem dX3_solve_21 : decode cX3_solve 21 = .ok (.pop, 1) := by decide +kernel
theorem dX3_solve_22 : decode cX3_solve 22 = .ok (.iinc 1 1, 3) := by decide +kernel
theorem dX3_solve_25 : decode cX3_solve 25 = .ok (.goto (-23), 3) := by decide +kernel
theorem dX3_solve_28 : decode cX3_solve 28 = .ok (.iconst 0, 1) := by decide +kernel
theorem dX3_solve_29 : decode cX3_solve 29 = .ok (.istore_n 1, 1) := by decide +kernel
theorem dX3_solve_30 : decode cX3_solve 30 = .ok (.iload_n 1, 1) := by decide +kernel
theorem dX3_solve_31 : decode cX3_solve 31 = .ok (.aload_n 0, 1) := by decide +kernel
theorem dX3_solve_32 : decode cX3_solve 32 = .ok (.getfield 27, 3) := by decide +kernel
theorem dX3_solve_35 : decode cX3_solve 35 = .ok (.if_icmp .ge 54, 3) := by decide +kernel
theorem dX3_solve_38 : decode cX3_solve 38 = .ok (.iconst 0, 1) := by decide +kernel
theorem dX3_solve_39 : decode cX3_solve 39 = .ok (.istore_n 2, 1) := by decide +kernel
theorem dX3_solve_40 : decode cX3_solve 40 = .ok (.iload_n 2, 1) := by decide +kernel
theorem dX3_solve_41 : decode cX3_solve 41 = .ok (.aload_n 0, 1) := by decide +kernel
theorem dX3_solve_42 : decode cX3_solve 42 = .ok (.getfield 31, 3) := by decide +kernel
theorem dX3_solve_45 : decode cX3_solve 45 = .ok (.if_icmp .ge 18, 3) := by decide +kernel
theorem dX3_solve_48 : decode cX3_solve 48 = .ok (.aload_n 0, 1) := by decide +kernel
theorem dX3_solve_49 : decode cX3_solve 49 = .ok (.iload_n 1, 1) := by decide +kernel
theorem dX3_solve_50 : decode cX3_solve 50 = .ok (.iload_n 2, 1) := by decide +kernel
theorem dX3_solve_51 : decode cX3_solve 51 = .ok (.invokevirtual 53, 3) := by decide +kernel
theorem dX3_solve_54 : decode cX3_solve 54 = .ok (.ifCond .ne 9, 3) := by decide +kernel
theorem dX3_solve_57 : decode cX3_solve 57 = .ok (.iinc 2 1, 3) := by decide +kernel
theorem dX3_solve_60 : decode cX3_solve 60 = .ok (.goto (-20), 3) := by decide +kernel
theorem dX3_solve_63 : decode cX3_solve 63 = .ok (.iload_n 2, 1) := by decide +kernel
theorem dX3_solve_64 : decode cX3_solve 64 = .ok (.aload_n 0, 1) := by decide +kernel
theorem dX3_solve_65 : decode cX3_solve 65 = .ok (.getfield 31, 3) := by decide +kernel
theorem dX3_solve_68 : decode cX3_solve 68 = .ok (.if_icmp .ge 15, 3) := by decide +kernel
theorem dX3_solve_71 : decode cX3_solve 71 = .ok (.aload_n 0, 1) := by decide +kernel
theorem dX3_solve_72 : decode cX3_solve 72 = .ok (.dup, 1) := by decide +kernel
theorem dX3_solve_73 : decode cX3_solve 73 = .ok (.getfield 34, 3) := by decide +kernel
theorem dX3_solve_76 : decode cX3_solve 76 = .ok (.iconst 1, 1) := by decide +kernel
theorem dX3_solve_77 : decode cX3_solve 77 = .ok (.iload_n 2, 1) := by decide +kernel
theorem dX3_solve_78 : decode cX3_solve 78 = .ok (.ishl, 1) := by decide +kernel
theorem dX3_solve_79 : decode cX3_solve 79 = .ok (.ior, 1) := by decide +kernel
theorem dX3_solve_80 : decode cX3_solve 80 = .ok (.putfield 34, 3) := by decide +kernel
theorem dX3_solve_83 : decode cX3_solve 83 = .ok (.iinc 1 1, 3) := by decide +kernel
theorem dX3_solve_86 : decode cX3_solve 86 = .ok (.goto (-56), 3) := by decide +kernel
theorem dX3_solve_89 : decode cX3_solve 89 = .ok (.return_, 1) := by decide +kernel
theorem dX3_canTake_0 : decode cX3_canTake 0 = .ok (.iconst 1, 1) := by decide +kernel
theorem dX3_canTake_1 : decode cX3_canTake 1 = .ok (.iload_n 2, 1) := by decide +kernel
theorem dX3_canTake_2 : decode cX3_canTake 2 = .ok (.ishl, 1) := by decide +kernel
theorem dX3_canTake_3 : decode cX3_canTake 3 = .ok (.istore_n 3, 1) := by decide +kernel
theorem dX3_canTake_4 : decode cX3_canTake 4 = .ok (.aload_n 0, 1) := by decide +kernel
theorem dX3_canTake_5 : decode cX3_canTake 5 = .ok (.getfield 9, 3) := by decide +kernel
theorem dX3_canTake_8 : decode cX3_canTake 8 = .ok (.iload_n 1, 1) := by decide +kernel
theorem dX3_canTake_9 : decode cX3_canTake 9 = .ok (.iaload, 1) := by decide +kernel
theorem dX3_canTake_10 : decode cX3_canTake 10 = .ok (.iload_n 3, 1) := by decide +kernel
theorem dX3_canTake_11 : decode cX3_canTake 11 = .ok (.iand, 1) := by decide +kernel
theorem dX3_canTake_12 : decode cX3_canTake 12 = .ok (.ifCond .eq 12, 3) := by decide +kernel
theorem dX3_canTake_15 : decode cX3_canTake 15 = .ok (.aload_n 0, 1) := by decide +kernel
theorem dX3_canTake_16 : decode cX3_canTake 16 = .ok (.getfield 34, 3) := by decide +kernel
theorem dX3_canTake_19 : decode cX3_canTake 19 = .ok (.iload_n 3, 1) := by decide +kernel
theorem dX3_canTake_20 : decode cX3_canTake 20 = .ok (.iand, 1) := by decide +kernel
theorem dX3_canTake_21 : decode cX3_canTake 21 = .ok (.ifCond .eq 5, 3) := by decide +kernel
theorem dX3_canTake_24 : decode cX3_canTake 24 = .ok (.iconst 0, 1) := by decide +kernel
theorem dX3_canTake_25 : decode cX3_canTake 25 = .ok (.ireturn, 1) := by decide +kernel
theorem dX3_canTake_26 : decode cX3_canTake 26 = .ok (.aload_n 0, 1) := by decide +kernel
theorem dX3_canTake_27 : decode cX3_canTake 27 = .ok (.getfield 15, 3) := by decide +kernel
theorem dX3_canTake_30 : decode cX3_canTake 30 = .ok (.iload_n 1, 1) := by decide +kernel
theorem dX3_canTake_31 : decode cX3_canTake 31 = .ok (.iaload, 1) := by decide +kernel
theorem dX3_canTake_32 : decode cX3_canTake 32 = .ok (.iload_n 2, 1) := by decide +kernel
theorem dX3_canTake_33 : decode cX3_canTake 33 = .ok (.if_icmp .ne 5, 3) := by decide +kernel
theorem dX3_canTake_36 : decode cX3_canTake 36 = .ok (.iconst 1, 1) := by decide +kernel
theorem dX3_canTake_37 : decode cX3_canTake 37 = .ok (.ireturn, 1) := by decide +kernel
theorem dX3_canTake_38 : decode cX3_canTake 38 = .ok (.aload_n 0, 1) := by decide +kernel
theorem dX3_canTake_39 : decode cX3_canTake 39 = .ok (.getfield 15, 3) := by decide +kernel
theorem dX3_canTake_42 : decode cX3_canTake 42 = .ok (.iload_n 1, 1) := by decide +kernel
theorem dX3_canTake_43 : decode cX3_canTake 43 = .ok (.iaload, 1) := by decide +kernel
theorem dX3_canTake_44 : decode cX3_canTake 44 = .ok (.istore 4, 2) := by decide +kernel
theorem dX3_canTake_46 : decode cX3_canTake 46 = .ok (.aload_n 0, 1) := by decide +kernel
theorem dX3_canTake_47 : decode cX3_canTake 47 = .ok (.getfield 18, 3) := by decide +kernel
theorem dX3_canTake_50 : decode cX3_canTake 50 = .ok (.iload_n 2, 1) := by decide +kernel
theorem dX3_canTake_51 : decode cX3_canTake 51 = .ok (.iaload, 1) := by decide +kernel
theorem dX3_canTake_52 : decode cX3_canTake 52 = .ok (.istore 5, 2) := by decide +kernel
theorem dX3_canTake_54 : decode cX3_canTake 54 = .ok (.aload_n 0, 1) := by decide +kernel
theorem dX3_canTake_55 : decode cX3_canTake 55 = .ok (.invokevirtual 56, 3) := by decide +kernel
theorem dX3_canTake_58 : decode cX3_canTake 58 = .ok (.iload 4, 2) := by decide +kernel
theorem dX3_canTake_60 : decode cX3_canTake 60 = .ok (.ifCond .lt 11, 3) := by decide +kernel
theorem dX3_canTake_63 : decode cX3_canTake 63 = .ok (.aload_n 0, 1) := by decide +kernel
theorem dX3_canTake_64 : decode cX3_canTake 64 = .ok (.getfield 18, 3) := by decide +kernel
theorem dX3_canTake_67 : decode cX3_canTake 67 = .ok (.iload 4, 2) := by decide +kernel
theorem dX3_canTake_69 : decode cX3_canTake 69 = .ok (.iconst (-1), 1) := by decide +kernel
theorem dX3_canTake_70 : decode cX3_canTake 70 = .ok (.iastore, 1) := by decide +kernel
theorem dX3_canTake_71 : decode cX3_canTake 71 = .ok (.iload 5, 2) := by decide +kernel
theorem dX3_canTake_73 : decode cX3_canTake 73 = .ok (.ifCond .lt 11, 3) := by decide +kernel
theorem dX3_canTake_76 : decode cX3_canTake 76 = .ok (.aload_n 0, 1) := by decide +kernel
theorem dX3_canTake_77 : decode cX3_canTake 77 = .ok (.getfield 15, 3) := by decide +kernel
theorem dX3_canTake_80 : decode cX3_canTake 80 = .ok (.iload 5, 2) := by decide +kernel
theorem dX3_canTake_82 : decode cX3_canTake 82 = .ok (.iconst (-1), 1) := by decide +kernel
theorem dX3_canTake_83 : decode cX3_canTake 83 = .ok (.iastore, 1) := by decide +kernel
theorem dX3_canTake_84 : decode cX3_canTake 84 = .ok (.aload_n 0, 1) := by decide +kernel
theorem dX3_canTake_85 : decode cX3_canTake 85 = .ok (.getfield 15, 3) := by decide +kernel
theorem dX3_canTake_88 : decode cX3_canTake 88 = .ok (.iload_n 1, 1) := by decide +kernel
theorem dX3_canTake_89 : decode cX3_canTake 89 = .ok (.iload_n 2, 1) := by decide +kernel
theorem dX3_canTake_90 : decode cX3_canTake 90 = .ok (.iastore, 1) := by decide +kernel
theorem dX3_canTake_91 : decode cX3_canTake 91 = .ok (.aload_n 0, 1) := by decide +kernel
theorem dX3_canTake_92 : decode cX3_canTake 92 = .ok (.getfield 18, 3) := by decide +kernel
theorem dX3_canTake_95 : decode cX3_canTake 95 = .ok (.iload_n 2, 1) := by decide +kernel
theorem dX3_canTake_96 : decode cX3_canTake 96 = .ok (.iload_n 1, 1) := by decide +kernel
theorem dX3_canTake_97 : decode cX3_canTake 97 = .ok (.iastore, 1) := by decide +kernel
theorem dX3_canTake_98 : decode cX3_canTake 98 = .ok (.iload 4, 2) := by decide +kernel
theorem dX3_canTake_100 : decode cX3_canTake 100 = .ok (.ifCond .lt 8, 3) := by decide +kernel
theorem dX3_canTake_103 : decode cX3_canTake 103 = .ok (.iload 5, 2) := by decide +kernel
theorem dX3_canTake_105 : decode cX3_canTake 105 = .ok (.ifCond .ge 7, 3) := by decide +kernel
theorem dX3_canTake_108 : decode cX3_canTake 108 = .ok (.iconst 1, 1) := by decide +kernel
theorem dX3_canTake_109 : decode cX3_canTake 109 = .ok (.goto 4, 3) := by decide +kernel
theorem dX3_canTake_112 : decode cX3_canTake 112 = .ok (.iconst 0, 1) := by decide +kernel
theorem dX3_canTake_113 : decode cX3_canTake 113 = .ok (.istore 6, 2) := by decide +kernel
theorem dX3_canTake_115 : decode cX3_canTake 115 = .ok (.iload_n 1, 1) := by decide +kernel
theorem dX3_canTake_116 : decode cX3_canTake 116 = .ok (.iconst 1, 1) := by decide +kernel
theorem dX3_canTake_117 : decode cX3_canTake 117 = .ok (.iadd, 1) := by decide +kernel
theorem dX3_canTake_118 : decode cX3_canTake 118 = .ok (.istore 7, 2) := by decide +kernel
theorem dX3_canTake_120 : decode cX3_canTake 120 = .ok (.iload 7, 2) := by decide +kernel
theorem dX3_canTake_122 : decode cX3_canTake 122 = .ok (.aload_n 0, 1) := by decide +kernel
theorem dX3_canTake_123 : decode cX3_canTake 123 = .ok (.getfield 27, 3) := by decide +kernel
theorem dX3_canTake_126 : decode cX3_canTake 126 = .ok (.if_icmp .ge 51, 3) := by decide +kernel
theorem dX3_canTake_129 : decode cX3_canTake 129 = .ok (.iload 6, 2) := by decide +kernel
theorem dX3_canTake_131 : decode cX3_canTake 131 = .ok (.ifCond .ne 46, 3) := by decide +kernel
theorem dX3_canTake_134 : decode cX3_canTake 134 = .ok (.aload_n 0, 1) := by decide +kernel
theorem dX3_canTake_135 : decode cX3_canTake 135 = .ok (.aload_n 0, 1) := by decide +kernel
theorem dX3_canTake_136 : decode cX3_canTake 136 = .ok (.getfield 34, 3) := by decide +kernel
theorem dX3_canTake_139 : decode cX3_canTake 139 = .ok (.iload_n 3, 1) := by decide +kernel
theorem dX3_canTake_140 : decode cX3_canTake 140 = .ok (.ior, 1) := by decide +kernel
theorem dX3_canTake_141 : decode cX3_canTake 141 = .ok (.putfield 37, 3) := by decide +kernel
theorem dX3_canTake_144 : decode cX3_canTake 144 = .ok (.aload_n 0, 1) := by decide +kernel
theorem dX3_canTake_145 : decode cX3_canTake 145 = .ok (.getfield 15, 3) := by decide +kernel
theorem dX3_canTake_148 : decode cX3_canTake 148 = .ok (.iload 7, 2) := by decide +kernel
theorem dX3_canTake_150 : decode cX3_canTake 150 = .ok (.iaload, 1) := by decide +kernel
theorem dX3_canTake_151 : decode cX3_canTake 151 = .ok (.ifCond .ge 17, 3) := by decide +kernel
theorem dX3_canTake_154 : decode cX3_canTake 154 = .ok (.aload_n 0, 1) := by decide +kernel
theorem dX3_canTake_155 : decode cX3_canTake 155 = .ok (.iload 7, 2) := by decide +kernel
theorem dX3_canTake_157 : decode cX3_canTake 157 = .ok (.iconst 0, 1) := by decide +kernel
theorem dX3_canTake_158 : decode cX3_canTake 158 = .ok (.invokevirtual 49, 3) := by decide +kernel
theorem dX3_canTake_161 : decode cX3_canTake 161 = .ok (.ifCond .eq 7, 3) := by decide +kernel
theorem dX3_canTake_164 : decode cX3_canTake 164 = .ok (.iconst 1, 1) := by decide +kernel
theorem dX3_canTake_165 : decode cX3_canTake 165 = .ok (.goto 4, 3) := by decide +kernel
theorem dX3_canTake_168 : decode cX3_canTake 168 = .ok (.iconst 0, 1) := by decide +kernel
theorem dX3_canTake_169 : decode cX3_canTake 169 = .ok (.istore 6, 2) := by decide +kernel
theorem dX3_canTake_171 : decode cX3_canTake 171 = .ok (.iinc 7 1, 3) := by decide +kernel
theorem dX3_canTake_174 : decode cX3_canTake 174 = .ok (.goto (-54), 3) := by decide +kernel
theorem dX3_canTake_177 : decode cX3_canTake 177 = .ok (.iload 6, 2) := by decide +kernel
theorem dX3_canTake_179 : decode cX3_canTake 179 = .ok (.ifCond .ne 7, 3) := by decide +kernel
theorem dX3_canTake_182 : decode cX3_canTake 182 = .ok (.aload_n 0, 1) := by decide +kernel
theorem dX3_canTake_183 : decode cX3_canTake 183 = .ok (.invokevirtual 59, 3) := by decide +kernel
theorem dX3_canTake_186 : decode cX3_canTake 186 = .ok (.iload 6, 2) := by decide +kernel
theorem dX3_canTake_188 : decode cX3_canTake 188 = .ok (.ireturn, 1) := by decide +kernel
theorem dX3_reach_0 : decode cX3_reach 0 = .ok (.iload_n 2, 1) := by decide +kernel
theorem dX3_reach_1 : decode cX3_reach 1 = .ok (.bipush 12, 2) := by decide +kernel
theorem dX3_reach_3 : decode cX3_reach 3 = .ok (.if_icmp .le 5, 3) := by decide +kernel
theorem dX3_reach_6 : decode cX3_reach 6 = .ok (.iconst 0, 1) := by decide +kernel
theorem dX3_reach_7 : decode cX3_reach 7 = .ok (.ireturn, 1) := by decide +kernel
theorem dX3_reach_8 : decode cX3_reach 8 = .ok (.iconst 0, 1) := by decide +kernel
theorem dX3_reach_9 : decode cX3_reach 9 = .ok (.istore_n 3, 1) := by decide +kernel
theorem dX3_reach_10 : decode cX3_reach 10 = .ok (.iload_n 3, 1) := by decide +kernel
theorem dX3_reach_11 : decode cX3_reach 11 = .ok (.aload_n 0, 1) := by decide +kernel
theorem dX3_reach_12 : decode cX3_reach 12 = .ok (.getfield 31, 3) := by decide +kernel
theorem dX3_reach_15 : decode cX3_reach 15 = .ok (.if_icmp .ge 88, 3) := by decide +kernel
theorem dX3_reach_18 : decode cX3_reach 18 = .ok (.iconst 1, 1) := by decide +kernel
theorem dX3_reach_19 : decode cX3_reach 19 = .ok (.iload_n 3, 1) := by decide +kernel
theorem dX3_reach_20 : decode cX3_reach 20 = .ok (.ishl, 1) := by decide +kernel
theorem dX3_reach_21 : decode cX3_reach 21 = .ok (.istore 4, 2) := by decide +kernel
theorem dX3_reach_23 : decode cX3_reach 23 = .ok (.aload_n 0, 1) := by decide +kernel
theorem dX3_reach_24 : decode cX3_reach 24 = .ok (.getfield 9, 3) := by decide +kernel
theorem dX3_reach_27 : decode cX3_reach 27 = .ok (.iload_n 1, 1) := by decide +kernel
theorem dX3_reach_28 : decode cX3_reach 28 = .ok (.iaload, 1) := by decide +kernel
theorem dX3_reach_29 : decode cX3_reach 29 = .ok (.iload 4, 2) := by decide +kernel
theorem dX3_reach_31 : decode cX3_reach 31 = .ok (.iand, 1) := by decide +kernel
theorem dX3_reach_32 : decode cX3_reach 32 = .ok (.ifCond .eq 65, 3) := by decide +kernel
theorem dX3_reach_35 : decode cX3_reach 35 = .ok (.aload_n 0, 1) := by decide +kernel
theorem dX3_reach_36 : decode cX3_reach 36 = .ok (.getfield 37, 3) := by decide +kernel
theorem dX3_reach_39 : decode cX3_reach 39 = .ok (.iload 4, 2) := by decide +kernel
theorem dX3_reach_41 : decode cX3_reach 41 = .ok (.iand, 1) := by decide +kernel
theorem dX3_reach_42 : decode cX3_reach 42 = .ok (.ifCond .ne 55, 3) := by decide +kernel
theorem dX3_reach_45 : decode cX3_reach 45 = .ok (.aload_n 0, 1) := by decide +kernel
theorem dX3_reach_46 : decode cX3_reach 46 = .ok (.dup, 1) := by decide +kernel
theorem dX3_reach_47 : decode cX3_reach 47 = .ok (.getfield 37, 3) := by decide +kernel
theorem dX3_reach_50 : decode cX3_reach 50 = .ok (.iload 4, 2) := by decide +kernel
theorem dX3_reach_52 : decode cX3_reach 52 = .ok (.ior, 1) := by decide +kernel
theorem dX3_reach_53 : decode cX3_reach 53 = .ok (.putfield 37, 3) := by decide +kernel
theorem dX3_reach_56 : decode cX3_reach 56 = .ok (.aload_n 0, 1) := by decide +kernel
theorem dX3_reach_57 : decode cX3_reach 57 = .ok (.getfield 18, 3) := by decide +kernel
theorem dX3_reach_60 : decode cX3_reach 60 = .ok (.iload_n 3, 1) := by decide +kernel
theorem dX3_reach_61 : decode cX3_reach 61 = .ok (.iaload, 1) := by decide +kernel
theorem dX3_reach_62 : decode cX3_reach 62 = .ok (.ifCond .lt 19, 3) := by decide +kernel
theorem dX3_reach_65 : decode cX3_reach 65 = .ok (.aload_n 0, 1) := by decide +kernel
theorem dX3_reach_66 : decode cX3_reach 66 = .ok (.aload_n 0, 1) := by decide +kernel
theorem dX3_reach_67 : decode cX3_reach 67 = .ok (.getfield 18, 3) := by decide +kernel
theorem dX3_reach_70 : decode cX3_reach 70 = .ok (.iload_n 3, 1) := by decide +kernel
theorem dX3_reach_71 : decode cX3_reach 71 = .ok (.iaload, 1) := by decide +kernel
theorem dX3_reach_72 : decode cX3_reach 72 = .ok (.iload_n 2, 1) := by decide +kernel
theorem dX3_reach_73 : decode cX3_reach 73 = .ok (.iconst 1, 1) := by decide +kernel
theorem dX3_reach_74 : decode cX3_reach 74 = .ok (.iadd, 1) := by decide +kernel
theorem dX3_reach_75 : decode cX3_reach 75 = .ok (.invokevirtual 49, 3) := by decide +kernel
theorem dX3_reach_78 : decode cX3_reach 78 = .ok (.ifCond .eq 19, 3) := by decide +kernel
theorem dX3_reach_81 : decode cX3_reach 81 = .ok (.aload_n 0, 1) := by decide +kernel
theorem dX3_reach_82 : decode cX3_reach 82 = .ok (.getfield 15, 3) := by decide +kernel
theorem dX3_reach_85 : decode cX3_reach 85 = .ok (.iload_n 1, 1) := by decide +kernel
theorem dX3_reach_86 : decode cX3_reach 86 = .ok (.iload_n 3, 1) := by decide +kernel
theorem dX3_reach_87 : decode cX3_reach 87 = .ok (.iastore, 1) := by decide +kernel
theorem dX3_reach_88 : decode cX3_reach 88 = .ok (.aload_n 0, 1) := by decide +kernel
theorem dX3_reach_89 : decode cX3_reach 89 = .ok (.getfield 18, 3) := by decide +kernel
theorem dX3_reach_92 : decode cX3_reach 92 = .ok (.iload_n 3, 1) := by decide +kernel
theorem dX3_reach_93 : decode cX3_reach 93 = .ok (.iload_n 1, 1) := by decide +kernel
theorem dX3_reach_94 : decode cX3_reach 94 = .ok (.iastore, 1) := by decide +kernel
theorem dX3_reach_95 : decode cX3_reach 95 = .ok (.iconst 1, 1) := by decide +kernel
theorem dX3_reach_96 : decode cX3_reach 96 = .ok (.ireturn, 1) := by decide +kernel
theorem dX3_reach_97 : decode cX3_reach 97 = .ok (.iinc 3 1, 3) := by decide +kernel
theorem dX3_reach_100 : decode cX3_reach 100 = .ok (.goto (-90), 3) := by decide +kernel
theorem dX3_reach_103 : decode cX3_reach 103 = .ok (.iconst 0, 1) := by decide +kernel
theorem dX3_reach_104 : decode cX3_reach 104 = .ok (.ireturn, 1) := by decide +kernel
theorem dX3_keep_0 : decode cX3_keep 0 = .ok (.iconst 0, 1) := by decide +kernel
theorem dX3_keep_1 : decode cX3_keep 1 = .ok (.istore_n 1, 1) := by decide +kernel
theorem dX3_keep_2 : decode cX3_keep 2 = .ok (.iload_n 1, 1) := by decide +kernel
theorem dX3_keep_3 : decode cX3_keep 3 = .ok (.bipush 12, 2) := by decide +kernel
theorem dX3_keep_5 : decode cX3_keep 5 = .ok (.if_icmp .ge 33, 3) := by decide +kernel
theorem dX3_keep_8 : decode cX3_keep 8 = .ok (.aload_n 0, 1) := by decide +kernel
theorem dX3_keep_9 : decode cX3_keep 9 = .ok (.getfield 21, 3) := by decide +kernel
theorem dX3_keep_12 : decode cX3_keep 12 = .ok (.iload_n 1, 1) := by decide +kernel
theorem dX3_keep_13 : decode cX3_keep 13 = .ok (.aload_n 0, 1) := by decide +kernel
theorem dX3_keep_14 : decode cX3_keep 14 = .ok (.getfield 15, 3) := by decide +kernel
theorem dX3_keep_17 : decode cX3_keep 17 = .ok (.iload_n 1, 1) := by decide +kernel
theorem dX3_keep_18 : decode cX3_keep 18 = .ok (.iaload, 1) := by decide +kernel
theorem dX3_keep_19 : decode cX3_keep 19 = .ok (.iastore, 1) := by decide +kernel
theorem dX3_keep_20 : decode cX3_keep 20 = .ok (.aload_n 0, 1) := by decide +kernel
theorem dX3_keep_21 : decode cX3_keep 21 = .ok (.getfield 24, 3) := by decide +kernel
theorem dX3_keep_24 : decode cX3_keep 24 = .ok (.iload_n 1, 1) := by decide +kernel
theorem dX3_keep_25 : decode cX3_keep 25 = .ok (.aload_n 0, 1) := by decide +kernel
theorem dX3_keep_26 : decode cX3_keep 26 = .ok (.getfield 18, 3) := by decide +kernel
theorem dX3_keep_29 : decode cX3_keep 29 = .ok (.iload_n 1, 1) := by decide +kernel
theorem dX3_keep_30 : decode cX3_keep 30 = .ok (.iaload, 1) := by decide +kernel
theorem dX3_keep_31 : decode cX3_keep 31 = .ok (.iastore, 1) := by decide +kernel
theorem dX3_keep_32 : decode cX3_keep 32 = .ok (.iinc 1 1, 3) := by decide +kernel
theorem dX3_keep_35 : decode cX3_keep 35 = .ok (.goto (-33), 3) := by decide +kernel
theorem dX3_keep_38 : decode cX3_keep 38 = .ok (.return_, 1) := by decide +kernel
theorem dX3_restore_0 : decode cX3_restore 0 = .ok (.iconst 0, 1) := by decide +kernel
theorem dX3_restore_1 : decode cX3_restore 1 = .ok (.istore_n 1, 1) := by decide +kernel
theorem dX3_restore_2 : decode cX3_restore 2 = .ok (.iload_n 1, 1) := by decide +kernel
theorem dX3_restore_3 : decode cX3_restore 3 = .ok (.bipush 12, 2) := by decide +kernel
theorem dX3_restore_5 : decode cX3_restore 5 = .ok (.if_icmp .ge 33, 3) := by decide +kernel
theorem dX3_restore_8 : decode cX3_restore 8 = .ok (.aload_n 0, 1) := by decide +kernel
theorem dX3_restore_9 : decode cX3_restore 9 = .ok (.getfield 15, 3) := by decide +kernel
theorem dX3_restore_12 : decode cX3_restore 12 = .ok (.iload_n 1, 1) := by decide +kernel
theorem dX3_restore_13 : decode cX3_restore 13 = .ok (.aload_n 0, 1) := by decide +kernel
theorem dX3_restore_14 : decode cX3_restore 14 = .ok (.getfield 21, 3) := by decide +kernel
theorem dX3_restore_17 : decode cX3_restore 17 = .ok (.iload_n 1, 1) := by decide +kernel
theorem dX3_restore_18 : decode cX3_restore 18 = .ok (.iaload, 1) := by decide +kernel
theorem dX3_restore_19 : decode cX3_restore 19 = .ok (.iastore, 1) := by decide +kernel
theorem dX3_restore_20 : decode cX3_restore 20 = .ok (.aload_n 0, 1) := by decide +kernel
theorem dX3_restore_21 : decode cX3_restore 21 = .ok (.getfield 18, 3) := by decide +kernel
theorem dX3_restore_24 : decode cX3_restore 24 = .ok (.iload_n 1, 1) := by decide +kernel
theorem dX3_restore_25 : decode cX3_restore 25 = .ok (.aload_n 0, 1) := by decide +kernel
theorem dX3_restore_26 : decode cX3_restore 26 = .ok (.getfield 24, 3) := by decide +kernel
theorem dX3_restore_29 : decode cX3_restore 29 = .ok (.iload_n 1, 1) := by decide +kernel
theorem dX3_restore_30 : decode cX3_restore 30 = .ok (.iaload, 1) := by decide +kernel
theorem dX3_restore_31 : decode cX3_restore 31 = .ok (.iastore, 1) := by decide +kernel
theorem dX3_restore_32 : decode cX3_restore 32 = .ok (.iinc 1 1, 3) := by decide +kernel
theorem dX3_restore_35 : decode cX3_restore 35 = .ok (.goto (-33), 3) := by decide +kernel
theorem dX3_restore_38 : decode cX3_restore 38 = .ok (.return_, 1) := by decide +kernel
theorem dX4_init_0 : decode cX4_init 0 = .ok (.aload_n 0, 1) := by decide +kernel
theorem dX4_init_1 : decode cX4_init 1 = .ok (.invokespecial 3, 3) := by decide +kernel
theorem dX4_init_4 : decode cX4_init 4 = .ok (.aload_n 0, 1) := by decide +kernel
theorem dX4_init_5 : decode cX4_init 5 = .ok (.iconst 4, 1) := by decide +kernel
theorem dX4_init_6 : decode cX4_init 6 = .ok (.newarray .int, 2) := by decide +kernel
theorem dX4_init_8 : decode cX4_init 8 = .ok (.putfield 9, 3) := by decide +kernel
theorem dX4_init_11 : decode cX4_init 11 = .ok (.aload_n 0, 1) := by decide +kernel
theorem dX4_init_12 : decode cX4_init 12 = .ok (.iconst 4, 1) := by decide +kernel
theorem dX4_init_13 : decode cX4_init 13 = .ok (.newarray .int, 2) := by decide +kernel
theorem dX4_init_15 : decode cX4_init 15 = .ok (.putfield 15, 3) := by decide +kernel
theorem dX4_init_18 : decode cX4_init 18 = .ok (.aload_n 0, 1) := by decide +kernel
theorem dX4_init_19 : decode cX4_init 19 = .ok (.iconst 4, 1) := by decide +kernel
theorem dX4_init_20 : decode cX4_init 20 = .ok (.newarray .int, 2) := by decide +kernel
theorem dX4_init_22 : decode cX4_init 22 = .ok (.putfield 18, 3) := by decide +kernel
theorem dX4_init_25 : decode cX4_init 25 = .ok (.return_, 1) := by decide +kernel
theorem dX4_clear_0 : decode cX4_clear 0 = .ok (.iconst 0, 1) := by decide +kernel
theorem dX4_clear_1 : decode cX4_clear 1 = .ok (.istore_n 1, 1) := by decide +kernel
theorem dX4_clear_2 : decode cX4_clear 2 = .ok (.iload_n 1, 1) := by decide +kernel
theorem dX4_clear_3 : decode cX4_clear 3 = .ok (.iconst 4, 1) := by decide +kernel
theorem dX4_clear_4 : decode cX4_clear 4 = .ok (.if_icmp .ge 30, 3) := by decide +kernel
theorem dX4_clear_7 : decode cX4_clear 7 = .ok (.aload_n 0, 1) := by decide +kernel
theorem dX4_clear_8 : decode cX4_clear 8 = .ok (.getfield 9, 3) := by decide +kernel
theorem dX4_clear_11 : decode cX4_clear 11 = .ok (.iload_n 1, 1) := by decide +kernel
theorem dX4_clear_12 : decode cX4_clear 12 = .ok (.iconst 0, 1) := by decide +kernel
theorem dX4_clear_13 : decode cX4_clear 13 = .ok (.iastore, 1) := by decide +kernel
theorem dX4_clear_14 : decode cX4_clear 14 = .ok (.aload_n 0, 1) := by decide +kernel
theorem dX4_clear_15 : decode cX4_clear 15 = .ok (.getfield 15, 3) := by decide +kernel
theorem dX4_clear_18 : decode cX4_clear 18 = .ok (.iload_n 1, 1) := by decide +kernel
theorem dX4_clear_19 : decode cX4_clear 19 = .ok (.iconst 0, 1) := by decide +kernel
theorem dX4_clear_20 : decode cX4_clear 20 = .ok (.iastore, 1) := by decide +kernel
theorem dX4_clear_21 : decode cX4_clear 21 = .ok (.aload_n 0, 1) := by decide +kernel
theorem dX4_clear_22 : decode cX4_clear 22 = .ok (.getfield 18, 3) := by decide +kernel
theorem dX4_clear_25 : decode cX4_clear 25 = .ok (.iload_n 1, 1) := by decide +kernel
theorem dX4_clear_26 : decode cX4_clear 26 = .ok (.iconst 0, 1) := by decide +kernel
theorem dX4_clear_27 : decode cX4_clear 27 = .ok (.iastore, 1) := by decide +kernel
theorem dX4_clear_28 : decode cX4_clear 28 = .ok (.iinc 1 1, 3) := by decide +kernel
theorem dX4_clear_31 : decode cX4_clear 31 = .ok (.goto (-29), 3) := by decide +kernel
theorem dX4_clear_34 : decode cX4_clear 34 = .ok (.return_, 1) := by decide +kernel
theorem dX4_sum_0 : decode cX4_sum 0 = .ok (.iconst 0, 1) := by decide +kernel
theorem dX4_sum_1 : decode cX4_sum 1 = .ok (.istore_n 1, 1) := by decide +kernel
theorem dX4_sum_2 : decode cX4_sum 2 = .ok (.iconst 0, 1) := by decide +kernel
theorem dX4_sum_3 : decode cX4_sum 3 = .ok (.istore_n 2, 1) := by decide +kernel
theorem dX4_sum_4 : decode cX4_sum 4 = .ok (.iload_n 2, 1) := by decide +kernel
theorem dX4_sum_5 : decode cX4_sum 5 = .ok (.iconst 4, 1) := by decide +kernel
theorem dX4_sum_6 : decode cX4_sum 6 = .ok (.if_icmp .ge 15, 3) := by decide +kernel
theorem dX4_sum_9 : decode cX4_sum 9 = .ok (.iload_n 1, 1) := by decide +kernel
theorem dX4_sum_10 : decode cX4_sum 10 = .ok (.aload_n 0, 1) := by decide +kernel
theorem dX4_sum_11 : decode cX4_sum 11 = .ok (.iload_n 2, 1) := by decide +kernel
theorem dX4_sum_12 : decode cX4_sum 12 = .ok (.iaload, 1) := by decide +kernel
theorem dX4_sum_13 : decode cX4_sum 13 = .ok (.iadd, 1) := by decide +kernel
theorem dX4_sum_14 : decode cX4_sum 14 = .ok (.istore_n 1, 1) := by decide +kernel
theorem dX4_sum_15 : decode cX4_sum 15 = .ok (.iinc 2 1, 3) := by decide +kernel
theorem dX4_sum_18 : decode cX4_sum 18 = .ok (.goto (-14), 3) := by decide +kernel
theorem dX4_sum_21 : decode cX4_sum 21 = .ok (.iload_n 1, 1) := by decide +kernel
theorem dX4_sum_22 : decode cX4_sum 22 = .ok (.ireturn, 1) := by decide +kernel
theorem dX4_thousandths_0 : decode cX4_thousandths 0 = .ok (.aload_n 0, 1) := by decide +kernel
theorem dX4_thousandths_1 : decode cX4_thousandths 1 = .ok (.getfield 9, 3) := by decide +kernel
theorem dX4_thousandths_4 : decode cX4_thousandths 4 = .ok (.invokestatic 21, 3) := by decide +kernel
theorem dX4_thousandths_7 : decode cX4_thousandths 7 = .ok (.istore_n 1, 1) := by decide +kernel
theorem dX4_thousandths_8 : decode cX4_thousandths 8 = .ok (.aload_n 0, 1) := by decide +kernel
theorem dX4_thousandths_9 : decode cX4_thousandths 9 = .ok (.getfield 15, 3) := by decide +kernel
theorem dX4_thousandths_12 : decode cX4_thousandths 12 = .ok (.invokestatic 21, 3) := by decide +kernel
theorem dX4_thousandths_15 : decode cX4_thousandths 15 = .ok (.istore_n 2, 1) := by decide +kernel
theorem dX4_thousandths_16 : decode cX4_thousandths 16 = .ok (.lconst 0, 1) := by decide +kernel
theorem dX4_thousandths_17 : decode cX4_thousandths 17 = .ok (.lstore_n 3, 1) := by decide +kernel
theorem dX4_thousandths_18 : decode cX4_thousandths 18 = .ok (.lconst 1, 1) := by decide +kernel
theorem dX4_thousandths_19 : decode cX4_thousandths 19 = .ok (.lstore 5, 2) := by decide +kernel
theorem dX4_thousandths_21 : decode cX4_thousandths 21 = .ok (.iconst 0, 1) := by decide +kernel
theorem dX4_thousandths_22 : decode cX4_thousandths 22 = .ok (.istore 7, 2) := by decide +kernel
theorem dX4_thousandths_24 : decode cX4_thousandths 24 = .ok (.iload 7, 2) := by decide +kernel
theorem dX4_thousandths_26 : decode cX4_thousandths 26 = .ok (.iconst 4, 1) := by decide +kernel
theorem dX4_thousandths_27 : decode cX4_thousandths 27 = .ok (.if_icmp .ge 93, 3) := by decide +kernel
theorem dX4_thousandths_30 : decode cX4_thousandths 30 = .ok (.aload_n 0, 1) := by decide +kernel
theorem dX4_thousandths_31 : decode cX4_thousandths 31 = .ok (.getfield 15, 3) := by decide +kernel
theorem dX4_thousandths_34 : decode cX4_thousandths 34 = .ok (.iload 7, 2) := by decide +kernel
theorem dX4_thousandths_36 : decode cX4_thousandths 36 = .ok (.iaload, 1) := by decide +kernel
theorem dX4_thousandths_37 : decode cX4_thousandths 37 = .ok (.ifCond .le 14, 3) := by decide +kernel
theorem dX4_thousandths_40 : decode cX4_thousandths 40 = .ok (.aload_n 0, 1) := by decide +kernel
theorem dX4_thousandths_41 : decode cX4_thousandths 41 = .ok (.getfield 9, 3) := by decide +kernel
theorem dX4_thousandths_44 : decode cX4_thousandths 44 = .ok (.iload 7, 2) := by decide +kernel
theorem dX4_thousandths_46 : decode cX4_thousandths 46 = .ok (.iaload, 1) := by decide +kernel
theorem dX4_thousandths_47 : decode cX4_thousandths 47 = .ok (.i2l, 1) := by decide +kernel
theorem dX4_thousandths_48 : decode cX4_thousandths 48 = .ok (.goto 5, 3) := by decide +kernel
theorem dX4_thousandths_51 : decode cX4_thousandths 51 = .ok (.iload_n 1, 1) := by decide +kernel
theorem dX4_thousandths_52 : decode cX4_thousandths 52 = .ok (.i2l, 1) := by decide +kernel
theorem dX4_thousandths_53 : decode cX4_thousandths 53 = .ok (.lstore 8, 2) := by decide +kernel
theorem dX4_thousandths_55 : decode cX4_thousandths 55 = .ok (.aload_n 0, 1) := by decide +kernel
theorem dX4_thousandths_56 : decode cX4_thousandths 56 = .ok (.getfield 15, 3) := by decide +kernel
theorem dX4_thousandths_59 : decode cX4_thousandths 59 = .ok (.iload 7, 2) := by decide +kernel
theorem dX4_thousandths_61 : decode cX4_thousandths 61 = .ok (.iaload, 1) := by decide +kernel
theorem dX4_thousandths_62 : decode cX4_thousandths 62 = .ok (.ifCond .le 14, 3) := by decide +kernel
theorem dX4_thousandths_65 : decode cX4_thousandths 65 = .ok (.aload_n 0, 1) := by decide +kernel
theorem dX4_thousandths_66 : decode cX4_thousandths 66 = .ok (.getfield 15, 3) := by decide +kernel
theorem dX4_thousandths_69 : decode cX4_thousandths 69 = .ok (.iload 7, 2) := by decide +kernel
theorem dX4_thousandths_71 : decode cX4_thousandths 71 = .ok (.iaload, 1) := by decide +kernel
theorem dX4_thousandths_72 : decode cX4_thousandths 72 = .ok (.i2l, 1) := by decide +kernel
theorem dX4_thousandths_73 : decode cX4_thousandths 73 = .ok (.goto 5, 3) := by decide +kernel
theorem dX4_thousandths_76 : decode cX4_thousandths 76 = .ok (.iload_n 2, 1) := by decide +kernel
theorem dX4_thousandths_77 : decode cX4_thousandths 77 = .ok (.i2l, 1) := by decide +kernel
theorem dX4_thousandths_78 : decode cX4_thousandths 78 = .ok (.lstore 10, 2) := by decide +kernel
theorem dX4_thousandths_80 : decode cX4_thousandths 80 = .ok (.lload 10, 2) := by decide +kernel
theorem dX4_thousandths_82 : decode cX4_thousandths 82 = .ok (.lconst 0, 1) := by decide +kernel
theorem dX4_thousandths_83 : decode cX4_thousandths 83 = .ok (.lcmp, 1) := by decide +kernel
theorem dX4_thousandths_84 : decode cX4_thousandths 84 = .ok (.ifCond .le 30, 3) := by decide +kernel
theorem dX4_thousandths_87 : decode cX4_thousandths 87 = .ok (.lload_n 3, 1) := by decide +kernel
theorem dX4_thousandths_88 : decode cX4_thousandths 88 = .ok (.lload 10, 2) := by decide +kernel
theorem dX4_thousandths_90 : decode cX4_thousandths 90 = .ok (.lmul, 1) := by decide +kernel
theorem dX4_thousandths_91 : decode cX4_thousandths 91 = .ok (.aload_n 0, 1) := by decide +kernel
theorem dX4_thousandths_92 : decode cX4_thousandths 92 = .ok (.getfield 18, 3) := by decide +kernel
theorem dX4_thousandths_95 : decode cX4_thousandths 95 = .ok (.iload 7, 2) := by decide +kernel
theorem dX4_thousandths_97 : decode cX4_thousandths 97 = .ok (.iaload, 1) := by decide +kernel
theorem dX4_thousandths_98 : decode cX4_thousandths 98 = .ok (.i2l, 1) := by decide +kernel
theorem dX4_thousandths_99 : decode cX4_thousandths 99 = .ok (.lload 8, 2) := by decide +kernel
theorem dX4_thousandths_101 : decode cX4_thousandths 101 = .ok (.lmul, 1) := by decide +kernel
theorem dX4_thousandths_102 : decode cX4_thousandths 102 = .ok (.lload 5, 2) := by decide +kernel
theorem dX4_thousandths_104 : decode cX4_thousandths 104 = .ok (.lmul, 1) := by decide +kernel
theorem dX4_thousandths_105 : decode cX4_thousandths 105 = .ok (.ladd, 1) := by decide +kernel
theorem dX4_thousandths_106 : decode cX4_thousandths 106 = .ok (.lstore_n 3, 1) := by decide +kernel
theorem dX4_thousandths_107 : decode cX4_thousandths 107 = .ok (.lload 5, 2) := by decide +kernel
theorem dX4_thousandths_109 : decode cX4_thousandths 109 = .ok (.lload 10, 2) := by decide +kernel
theorem dX4_thousandths_111 : decode cX4_thousandths 111 = .ok (.lmul, 1) := by decide +kernel
theorem dX4_thousandths_112 : decode cX4_thousandths 112 = .ok (.lstore 5, 2) := by decide +kernel
theorem dX4_thousandths_114 : decode cX4_thousandths 114 = .ok (.iinc 7 1, 3) := by decide +kernel
theorem dX4_thousandths_117 : decode cX4_thousandths 117 = .ok (.goto (-93), 3) := by decide +kernel
theorem dX4_thousandths_120 : decode cX4_thousandths 120 = .ok (.lload 5, 2) := by decide +kernel
theorem dX4_thousandths_122 : decode cX4_thousandths 122 = .ok (.lconst 0, 1) := by decide +kernel
theorem dX4_thousandths_123 : decode cX4_thousandths 123 = .ok (.lcmp, 1) := by decide +kernel
theorem dX4_thousandths_124 : decode cX4_thousandths 124 = .ok (.ifCond .gt 5, 3) := by decide +kernel
theorem dX4_thousandths_127 : decode cX4_thousandths 127 = .ok (.iconst 0, 1) := by decide +kernel
theorem dX4_thousandths_128 : decode cX4_thousandths 128 = .ok (.ireturn, 1) := by decide +kernel
theorem dX4_thousandths_129 : decode cX4_thousandths 129 = .ok (.ldc2_w 25, 3) := by decide +kernel
theorem dX4_thousandths_132 : decode cX4_thousandths 132 = .ok (.lload_n 3, 1) := by decide +kernel
theorem dX4_thousandths_133 : decode cX4_thousandths 133 = .ok (.lmul, 1) := by decide +kernel
theorem dX4_thousandths_134 : decode cX4_thousandths 134 = .ok (.lload 5, 2) := by decide +kernel
theorem dX4_thousandths_136 : decode cX4_thousandths 136 = .ok (.ldiv, 1) := by decide +kernel
theorem dX4_thousandths_137 : decode cX4_thousandths 137 = .ok (.l2i, 1) := by decide +kernel
theorem dX4_thousandths_138 : decode cX4_thousandths 138 = .ok (.ireturn, 1) := by decide +kernel
theorem dX5_init_0 : decode cX5_init 0 = .ok (.aload_n 0, 1) := by decide +kernel
theorem dX5_init_1 : decode cX5_init 1 = .ok (.invokespecial 3, 3) := by decide +kernel
theorem dX5_init_4 : decode cX5_init 4 = .ok (.aload_n 0, 1) := by decide +kernel
theorem dX5_init_5 : decode cX5_init 5 = .ok (.bipush 20, 2) := by decide +kernel
theorem dX5_init_7 : decode cX5_init 7 = .ok (.newarray .int, 2) := by decide +kernel
theorem dX5_init_9 : decode cX5_init 9 = .ok (.putfield 9, 3) := by decide +kernel
theorem dX5_init_12 : decode cX5_init 12 = .ok (.aload_n 0, 1) := by decide +kernel
theorem dX5_init_13 : decode cX5_init 13 = .ok (.bipush 20, 2) := by decide +kernel
theorem dX5_init_15 : decode cX5_init 15 = .ok (.newarray .int, 2) := by decide +kernel
theorem dX5_init_17 : decode cX5_init 17 = .ok (.putfield 15, 3) := by decide +kernel
theorem dX5_init_20 : decode cX5_init 20 = .ok (.aload_n 0, 1) := by decide +kernel
theorem dX5_init_21 : decode cX5_init 21 = .ok (.bipush 20, 2) := by decide +kernel
theorem dX5_init_23 : decode cX5_init 23 = .ok (.newarray .int, 2) := by decide +kernel
theorem dX5_init_25 : decode cX5_init 25 = .ok (.putfield 18, 3) := by decide +kernel
theorem dX5_init_28 : decode cX5_init 28 = .ok (.aload_n 0, 1) := by decide +kernel
theorem dX5_init_29 : decode cX5_init 29 = .ok (.aload_n 1, 1) := by decide +kernel
theorem dX5_init_30 : decode cX5_init 30 = .ok (.putfield 21, 3) := by decide +kernel
theorem dX5_init_33 : decode cX5_init 33 = .ok (.return_, 1) := by decide +kernel
theorem dX5_clear_0 : decode cX5_clear 0 = .ok (.iconst 0, 1) := by decide +kernel
theorem dX5_clear_1 : decode cX5_clear 1 = .ok (.istore_n 1, 1) := by decide +kernel
theorem dX5_clear_2 : decode cX5_clear 2 = .ok (.iload_n 1, 1) := by decide +kernel
theorem dX5_clear_3 : decode cX5_clear 3 = .ok (.bipush 20, 2) := by decide +kernel
theorem dX5_clear_5 : decode cX5_clear 5 = .ok (.if_icmp .ge 23, 3) := by decide +kernel
theorem dX5_clear_8 : decode cX5_clear 8 = .ok (.aload_n 0, 1) := by decide +kernel
theorem dX5_clear_9 : decode cX5_clear 9 = .ok (.getfield 9, 3) := by decide +kernel
theorem dX5_clear_12 : decode cX5_clear 12 = .ok (.iload_n 1, 1) := by decide +kernel
theorem dX5_clear_13 : decode cX5_clear 13 = .ok (.iconst 0, 1) := by decide +kernel
theorem dX5_clear_14 : decode cX5_clear 14 = .ok (.iastore, 1) := by decide +kernel
theorem dX5_clear_15 : decode cX5_clear 15 = .ok (.aload_n 0, 1) := by decide +kernel
theorem dX5_clear_16 : decode cX5_clear 16 = .ok (.getfield 15, 3) := by decide +kernel
theorem dX5_clear_19 : decode cX5_clear 19 = .ok (.iload_n 1, 1) := by decide +kernel
theorem dX5_clear_20 : decode cX5_clear 20 = .ok (.iconst 0, 1) := by decide +kernel
theorem dX5_clear_21 : decode cX5_clear 21 = .ok (.iastore, 1) := by decide +kernel
theorem dX5_clear_22 : decode cX5_clear 22 = .ok (.iinc 1 1, 3) := by decide +kernel
theorem dX5_clear_25 : decode cX5_clear 25 = .ok (.goto (-23), 3) := by decide +kernel
theorem dX5_clear_28 : decode cX5_clear 28 = .ok (.return_, 1) := by decide +kernel
theorem dX5_ownUnder_0 : decode cX5_ownUnder 0 = .ok (.iconst 0, 1) := by decide +kernel
theorem dX5_ownUnder_1 : decode cX5_ownUnder 1 = .ok (.istore_n 2, 1) := by decide +kernel
theorem dX5_ownUnder_2 : decode cX5_ownUnder 2 = .ok (.iconst 0, 1) := by decide +kernel
theorem dX5_ownUnder_3 : decode cX5_ownUnder 3 = .ok (.istore_n 3, 1) := by decide +kernel
theorem dX5_ownUnder_4 : decode cX5_ownUnder 4 = .ok (.iload_n 3, 1) := by decide +kernel
theorem dX5_ownUnder_5 : decode cX5_ownUnder 5 = .ok (.aload_n 0, 1) := by decide +kernel
theorem dX5_ownUnder_6 : decode cX5_ownUnder 6 = .ok (.getfield 21, 3) := by decide +kernel
theorem dX5_ownUnder_9 : decode cX5_ownUnder 9 = .ok (.getfield 25, 3) := by decide +kernel
theorem dX5_ownUnder_12 : decode cX5_ownUnder 12 = .ok (.if_icmp .ge 30, 3) := by decide +kernel
theorem dX5_ownUnder_15 : decode cX5_ownUnder 15 = .ok (.aload_n 0, 1) := by decide +kernel
theorem dX5_ownUnder_16 : decode cX5_ownUnder 16 = .ok (.getfield 21, 3) := by decide +kernel
theorem dX5_ownUnder_19 : decode cX5_ownUnder 19 = .ok (.iload_n 3, 1) := by decide +kernel
theorem dX5_ownUnder_20 : decode cX5_ownUnder 20 = .ok (.iload_n 1, 1) := by decide +kernel
theorem dX5_ownUnder_21 : decode cX5_ownUnder 21 = .ok (.invokevirtual 31, 3) := by decide +kernel
theorem dX5_ownUnder_24 : decode cX5_ownUnder 24 = .ok (.ifCond .eq 12, 3) := by decide +kernel
theorem dX5_ownUnder_27 : decode cX5_ownUnder 27 = .ok (.iload_n 2, 1) := by decide +kernel
theorem dX5_ownUnder_28 : decode cX5_ownUnder 28 = .ok (.aload_n 0, 1) := by decide +kernel
theorem dX5_ownUnder_29 : decode cX5_ownUnder 29 = .ok (.getfield 9, 3) := by decide +kernel
theorem dX5_ownUnder_32 : decode cX5_ownUnder 32 = .ok (.iload_n 3, 1) := by decide +kernel
theorem dX5_ownUnder_33 : decode cX5_ownUnder 33 = .ok (.iaload, 1) := by decide +kernel
theorem dX5_ownUnder_34 : decode cX5_ownUnder 34 = .ok (.iadd, 1) := by decide +kernel
theorem dX5_ownUnder_35 : decode cX5_ownUnder 35 = .ok (.istore_n 2, 1) := by decide +kernel
theorem dX5_ownUnder_36 : decode cX5_ownUnder 36 = .ok (.iinc 3 1, 3) := by decide +kernel
theorem dX5_ownUnder_39 : decode cX5_ownUnder 39 = .ok (.goto (-35), 3) := by decide +kernel
theorem dX5_ownUnder_42 : decode cX5_ownUnder 42 = .ok (.iload_n 2, 1) := by decide +kernel
theorem dX5_ownUnder_43 : decode cX5_ownUnder 43 = .ok (.ireturn, 1) := by decide +kernel
theorem dX5_numberUnder_0 : decode cX5_numberUnder 0 = .ok (.iconst 0, 1) := by decide +kernel
theorem dX5_numberUnder_1 : decode cX5_numberUnder 1 = .ok (.istore_n 2, 1) := by decide +kernel
theorem dX5_numberUnder_2 : decode cX5_numberUnder 2 = .ok (.iconst 0, 1) := by decide +kernel
theorem dX5_numberUnder_3 : decode cX5_numberUnder 3 = .ok (.istore_n 3, 1) := by decide +kernel
theorem dX5_numberUnder_4 : decode cX5_numberUnder 4 = .ok (.iload_n 3, 1) := by decide +kernel
theorem dX5_numberUnder_5 : decode cX5_numberUnder 5 = .ok (.aload_n 0, 1) := by decide +kernel
theorem dX5_numberUnder_6 : decode cX5_numberUnder 6 = .ok (.getfield 21, 3) := by decide +kernel
theorem dX5_numberUnder_9 : decode cX5_numberUnder 9 = .ok (.getfield 25, 3) := by decide +kernel
theorem dX5_numberUnder_12 : decode cX5_numberUnder 12 = .ok (.if_icmp .ge 30, 3) := by decide +kernel
theorem dX5_numberUnder_15 : decode cX5_numberUnder 15 = .ok (.aload_n 0, 1) := by decide +kernel
theorem dX5_numberUnder_16 : decode cX5_numberUnder 16 = .ok (.getfield 21, 3) := by decide +kernel
theorem dX5_numberUnder_19 : decode cX5_numberUnder 19 = .ok (.iload_n 3, 1) := by decide +kernel
theorem dX5_numberUnder_20 : decode cX5_numberUnder 20 = .ok (.iload_n 1, 1) := by decide +kernel
theorem dX5_numberUnder_21 : decode cX5_numberUnder 21 = .ok (.invokevirtual 35, 3) := by decide +kernel
theorem dX5_numberUnder_24 : decode cX5_numberUnder 24 = .ok (.ifCond .eq 12, 3) := by decide +kernel
theorem dX5_numberUnder_27 : decode cX5_numberUnder 27 = .ok (.iload_n 2, 1) := by decide +kernel
theorem dX5_numberUnder_28 : decode cX5_numberUnder 28 = .ok (.aload_n 0, 1) := by decide +kernel
theorem dX5_numberUnder_29 : decode cX5_numberUnder 29 = .ok (.getfield 15, 3) := by decide +kernel
theorem dX5_numberUnder_32 : decode cX5_numberUnder 32 = .ok (.iload_n 3, 1) := by decide +kernel
theorem dX5_numberUnder_33 : decode cX5_numberUnder 33 = .ok (.iaload, 1) := by decide +kernel
theorem dX5_numberUnder_34 : decode cX5_numberUnder 34 = .ok (.iadd, 1) := by decide +kernel
theorem dX5_numberUnder_35 : decode cX5_numberUnder 35 = .ok (.istore_n 2, 1) := by decide +kernel
theorem dX5_numberUnder_36 : decode cX5_numberUnder 36 = .ok (.iinc 3 1, 3) := by decide +kernel
theorem dX5_numberUnder_39 : decode cX5_numberUnder 39 = .ok (.goto (-35), 3) := by decide +kernel
theorem dX5_numberUnder_42 : decode cX5_numberUnder 42 = .ok (.iload_n 2, 1) := by decide +kernel
theorem dX5_numberUnder_43 : decode cX5_numberUnder 43 = .ok (.ireturn, 1) := by decide +kernel
theorem dX5_partAll_0 : decode cX5_partAll 0 = .ok (.iconst 0, 1) := by decide +kernel
theorem dX5_partAll_1 : decode cX5_partAll 1 = .ok (.istore_n 1, 1) := by decide +kernel
theorem dX5_partAll_2 : decode cX5_partAll 2 = .ok (.iload_n 1, 1) := by decide +kernel
theorem dX5_partAll_3 : decode cX5_partAll 3 = .ok (.aload_n 0, 1) := by decide +kernel
theorem dX5_partAll_4 : decode cX5_partAll 4 = .ok (.getfield 21, 3) := by decide +kernel
theorem dX5_partAll_7 : decode cX5_partAll 7 = .ok (.getfield 25, 3) := by decide +kernel
theorem dX5_partAll_10 : decode cX5_partAll 10 = .ok (.if_icmp .ge 44, 3) := by decide +kernel
theorem dX5_partAll_13 : decode cX5_partAll 13 = .ok (.aload_n 0, 1) := by decide +kernel
theorem dX5_partAll_14 : decode cX5_partAll 14 = .ok (.getfield 21, 3) := by decide +kernel
theorem dX5_partAll_17 : decode cX5_partAll 17 = .ok (.getfield 38, 3) := by decide +kernel
theorem dX5_partAll_20 : decode cX5_partAll 20 = .ok (.iload_n 1, 1) := by decide +kernel
theorem dX5_partAll_21 : decode cX5_partAll 21 = .ok (.baload, 1) := by decide +kernel
theorem dX5_partAll_22 : decode cX5_partAll 22 = .ok (.ifCond .eq 21, 3) := by decide +kernel
theorem dX5_partAll_25 : decode cX5_partAll 25 = .ok (.aload_n 0, 1) := by decide +kernel
theorem dX5_partAll_26 : decode cX5_partAll 26 = .ok (.getfield 15, 3) := by decide +kernel
theorem dX5_partAll_29 : decode cX5_partAll 29 = .ok (.iload_n 1, 1) := by decide +kernel
theorem dX5_partAll_30 : decode cX5_partAll 30 = .ok (.dup2, 1) := by decide +kernel
theorem dX5_partAll_31 : decode cX5_partAll 31 = .ok (.iaload, 1) := by decide +kernel
theorem dX5_partAll_32 : decode cX5_partAll 32 = .ok (.aload_n 0, 1) := by decide +kernel
theorem dX5_partAll_33 : decode cX5_partAll 33 = .ok (.getfield 9, 3) := by decide +kernel
theorem dX5_partAll_36 : decode cX5_partAll 36 = .ok (.iload_n 1, 1) := by decide +kernel
theorem dX5_partAll_37 : decode cX5_partAll 37 = .ok (.iaload, 1) := by decide +kernel
theorem dX5_partAll_38 : decode cX5_partAll 38 = .ok (.iadd, 1) := by decide +kernel
theorem dX5_partAll_39 : decode cX5_partAll 39 = .ok (.iastore, 1) := by decide +kernel
theorem dX5_partAll_40 : decode cX5_partAll 40 = .ok (.goto 8, 3) := by decide +kernel
theorem dX5_partAll_43 : decode cX5_partAll 43 = .ok (.aload_n 0, 1) := by decide +kernel
theorem dX5_partAll_44 : decode cX5_partAll 44 = .ok (.iload_n 1, 1) := by decide +kernel
theorem dX5_partAll_45 : decode cX5_partAll 45 = .ok (.invokevirtual 42, 3) := by decide +kernel
theorem dX5_partAll_48 : decode cX5_partAll 48 = .ok (.iinc 1 1, 3) := by decide +kernel
theorem dX5_partAll_51 : decode cX5_partAll 51 = .ok (.goto (-49), 3) := by decide +kernel
theorem dX5_partAll_54 : decode cX5_partAll 54 = .ok (.return_, 1) := by decide +kernel
theorem dX5_part_0 : decode cX5_part 0 = .ok (.iconst 0, 1) := by decide +kernel
theorem dX5_part_1 : decode cX5_part 1 = .ok (.istore_n 2, 1) := by decide +kernel
theorem dX5_part_2 : decode cX5_part 2 = .ok (.iconst 0, 1) := by decide +kernel
theorem dX5_part_3 : decode cX5_part 3 = .ok (.istore_n 3, 1) := by decide +kernel
theorem dX5_part_4 : decode cX5_part 4 = .ok (.iconst 0, 1) := by decide +kernel
theorem dX5_part_5 : decode cX5_part 5 = .ok (.istore 4, 2) := by decide +kernel
theorem dX5_part_7 : decode cX5_part 7 = .ok (.iload 4, 2) := by decide +kernel
theorem dX5_part_9 : decode cX5_part 9 = .ok (.aload_n 0, 1) := by decide +kernel
theorem dX5_part_10 : decode cX5_part 10 = .ok (.getfield 21, 3) := by decide +kernel
theorem dX5_part_13 : decode cX5_part 13 = .ok (.getfield 25, 3) := by decide +kernel
theorem dX5_part_16 : decode cX5_part 16 = .ok (.if_icmp .ge 35, 3) := by decide +kernel
theorem dX5_part_19 : decode cX5_part 19 = .ok (.aload_n 0, 1) := by decide +kernel
theorem dX5_part_20 : decode cX5_part 20 = .ok (.getfield 21, 3) := by decide +kernel
theorem dX5_part_23 : decode cX5_part 23 = .ok (.iload 4, 2) := by decide +kernel
theorem dX5_part_25 : decode cX5_part 25 = .ok (.iload_n 1, 1) := by decide +kernel
theorem dX5_part_26 : decode cX5_part 26 = .ok (.invokevirtual 35, 3) := by decide +kernel
theorem dX5_part_29 : decode cX5_part 29 = .ok (.ifCond .eq 16, 3) := by decide +kernel
theorem dX5_part_32 : decode cX5_part 32 = .ok (.iload_n 2, 1) := by decide +kernel
theorem dX5_part_33 : decode cX5_part 33 = .ok (.aload_n 0, 1) := by decide +kernel
theorem dX5_part_34 : decode cX5_part 34 = .ok (.getfield 9, 3) := by decide +kernel
theorem dX5_part_37 : decode cX5_part 37 = .ok (.iload 4, 2) := by decide +kernel
theorem dX5_part_39 : decode cX5_part 39 = .ok (.iaload, 1) := by decide +kernel
theorem dX5_part_40 : decode cX5_part 40 = .ok (.iadd, 1) := by decide +kernel
theorem dX5_part_41 : decode cX5_part 41 = .ok (.istore_n 2, 1) := by decide +kernel
theorem dX5_part_42 : decode cX5_part 42 = .ok (.iinc 3 1, 3) := by decide +kernel
theorem dX5_part_45 : decode cX5_part 45 = .ok (.iinc 4 1, 3) := by decide +kernel
theorem dX5_part_48 : decode cX5_part 48 = .ok (.goto (-41), 3) := by decide +kernel
theorem dX5_part_51 : decode cX5_part 51 = .ok (.iload_n 2, 1) := by decide +kernel
theorem dX5_part_52 : decode cX5_part 52 = .ok (.ifCond .ne 7, 3) := by decide +kernel
theorem dX5_part_55 : decode cX5_part 55 = .ok (.iconst 1, 1) := by decide +kernel
theorem dX5_part_56 : decode cX5_part 56 = .ok (.goto 4, 3) := by decide +kernel
theorem dX5_part_59 : decode cX5_part 59 = .ok (.iconst 0, 1) := by decide +kernel
theorem dX5_part_60 : decode cX5_part 60 = .ok (.istore 4, 2) := by decide +kernel
theorem dX5_part_62 : decode cX5_part 62 = .ok (.iload 4, 2) := by decide +kernel
theorem dX5_part_64 : decode cX5_part 64 = .ok (.ifCond .eq 7, 3) := by decide +kernel
theorem dX5_part_67 : decode cX5_part 67 = .ok (.iload_n 3, 1) := by decide +kernel
theorem dX5_part_68 : decode cX5_part 68 = .ok (.goto 4, 3) := by decide +kernel
theorem dX5_part_71 : decode cX5_part 71 = .ok (.iload_n 2, 1) := by decide +kernel
theorem dX5_part_72 : decode cX5_part 72 = .ok (.istore 5, 2) := by decide +kernel
theorem dX5_part_74 : decode cX5_part 74 = .ok (.iload 5, 2) := by decide +kernel
theorem dX5_part_76 : decode cX5_part 76 = .ok (.ifCond .gt 4, 3) := by decide +kernel
theorem dX5_part_79 : decode cX5_part 79 = .ok (.return_, 1) := by decide +kernel
theorem dX5_part_80 : decode cX5_part 80 = .ok (.aload_n 0, 1) := by decide +kernel
theorem dX5_part_81 : decode cX5_part 81 = .ok (.getfield 9, 3) := by decide +kernel
theorem dX5_part_84 : decode cX5_part 84 = .ok (.iload_n 1, 1) := by decide +kernel
theorem dX5_part_85 : decode cX5_part 85 = .ok (.iaload, 1) := by decide +kernel
theorem dX5_part_86 : decode cX5_part 86 = .ok (.istore 6, 2) := by decide +kernel
theorem dX5_part_88 : decode cX5_part 88 = .ok (.iconst 0, 1) := by decide +kernel
theorem dX5_part_89 : decode cX5_part 89 = .ok (.istore 7, 2) := by decide +kernel
theorem dX5_part_91 : decode cX5_part 91 = .ok (.iload 7, 2) := by decide +kernel
theorem dX5_part_93 : decode cX5_part 93 = .ok (.aload_n 0, 1) := by decide +kernel
theorem dX5_part_94 : decode cX5_part 94 = .ok (.getfield 21, 3) := by decide +kernel
theorem dX5_part_97 : decode cX5_part 97 = .ok (.getfield 25, 3) := by decide +kernel
theorem dX5_part_100 : decode cX5_part 100 = .ok (.if_icmp .ge 92, 3) := by decide +kernel
theorem dX5_part_103 : decode cX5_part 103 = .ok (.aload_n 0, 1) := by decide +kernel
theorem dX5_part_104 : decode cX5_part 104 = .ok (.getfield 18, 3) := by decide +kernel
theorem dX5_part_107 : decode cX5_part 107 = .ok (.iload 7, 2) := by decide +kernel
theorem dX5_part_109 : decode cX5_part 109 = .ok (.iconst (-1), 1) := by decide +kernel
theorem dX5_part_110 : decode cX5_part 110 = .ok (.iastore, 1) := by decide +kernel
theorem dX5_part_111 : decode cX5_part 111 = .ok (.aload_n 0, 1) := by decide +kernel
theorem dX5_part_112 : decode cX5_part 112 = .ok (.getfield 21, 3) := by decide +kernel
theorem dX5_part_115 : decode cX5_part 115 = .ok (.iload 7, 2) := by decide +kernel
theorem dX5_part_117 : decode cX5_part 117 = .ok (.iload_n 1, 1) := by decide +kernel
theorem dX5_part_118 : decode cX5_part 118 = .ok (.invokevirtual 35, 3) := by decide +kernel
theorem dX5_part_121 : decode cX5_part 121 = .ok (.ifCond .eq 65, 3) := by decide +kernel
theorem dX5_part_124 : decode cX5_part 124 = .ok (.aload_n 0, 1) := by decide +kernel
theorem dX5_part_125 : decode cX5_part 125 = .ok (.getfield 9, 3) := by decide +kernel
theorem dX5_part_128 : decode cX5_part 128 = .ok (.iload_n 1, 1) := by decide +kernel
theorem dX5_part_129 : decode cX5_part 129 = .ok (.iaload, 1) := by decide +kernel
theorem dX5_part_130 : decode cX5_part 130 = .ok (.iload 4, 2) := by decide +kernel
theorem dX5_part_132 : decode cX5_part 132 = .ok (.ifCond .eq 7, 3) := by decide +kernel
theorem dX5_part_135 : decode cX5_part 135 = .ok (.iconst 1, 1) := by decide +kernel
theorem dX5_part_136 : decode cX5_part 136 = .ok (.goto 10, 3) := by decide +kernel
theorem dX5_part_139 : decode cX5_part 139 = .ok (.aload_n 0, 1) := by decide +kernel
theorem dX5_part_140 : decode cX5_part 140 = .ok (.getfield 9, 3) := by decide +kernel
theorem dX5_part_143 : decode cX5_part 143 = .ok (.iload 7, 2) := by decide +kernel
theorem dX5_part_145 : decode cX5_part 145 = .ok (.iaload, 1) := by decide +kernel
theorem dX5_part_146 : decode cX5_part 146 = .ok (.imul, 1) := by decide +kernel
theorem dX5_part_147 : decode cX5_part 147 = .ok (.istore 8, 2) := by decide +kernel
theorem dX5_part_149 : decode cX5_part 149 = .ok (.aload_n 0, 1) := by decide +kernel
theorem dX5_part_150 : decode cX5_part 150 = .ok (.getfield 15, 3) := by decide +kernel
theorem dX5_part_153 : decode cX5_part 153 = .ok (.iload 7, 2) := by decide +kernel
theorem dX5_part_155 : decode cX5_part 155 = .ok (.dup2, 1) := by decide +kernel
theorem dX5_part_156 : decode cX5_part 156 = .ok (.iaload, 1) := by decide +kernel
theorem dX5_part_157 : decode cX5_part 157 = .ok (.iload 8, 2) := by decide +kernel
theorem dX5_part_159 : decode cX5_part 159 = .ok (.iload 5, 2) := by decide +kernel
theorem dX5_part_161 : decode cX5_part 161 = .ok (.idiv, 1) := by decide +kernel
theorem dX5_part_162 : decode cX5_part 162 = .ok (.iadd, 1) := by decide +kernel
theorem dX5_part_163 : decode cX5_part 163 = .ok (.iastore, 1) := by decide +kernel
theorem dX5_part_164 : decode cX5_part 164 = .ok (.iload 6, 2) := by decide +kernel
theorem dX5_part_166 : decode cX5_part 166 = .ok (.iload 8, 2) := by decide +kernel
theorem dX5_part_168 : decode cX5_part 168 = .ok (.iload 5, 2) := by decide +kernel
theorem dX5_part_170 : decode cX5_part 170 = .ok (.idiv, 1) := by decide +kernel
theorem dX5_part_171 : decode cX5_part 171 = .ok (.isub, 1) := by decide +kernel
theorem dX5_part_172 : decode cX5_part 172 = .ok (.istore 6, 2) := by decide +kernel
theorem dX5_part_174 : decode cX5_part 174 = .ok (.aload_n 0, 1) := by decide +kernel
theorem dX5_part_175 : decode cX5_part 175 = .ok (.getfield 18, 3) := by decide +kernel
theorem dX5_part_178 : decode cX5_part 178 = .ok (.iload 7, 2) := by decide +kernel
theorem dX5_part_180 : decode cX5_part 180 = .ok (.iload 8, 2) := by decide +kernel
theorem dX5_part_182 : decode cX5_part 182 = .ok (.iload 5, 2) := by decide +kernel
theorem dX5_part_184 : decode cX5_part 184 = .ok (.irem, 1) := by decide +kernel
theorem dX5_part_185 : decode cX5_part 185 = .ok (.iastore, 1) := by decide +kernel
theorem dX5_part_186 : decode cX5_part 186 = .ok (.iinc 7 1, 3) := by decide +kernel
theorem dX5_part_189 : decode cX5_part 189 = .ok (.goto (-98), 3) := by decide +kernel
theorem dX5_part_192 : decode cX5_part 192 = .ok (.iconst 0, 1) := by decide +kernel
theorem dX5_part_193 : decode cX5_part 193 = .ok (.istore 7, 2) := by decide +kernel
theorem dX5_part_195 : decode cX5_part 195 = .ok (.iload 7, 2) := by decide +kernel
theorem dX5_part_197 : decode cX5_part 197 = .ok (.iload 6, 2) := by decide +kernel
theorem dX5_part_199 : decode cX5_part 199 = .ok (.if_icmp .ge 13, 3) := by decide +kernel
theorem dX5_part_202 : decode cX5_part 202 = .ok (.aload_n 0, 1) := by decide +kernel
theorem dX5_part_203 : decode cX5_part 203 = .ok (.invokevirtual 46, 3) := by decide +kernel
theorem dX5_part_206 : decode cX5_part 206 = .ok (.iinc 7 1, 3) := by decide +kernel
theorem dX5_part_209 : decode cX5_part 209 = .ok (.goto (-14), 3) := by decide +kernel
theorem dX5_part_212 : decode cX5_part 212 = .ok (.return_, 1) := by decide +kernel
theorem dX5_giveToGreatestRest_0 : decode cX5_giveToGreatestRest 0 = .ok (.iconst 0, 1) := by decide +kernel
theorem dX5_giveToGreatestRest_1 : decode cX5_giveToGreatestRest 1 = .ok (.istore_n 1, 1) := by decide +kernel
theorem dX5_giveToGreatestRest_2 : decode cX5_giveToGreatestRest 2 = .ok (.iconst 1, 1) := by decide +kernel
theorem dX5_giveToGreatestRest_3 : decode cX5_giveToGreatestRest 3 = .ok (.istore_n 2, 1) := by decide +kernel
theorem dX5_giveToGreatestRest_4 : decode cX5_giveToGreatestRest 4 = .ok (.iload_n 2, 1) := by decide +kernel
theorem dX5_giveToGreatestRest_5 : decode cX5_giveToGreatestRest 5 = .ok (.aload_n 0, 1) := by decide +kernel
theorem dX5_giveToGreatestRest_6 : decode cX5_giveToGreatestRest 6 = .ok (.getfield 21, 3) := by decide +kernel
theorem dX5_giveToGreatestRest_9 : decode cX5_giveToGreatestRest 9 = .ok (.getfield 25, 3) := by decide +kernel
theorem dX5_giveToGreatestRest_12 : decode cX5_giveToGreatestRest 12 = .ok (.if_icmp .ge 26, 3) := by decide +kernel
theorem dX5_giveToGreatestRest_15 : decode cX5_giveToGreatestRest 15 = .ok (.aload_n 0, 1) := by decide +kernel
theorem dX5_giveToGreatestRest_16 : decode cX5_giveToGreatestRest 16 = .ok (.getfield 18, 3) := by decide +kernel
theorem dX5_giveToGreatestRest_19 : decode cX5_giveToGreatestRest 19 = .ok (.iload_n 2, 1) := by decide +kernel
theorem dX5_giveToGreatestRest_20 : decode cX5_giveToGreatestRest 20 = .ok (.iaload, 1) := by decide +kernel
theorem dX5_giveToGreatestRest_21 : decode cX5_giveToGreatestRest 21 = .ok (.aload_n 0, 1) := by decide +kernel
theorem dX5_giveToGreatestRest_22 : decode cX5_giveToGreatestRest 22 = .ok (.getfield 18, 3) := by decide +kernel
theorem dX5_giveToGreatestRest_25 : decode cX5_giveToGreatestRest 25 = .ok (.iload_n 1, 1) := by decide +kernel
theorem dX5_giveToGreatestRest_26 : decode cX5_giveToGreatestRest 26 = .ok (.iaload, 1) := by decide +kernel
theorem dX5_giveToGreatestRest_27 : decode cX5_giveToGreatestRest 27 = .ok (.if_icmp .le 5, 3) := by decide +kernel
theorem dX5_giveToGreatestRest_30 : decode cX5_giveToGreatestRest 30 = .ok (.iload_n 2, 1) := by decide +kernel
theorem dX5_giveToGreatestRest_31 : decode cX5_giveToGreatestRest 31 = .ok (.istore_n 1, 1) := by decide +kernel
theorem dX5_giveToGreatestRest_32 : decode cX5_giveToGreatestRest 32 = .ok (.iinc 2 1, 3) := by decide +kernel
theorem dX5_giveToGreatestRest_35 : decode cX5_giveToGreatestRest 35 = .ok (.goto (-31), 3) := by decide +kernel
theorem dX5_giveToGreatestRest_38 : decode cX5_giveToGreatestRest 38 = .ok (.aload_n 0, 1) := by decide +kernel
theorem dX5_giveToGreatestRest_39 : decode cX5_giveToGreatestRest 39 = .ok (.getfield 15, 3) := by decide +kernel
theorem dX5_giveToGreatestRest_42 : decode cX5_giveToGreatestRest 42 = .ok (.iload_n 1, 1) := by decide +kernel
theorem dX5_giveToGreatestRest_43 : decode cX5_giveToGreatestRest 43 = .ok (.dup2, 1) := by decide +kernel
theorem dX5_giveToGreatestRest_44 : decode cX5_giveToGreatestRest 44 = .ok (.iaload, 1) := by decide +kernel
theorem dX5_giveToGreatestRest_45 : decode cX5_giveToGreatestRest 45 = .ok (.iconst 1, 1) := by decide +kernel
theorem dX5_giveToGreatestRest_46 : decode cX5_giveToGreatestRest 46 = .ok (.iadd, 1) := by decide +kernel
theorem dX5_giveToGreatestRest_47 : decode cX5_giveToGreatestRest 47 = .ok (.iastore, 1) := by decide +kernel
theorem dX5_giveToGreatestRest_48 : decode cX5_giveToGreatestRest 48 = .ok (.aload_n 0, 1) := by decide +kernel
theorem dX5_giveToGreatestRest_49 : decode cX5_giveToGreatestRest 49 = .ok (.getfield 18, 3) := by decide +kernel
theorem dX5_giveToGreatestRest_52 : decode cX5_giveToGreatestRest 52 = .ok (.iload_n 1, 1) := by decide +kernel
theorem dX5_giveToGreatestRest_53 : decode cX5_giveToGreatestRest 53 = .ok (.iconst (-1), 1) := by decide +kernel
theorem dX5_giveToGreatestRest_54 : decode cX5_giveToGreatestRest 54 = .ok (.iastore, 1) := by decide +kernel
theorem dX5_giveToGreatestRest_55 : decode cX5_giveToGreatestRest 55 = .ok (.return_, 1) := by decide +kernel
theorem dX6_init_0 : decode cX6_init 0 = .ok (.aload_n 0, 1) := by decide +kernel
theorem dX6_init_1 : decode cX6_init 1 = .ok (.invokespecial 3, 3) := by decide +kernel
theorem dX6_init_4 : decode cX6_init 4 = .ok (.aload_n 0, 1) := by decide +kernel
theorem dX6_init_5 : decode cX6_init 5 = .ok (.iconst 4, 1) := by decide +kernel
theorem dX6_init_6 : decode cX6_init 6 = .ok (.newarray .int, 2) := by decide +kernel
theorem dX6_init_8 : decode cX6_init 8 = .ok (.putfield 9, 3) := by decide +kernel
theorem dX6_init_11 : decode cX6_init 11 = .ok (.aload_n 0, 1) := by decide +kernel
theorem dX6_init_12 : decode cX6_init 12 = .ok (.iconst 0, 1) := by decide +kernel
theorem dX6_init_13 : decode cX6_init 13 = .ok (.putfield 15, 3) := by decide +kernel
theorem dX6_init_16 : decode cX6_init 16 = .ok (.return_, 1) := by decide +kernel
theorem dX6_has_0 : decode cX6_has 0 = .ok (.iload_n 1, 1) := by decide +kernel
theorem dX6_has_1 : decode cX6_has 1 = .ok (.ifCond .lt 15, 3) := by decide +kernel
theorem dX6_has_4 : decode cX6_has 4 = .ok (.iload_n 1, 1) := by decide +kernel
theorem dX6_has_5 : decode cX6_has 5 = .ok (.aload_n 0, 1) := by decide +kernel
theorem dX6_has_6 : decode cX6_has 6 = .ok (.getfield 15, 3) := by decide +kernel
theorem dX6_has_9 : decode cX6_has 9 = .ok (.if_icmp .ge 7, 3) := by decide +kernel
theorem dX6_has_12 : decode cX6_has 12 = .ok (.iconst 1, 1) := by decide +kernel
theorem dX6_has_13 : decode cX6_has 13 = .ok (.goto 4, 3) := by decide +kernel
theorem dX6_has_16 : decode cX6_has 16 = .ok (.iconst 0, 1) := by decide +kernel
theorem dX6_has_17 : decode cX6_has 17 = .ok (.ireturn, 1) := by decide +kernel
theorem dX6_add_0 : decode cX6_add 0 = .ok (.aload_n 0, 1) := by decide +kernel
theorem dX6_add_1 : decode cX6_add 1 = .ok (.getfield 15, 3) := by decide +kernel
theorem dX6_add_4 : decode cX6_add 4 = .ok (.iconst 4, 1) := by decide +kernel
theorem dX6_add_5 : decode cX6_add 5 = .ok (.if_icmp .ge 14, 3) := by decide +kernel
theorem dX6_add_8 : decode cX6_add 8 = .ok (.iload_n 1, 1) := by decide +kernel
theorem dX6_add_9 : decode cX6_add 9 = .ok (.ifCond .lt 10, 3) := by decide +kernel
theorem dX6_add_12 : decode cX6_add 12 = .ok (.iload_n 1, 1) := by decide +kernel
theorem dX6_add_13 : decode cX6_add 13 = .ok (.sipush 400, 3) := by decide +kernel
theorem dX6_add_16 : decode cX6_add 16 = .ok (.if_icmp .le 5, 3) := by decide +kernel
theorem dX6_add_19 : decode cX6_add 19 = .ok (.iconst (-1), 1) := by decide +kernel
theorem dX6_add_20 : decode cX6_add 20 = .ok (.ireturn, 1) := by decide +kernel
theorem dX6_add_21 : decode cX6_add 21 = .ok (.aload_n 0, 1) := by decide +kernel
theorem dX6_add_22 : decode cX6_add 22 = .ok (.getfield 15, 3) := by decide +kernel
theorem dX6_add_25 : decode cX6_add 25 = .ok (.ifCond .le 20, 3) := by decide +kernel
theorem dX6_add_28 : decode cX6_add 28 = .ok (.iload_n 1, 1) := by decide +kernel
theorem dX6_add_29 : decode cX6_add 29 = .ok (.aload_n 0, 1) := by decide +kernel
theorem dX6_add_30 : decode cX6_add 30 = .ok (.getfield 9, 3) := by decide +kernel
theorem dX6_add_33 : decode cX6_add 33 = .ok (.aload_n 0, 1) := by decide +kernel
theorem dX6_add_34 : decode cX6_add 34 = .ok (.getfield 15, 3) := by decide +kernel
theorem dX6_add_37 : decode cX6_add 37 = .ok (.iconst 1, 1) := by decide +kernel
theorem dX6_add_38 : decode cX6_add 38 = .ok (.isub, 1) := by decide +kernel
theorem dX6_add_39 : decode cX6_add 39 = .ok (.iaload, 1) := by decide +kernel
theorem dX6_add_40 : decode cX6_add 40 = .ok (.if_icmp .gt 5, 3) := by decide +kernel
theorem dX6_add_43 : decode cX6_add 43 = .ok (.iconst (-1), 1) := by decide +kernel
theorem dX6_add_44 : decode cX6_add 44 = .ok (.ireturn, 1) := by decide +kernel
theorem dX6_add_45 : decode cX6_add 45 = .ok (.aload_n 0, 1) := by decide +kernel
theorem dX6_add_46 : decode cX6_add 46 = .ok (.getfield 9, 3) := by decide +kernel
theorem dX6_add_49 : decode cX6_add 49 = .ok (.aload_n 0, 1) := by decide +kernel
theorem dX6_add_50 : decode cX6_add 50 = .ok (.getfield 15, 3) := by decide +kernel
theorem dX6_add_53 : decode cX6_add 53 = .ok (.iload_n 1, 1) := by decide +kernel
theorem dX6_add_54 : decode cX6_add 54 = .ok (.iastore, 1) := by decide +kernel
theorem dX6_add_55 : decode cX6_add 55 = .ok (.aload_n 0, 1) := by decide +kernel
theorem dX6_add_56 : decode cX6_add 56 = .ok (.dup, 1) := by decide +kernel
theorem dX6_add_57 : decode cX6_add 57 = .ok (.getfield 15, 3) := by decide +kernel
theorem dX6_add_60 : decode cX6_add 60 = .ok (.iconst 1, 1) := by decide +kernel
theorem dX6_add_61 : decode cX6_add 61 = .ok (.iadd, 1) := by decide +kernel
theorem dX6_add_62 : decode cX6_add 62 = .ok (.putfield 15, 3) := by decide +kernel
theorem dX6_add_65 : decode cX6_add 65 = .ok (.aload_n 0, 1) := by decide +kernel
theorem dX6_add_66 : decode cX6_add 66 = .ok (.getfield 15, 3) := by decide +kernel
theorem dX6_add_69 : decode cX6_add 69 = .ok (.iconst 1, 1) := by decide +kernel
theorem dX6_add_70 : decode cX6_add 70 = .ok (.isub, 1) := by decide +kernel
theorem dX6_add_71 : decode cX6_add 71 = .ok (.ireturn, 1) := by decide +kernel
theorem dX6_wayToNext_0 : decode cX6_wayToNext 0 = .ok (.iload_n 1, 1) := by decide +kernel
theorem dX6_wayToNext_1 : decode cX6_wayToNext 1 = .ok (.ifCond .lt 13, 3) := by decide +kernel
theorem dX6_wayToNext_4 : decode cX6_wayToNext 4 = .ok (.iload_n 1, 1) := by decide +kernel
theorem dX6_wayToNext_5 : decode cX6_wayToNext 5 = .ok (.iconst 1, 1) := by decide +kernel
theorem dX6_wayToNext_6 : decode cX6_wayToNext 6 = .ok (.iadd, 1) := by decide +kernel
theorem dX6_wayToNext_7 : decode cX6_wayToNext 7 = .ok (.aload_n 0, 1) := by decide +kernel
theorem dX6_wayToNext_8 : decode cX6_wayToNext 8 = .ok (.getfield 15, 3) := by decide +kernel
theorem dX6_wayToNext_11 : decode cX6_wayToNext 11 = .ok (.if_icmp .lt 5, 3) := by decide +kernel
theorem dX6_wayToNext_14 : decode cX6_wayToNext 14 = .ok (.iconst 0, 1) := by decide +kernel
theorem dX6_wayToNext_15 : decode cX6_wayToNext 15 = .ok (.ireturn, 1) := by decide +kernel
theorem dX6_wayToNext_16 : decode cX6_wayToNext 16 = .ok (.aload_n 0, 1) := by decide +kernel
theorem dX6_wayToNext_17 : decode cX6_wayToNext 17 = .ok (.getfield 9, 3) := by decide +kernel
theorem dX6_wayToNext_20 : decode cX6_wayToNext 20 = .ok (.iload_n 1, 1) := by decide +kernel
theorem dX6_wayToNext_21 : decode cX6_wayToNext 21 = .ok (.iconst 1, 1) := by decide +kernel
theorem dX6_wayToNext_22 : decode cX6_wayToNext 22 = .ok (.iadd, 1) := by decide +kernel
theorem dX6_wayToNext_23 : decode cX6_wayToNext 23 = .ok (.iaload, 1) := by decide +kernel
theorem dX6_wayToNext_24 : decode cX6_wayToNext 24 = .ok (.aload_n 0, 1) := by decide +kernel
theorem dX6_wayToNext_25 : decode cX6_wayToNext 25 = .ok (.getfield 9, 3) := by decide +kernel
theorem dX6_wayToNext_28 : decode cX6_wayToNext 28 = .ok (.iload_n 1, 1) := by decide +kernel
theorem dX6_wayToNext_29 : decode cX6_wayToNext 29 = .ok (.iaload, 1) := by decide +kernel
theorem dX6_wayToNext_30 : decode cX6_wayToNext 30 = .ok (.isub, 1) := by decide +kernel
theorem dX6_wayToNext_31 : decode cX6_wayToNext 31 = .ok (.ireturn, 1) := by decide +kernel
theorem dX7_init_0 : decode cX7_init 0 = .ok (.aload_n 0, 1) := by decide +kernel
theorem dX7_init_1 : decode cX7_init 1 = .ok (.invokespecial 3, 3) := by decide +kernel
theorem dX7_init_4 : decode cX7_init 4 = .ok (.aload_n 0, 1) := by decide +kernel
theorem dX7_init_5 : decode cX7_init 5 = .ok (.sipush 180, 3) := by decide +kernel
theorem dX7_init_8 : decode cX7_init 8 = .ok (.newarray .int, 2) := by decide +kernel
theorem dX7_init_10 : decode cX7_init 10 = .ok (.putfield 9, 3) := by decide +kernel
theorem dX7_init_13 : decode cX7_init 13 = .ok (.aload_n 0, 1) := by decide +kernel
theorem dX7_init_14 : decode cX7_init 14 = .ok (.sipush 180, 3) := by decide +kernel
theorem dX7_init_17 : decode cX7_init 17 = .ok (.newarray .int, 2) := by decide +kernel
theorem dX7_init_19 : decode cX7_init 19 = .ok (.putfield 15, 3) := by decide +kernel
theorem dX7_init_22 : decode cX7_init 22 = .ok (.return_, 1) := by decide +kernel
theorem dX7_isOff_0 : decode cX7_isOff 0 = .ok (.aload_n 0, 1) := by decide +kernel
theorem dX7_isOff_1 : decode cX7_isOff 1 = .ok (.getfield 15, 3) := by decide +kernel
theorem dX7_isOff_4 : decode cX7_isOff 4 = .ok (.iload_n 1, 1) := by decide +kernel
theorem dX7_isOff_5 : decode cX7_isOff 5 = .ok (.iaload, 1) := by decide +kernel
theorem dX7_isOff_6 : decode cX7_isOff 6 = .ok (.iconst 1, 1) := by decide +kernel
theorem dX7_isOff_7 : decode cX7_isOff 7 = .ok (.iload_n 2, 1) := by decide +kernel
theorem dX7_isOff_8 : decode cX7_isOff 8 = .ok (.ishl, 1) := by decide +kernel
theorem dX7_isOff_9 : decode cX7_isOff 9 = .ok (.iand, 1) := by decide +kernel
theorem dX7_isOff_10 : decode cX7_isOff 10 = .ok (.ifCond .eq 7, 3) := by decide +kernel
theorem dX7_isOff_13 : decode cX7_isOff 13 = .ok (.iconst 1, 1) := by decide +kernel
theorem dX7_isOff_14 : decode cX7_isOff 14 = .ok (.goto 4, 3) := by decide +kernel
theorem dX7_isOff_17 : decode cX7_isOff 17 = .ok (.iconst 0, 1) := by decide +kernel
theorem dX7_isOff_18 : decode cX7_isOff 18 = .ok (.ireturn, 1) := by decide +kernel
theorem dX7_turn_0 : decode cX7_turn 0 = .ok (.aload_n 0, 1) := by decide +kernel
theorem dX7_turn_1 : decode cX7_turn 1 = .ok (.getfield 15, 3) := by decide +kernel
theorem dX7_turn_4 : decode cX7_turn 4 = .ok (.iload_n 1, 1) := by decide +kernel
theorem dX7_turn_5 : decode cX7_turn 5 = .ok (.dup2, 1) := by decide +kernel
theorem dX7_turn_6 : decode cX7_turn 6 = .ok (.iaload, 1) := by decide +kernel
theorem dX7_turn_7 : decode cX7_turn 7 = .ok (.iconst 1, 1) := by decide +kernel
theorem dX7_turn_8 : decode cX7_turn 8 = .ok (.iload_n 2, 1) := by decide +kernel
theorem dX7_turn_9 : decode cX7_turn 9 = .ok (.ishl, 1) := by decide +kernel
theorem dX7_turn_10 : decode cX7_turn 10 = .ok (.ixor, 1) := by decide +kernel
theorem dX7_turn_11 : decode cX7_turn 11 = .ok (.iastore, 1) := by decide +kernel
theorem dX7_turn_12 : decode cX7_turn 12 = .ok (.return_, 1) := by decide +kernel
theorem dX7_hoursOff_0 : decode cX7_hoursOff 0 = .ok (.iconst 0, 1) := by decide +kernel
theorem dX7_hoursOff_1 : decode cX7_hoursOff 1 = .ok (.istore_n 2, 1) := by decide +kernel
theorem dX7_hoursOff_2 : decode cX7_hoursOff 2 = .ok (.iconst 0, 1) := by decide +kernel
theorem dX7_hoursOff_3 : decode cX7_hoursOff 3 = .ok (.istore_n 3, 1) := by decide +kernel
theorem dX7_hoursOff_4 : decode cX7_hoursOff 4 = .ok (.iload_n 3, 1) := by decide +kernel
theorem dX7_hoursOff_5 : decode cX7_hoursOff 5 = .ok (.bipush 30, 2) := by decide +kernel
theorem dX7_hoursOff_7 : decode cX7_hoursOff 7 = .ok (.if_icmp .ge 25, 3) := by decide +kernel
theorem dX7_hoursOff_10 : decode cX7_hoursOff 10 = .ok (.iload_n 2, 1) := by decide +kernel
theorem dX7_hoursOff_11 : decode cX7_hoursOff 11 = .ok (.aload_n 0, 1) := by decide +kernel
theorem dX7_hoursOff_12 : decode cX7_hoursOff 12 = .ok (.getfield 15, 3) := by decide +kernel
theorem dX7_hoursOff_15 : decode cX7_hoursOff 15 = .ok (.iload_n 1, 1) := by decide +kernel
theorem dX7_hoursOff_16 : decode cX7_hoursOff 16 = .ok (.iload_n 3, 1) := by decide +kernel
theorem dX7_hoursOff_17 : decode cX7_hoursOff 17 = .ok (.invokestatic 18, 3) := by decide +kernel
theorem dX7_hoursOff_20 : decode cX7_hoursOff 20 = .ok (.iaload, 1) := by decide +kernel
theorem dX7_hoursOff_21 : decode cX7_hoursOff 21 = .ok (.invokestatic 22, 3) := by decide +kernel
theorem dX7_hoursOff_24 : decode cX7_hoursOff 24 = .ok (.iadd, 1) := by decide +kernel
theorem dX7_hoursOff_25 : decode cX7_hoursOff 25 = .ok (.istore_n 2, 1) := by decide +kernel
theorem dX7_hoursOff_26 : decode cX7_hoursOff 26 = .ok (.iinc 3 1, 3) := by decide +kernel
theorem dX7_hoursOff_29 : decode cX7_hoursOff 29 = .ok (.goto (-25), 3) := by decide +kernel
theorem dX7_hoursOff_32 : decode cX7_hoursOff 32 = .ok (.iload_n 2, 1) := by decide +kernel
theorem dX7_hoursOff_33 : decode cX7_hoursOff 33 = .ok (.ireturn, 1) := by decide +kernel
theorem dX7_addHours_0 : decode cX7_addHours 0 = .ok (.iconst 0, 1) := by decide +kernel
theorem dX7_addHours_1 : decode cX7_addHours 1 = .ok (.istore 4, 2) := by decide +kernel
theorem dX7_addHours_3 : decode cX7_addHours 3 = .ok (.iload 4, 2) := by decide +kernel
theorem dX7_addHours_5 : decode cX7_addHours 5 = .ok (.bipush 30, 2) := by decide +kernel
theorem dX7_addHours_7 : decode cX7_addHours 7 = .ok (.if_icmp .ge 60, 3) := by decide +kernel
theorem dX7_addHours_10 : decode cX7_addHours 10 = .ok (.iload_n 1, 1) := by decide +kernel
theorem dX7_addHours_11 : decode cX7_addHours 11 = .ok (.iload 4, 2) := by decide +kernel
theorem dX7_addHours_13 : decode cX7_addHours 13 = .ok (.invokestatic 18, 3) := by decide +kernel
theorem dX7_addHours_16 : decode cX7_addHours 16 = .ok (.istore 5, 2) := by decide +kernel
theorem dX7_addHours_18 : decode cX7_addHours 18 = .ok (.aload_n 0, 1) := by decide +kernel
theorem dX7_addHours_19 : decode cX7_addHours 19 = .ok (.getfield 15, 3) := by decide +kernel
theorem dX7_addHours_22 : decode cX7_addHours 22 = .ok (.iload 5, 2) := by decide +kernel
theorem dX7_addHours_24 : decode cX7_addHours 24 = .ok (.iaload, 1) := by decide +kernel
theorem dX7_addHours_25 : decode cX7_addHours 25 = .ok (.invokestatic 22, 3) := by decide +kernel
theorem dX7_addHours_28 : decode cX7_addHours 28 = .ok (.istore 6, 2) := by decide +kernel
theorem dX7_addHours_30 : decode cX7_addHours 30 = .ok (.aload_n 3, 1) := by decide +kernel
theorem dX7_addHours_31 : decode cX7_addHours 31 = .ok (.aload_n 0, 1) := by decide +kernel
theorem dX7_addHours_32 : decode cX7_addHours 32 = .ok (.getfield 9, 3) := by decide +kernel
theorem dX7_addHours_35 : decode cX7_addHours 35 = .ok (.iload 5, 2) := by decide +kernel
theorem dX7_addHours_37 : decode cX7_addHours 37 = .ok (.iaload, 1) := by decide +kernel
theorem dX7_addHours_38 : decode cX7_addHours 38 = .ok (.dup2, 1) := by decide +kernel
theorem dX7_addHours_39 : decode cX7_addHours 39 = .ok (.iaload, 1) := by decide +kernel
theorem dX7_addHours_40 : decode cX7_addHours 40 = .ok (.iload 6, 2) := by decide +kernel
theorem dX7_addHours_42 : decode cX7_addHours 42 = .ok (.iadd, 1) := by decide +kernel
theorem dX7_addHours_43 : decode cX7_addHours 43 = .ok (.iastore, 1) := by decide +kernel
theorem dX7_addHours_44 : decode cX7_addHours 44 = .ok (.aload_n 2, 1) := by decide +kernel
theorem dX7_addHours_45 : decode cX7_addHours 45 = .ok (.aload_n 0, 1) := by decide +kernel
theorem dX7_addHours_46 : decode cX7_addHours 46 = .ok (.getfield 9, 3) := by decide +kernel
theorem dX7_addHours_49 : decode cX7_addHours 49 = .ok (.iload 5, 2) := by decide +kernel
theorem dX7_addHours_51 : decode cX7_addHours 51 = .ok (.iaload, 1) := by decide +kernel
theorem dX7_addHours_52 : decode cX7_addHours 52 = .ok (.dup2, 1) := by decide +kernel
theorem dX7_addHours_53 : decode cX7_addHours 53 = .ok (.iaload, 1) := by decide +kernel
theorem dX7_addHours_54 : decode cX7_addHours 54 = .ok (.bipush 10, 2) := by decide +kernel
theorem dX7_addHours_56 : decode cX7_addHours 56 = .ok (.iload 6, 2) := by decide +kernel
theorem dX7_addHours_58 : decode cX7_addHours 58 = .ok (.isub, 1) := by decide +kernel
theorem dX7_addHours_59 : decode cX7_addHours 59 = .ok (.iadd, 1) := by decide +kernel
theorem dX7_addHours_60 : decode cX7_addHours 60 = .ok (.iastore, 1) := by decide +kernel
theorem dX7_addHours_61 : decode cX7_addHours 61 = .ok (.iinc 4 1, 3) := by decide +kernel
theorem dX7_addHours_64 : decode cX7_addHours 64 = .ok (.goto (-61), 3) := by decide +kernel
theorem dX7_addHours_67 : decode cX7_addHours 67 = .ok (.return_, 1) := by decide +kernel
theorem dX8_init_0 : decode cX8_init 0 = .ok (.aload_n 0, 1) := by decide +kernel
theorem dX8_init_1 : decode cX8_init 1 = .ok (.invokespecial 1, 3) := by decide +kernel
theorem dX8_init_4 : decode cX8_init 4 = .ok (.aload_n 0, 1) := by decide +kernel
theorem dX8_init_5 : decode cX8_init 5 = .ok (.new 7, 3) := by decide +kernel
theorem dX8_init_8 : decode cX8_init 8 = .ok (.dup, 1) := by decide +kernel
theorem dX8_init_9 : decode cX8_init 9 = .ok (.invokespecial 9, 3) := by decide +kernel
theorem dX8_init_12 : decode cX8_init 12 = .ok (.putfield 10, 3) := by decide +kernel
theorem dX8_init_15 : decode cX8_init 15 = .ok (.aload_n 0, 1) := by decide +kernel
theorem dX8_init_16 : decode cX8_init 16 = .ok (.new 16, 3) := by decide +kernel
theorem dX8_init_19 : decode cX8_init 19 = .ok (.dup, 1) := by decide +kernel
theorem dX8_init_20 : decode cX8_init 20 = .ok (.invokespecial 18, 3) := by decide +kernel
theorem dX8_init_23 : decode cX8_init 23 = .ok (.putfield 19, 3) := by decide +kernel
theorem dX8_init_26 : decode cX8_init 26 = .ok (.aload_n 0, 1) := by decide +kernel
theorem dX8_init_27 : decode cX8_init 27 = .ok (.new 23, 3) := by decide +kernel
theorem dX8_init_30 : decode cX8_init 30 = .ok (.dup, 1) := by decide +kernel
theorem dX8_init_31 : decode cX8_init 31 = .ok (.invokespecial 25, 3) := by decide +kernel
theorem dX8_init_34 : decode cX8_init 34 = .ok (.putfield 26, 3) := by decide +kernel
theorem dX8_init_37 : decode cX8_init 37 = .ok (.aload_n 0, 1) := by decide +kernel
theorem dX8_init_38 : decode cX8_init 38 = .ok (.new 30, 3) := by decide +kernel
theorem dX8_init_41 : decode cX8_init 41 = .ok (.dup, 1) := by decide +kernel
theorem dX8_init_42 : decode cX8_init 42 = .ok (.invokespecial 32, 3) := by decide +kernel
theorem dX8_init_45 : decode cX8_init 45 = .ok (.putfield 33, 3) := by decide +kernel
theorem dX8_init_48 : decode cX8_init 48 = .ok (.aload_n 0, 1) := by decide +kernel
theorem dX8_init_49 : decode cX8_init 49 = .ok (.new 37, 3) := by decide +kernel
theorem dX8_init_52 : decode cX8_init 52 = .ok (.dup, 1) := by decide +kernel
theorem dX8_init_53 : decode cX8_init 53 = .ok (.aload_n 0, 1) := by decide +kernel
theorem dX8_init_54 : decode cX8_init 54 = .ok (.getfield 10, 3) := by decide +kernel
theorem dX8_init_57 : decode cX8_init 57 = .ok (.aload_n 0, 1) := by decide +kernel
theorem dX8_init_58 : decode cX8_init 58 = .ok (.getfield 19, 3) := by decide +kernel
theorem dX8_init_61 : decode cX8_init 61 = .ok (.aload_n 0, 1) := by decide +kernel
theorem dX8_init_62 : decode cX8_init 62 = .ok (.getfield 33, 3) := by decide +kernel
theorem dX8_init_65 : decode cX8_init 65 = .ok (.invokespecial 39, 3) := by decide +kernel
theorem dX8_init_68 : decode cX8_init 68 = .ok (.putfield 42, 3) := by decide +kernel
theorem dX8_init_71 : decode cX8_init 71 = .ok (.aload_n 0, 1) := by decide +kernel
theorem dX8_init_72 : decode cX8_init 72 = .ok (.new 46, 3) := by decide +kernel
theorem dX8_init_75 : decode cX8_init 75 = .ok (.dup, 1) := by decide +kernel
theorem dX8_init_76 : decode cX8_init 76 = .ok (.aload_n 0, 1) := by decide +kernel
theorem dX8_init_77 : decode cX8_init 77 = .ok (.getfield 19, 3) := by decide +kernel
theorem dX8_init_80 : decode cX8_init 80 = .ok (.invokespecial 48, 3) := by decide +kernel
theorem dX8_init_83 : decode cX8_init 83 = .ok (.putfield 51, 3) := by decide +kernel
theorem dX8_init_86 : decode cX8_init 86 = .ok (.aload_n 0, 1) := by decide +kernel
theorem dX8_init_87 : decode cX8_init 87 = .ok (.new 55, 3) := by decide +kernel
theorem dX8_init_90 : decode cX8_init 90 = .ok (.dup, 1) := by decide +kernel
theorem dX8_init_91 : decode cX8_init 91 = .ok (.invokespecial 57, 3) := by decide +kernel
theorem dX8_init_94 : decode cX8_init 94 = .ok (.putfield 58, 3) := by decide +kernel
theorem dX8_init_97 : decode cX8_init 97 = .ok (.aload_n 0, 1) := by decide +kernel
theorem dX8_init_98 : decode cX8_init 98 = .ok (.sipush 300, 3) := by decide +kernel
theorem dX8_init_101 : decode cX8_init 101 = .ok (.newarray .int, 2) := by decide +kernel
theorem dX8_init_103 : decode cX8_init 103 = .ok (.putfield 62, 3) := by decide +kernel
theorem dX8_init_106 : decode cX8_init 106 = .ok (.aload_n 0, 1) := by decide +kernel
theorem dX8_init_107 : decode cX8_init 107 = .ok (.iconst 0, 1) := by decide +kernel
theorem dX8_init_108 : decode cX8_init 108 = .ok (.putfield 66, 3) := by decide +kernel
theorem dX8_init_111 : decode cX8_init 111 = .ok (.aload_n 0, 1) := by decide +kernel
theorem dX8_init_112 : decode cX8_init 112 = .ok (.iconst (-1), 1) := by decide +kernel
theorem dX8_init_113 : decode cX8_init 113 = .ok (.putfield 70, 3) := by decide +kernel
theorem dX8_init_116 : decode cX8_init 116 = .ok (.return_, 1) := by decide +kernel
theorem dX8_post_0 : decode cX8_post 0 = .ok (.aload_n 0, 1) := by decide +kernel
theorem dX8_post_1 : decode cX8_post 1 = .ok (.getfield 33, 3) := by decide +kernel
theorem dX8_post_4 : decode cX8_post 4 = .ok (.getfield 73, 3) := by decide +kernel
theorem dX8_post_7 : decode cX8_post 7 = .ok (.ifCond .le 5, 3) := by decide +kernel
theorem dX8_post_10 : decode cX8_post 10 = .ok (.iconst (-1), 1) := by decide +kernel
theorem dX8_post_11 : decode cX8_post 11 = .ok (.ireturn, 1) := by decide +kernel
theorem dX8_post_12 : decode cX8_post 12 = .ok (.aload_n 0, 1) := by decide +kernel
theorem dX8_post_13 : decode cX8_post 13 = .ok (.getfield 10, 3) := by decide +kernel
theorem dX8_post_16 : decode cX8_post 16 = .ok (.iload_n 1, 1) := by decide +kernel
theorem dX8_post_17 : decode cX8_post 17 = .ok (.invokevirtual 76, 3) := by decide +kernel
theorem dX8_post_20 : decode cX8_post 20 = .ok (.ireturn, 1) := by decide +kernel
theorem dX8_kind_0 : decode cX8_kind 0 = .ok (.aload_n 0, 1) := by decide +kernel
theorem dX8_kind_1 : decode cX8_kind 1 = .ok (.getfield 33, 3) := by decide +kernel
theorem dX8_kind_4 : decode cX8_kind 4 = .ok (.getfield 73, 3) := by decide +kernel
theorem dX8_kind_7 : decode cX8_kind 7 = .ok (.ifCond .le 5, 3) := by decide +kernel
theorem dX8_kind_10 : decode cX8_kind 10 = .ok (.iconst (-1), 1) := by decide +kernel
theorem dX8_kind_11 : decode cX8_kind 11 = .ok (.ireturn, 1) := by decide +kernel
theorem dX8_kind_12 : decode cX8_kind 12 = .ok (.aload_n 0, 1) := by decide +kernel
theorem dX8_kind_13 : decode cX8_kind 13 = .ok (.getfield 19, 3) := by decide +kernel
theorem dX8_kind_16 : decode cX8_kind 16 = .ok (.iload_n 1, 1) := by decide +kernel
theorem dX8_kind_17 : decode cX8_kind 17 = .ok (.iload_n 2, 1) := by decide +kernel
theorem dX8_kind_18 : decode cX8_kind 18 = .ok (.iload_n 3, 1) := by decide +kernel
theorem dX8_kind_19 : decode cX8_kind 19 = .ok (.invokevirtual 80, 3) := by decide +kernel
theorem dX8_kind_22 : decode cX8_kind 22 = .ok (.ireturn, 1) := by decide +kernel
theorem dX8_later_0 : decode cX8_later 0 = .ok (.aload_n 0, 1) := by decide +kernel
theorem dX8_later_1 : decode cX8_later 1 = .ok (.getfield 66, 3) := by decide +kernel
theorem dX8_later_4 : decode cX8_later 4 = .ok (.sipush 1000, 3) := by decide +kernel
theorem dX8_later_7 : decode cX8_later 7 = .ok (.if_icmp .lt 5, 3) := by decide +kernel
theorem dX8_later_10 : decode cX8_later 10 = .ok (.iconst (-1), 1) := by decide +kernel
theorem dX8_later_11 : decode cX8_later 11 = .ok (.ireturn, 1) := by decide +kernel
theorem dX8_later_12 : decode cX8_later 12 = .ok (.aload_n 0, 1) := by decide +kernel
theorem dX8_later_13 : decode cX8_later 13 = .ok (.dup, 1) := by decide +kernel
theorem dX8_later_14 : decode cX8_later 14 = .ok (.getfield 66, 3) := by decide +kernel
theorem dX8_later_17 : decode cX8_later 17 = .ok (.iconst 1, 1) := by decide +kernel
theorem dX8_later_18 : decode cX8_later 18 = .ok (.iadd, 1) := by decide +kernel
theorem dX8_later_19 : decode cX8_later 19 = .ok (.putfield 66, 3) := by decide +kernel
theorem dX8_later_22 : decode cX8_later 22 = .ok (.aload_n 0, 1) := by decide +kernel
theorem dX8_later_23 : decode cX8_later 23 = .ok (.getfield 66, 3) := by decide +kernel
theorem dX8_later_26 : decode cX8_later 26 = .ok (.ireturn, 1) := by decide +kernel
theorem dX8_tell_0 : decode cX8_tell 0 = .ok (.iload_n 1, 1) := by decide +kernel
theorem dX8_tell_1 : decode cX8_tell 1 = .ok (.iload_n 2, 1) := by decide +kernel
theorem dX8_tell_2 : decode cX8_tell 2 = .ok (.invokestatic 83, 3) := by decide +kernel
theorem dX8_tell_5 : decode cX8_tell 5 = .ok (.ifCond .eq 14, 3) := by decide +kernel
theorem dX8_tell_8 : decode cX8_tell 8 = .ok (.iload_n 3, 1) := by decide +kernel
theorem dX8_tell_9 : decode cX8_tell 9 = .ok (.ifCond .lt 10, 3) := by decide +kernel
theorem dX8_tell_12 : decode cX8_tell 12 = .ok (.iload_n 3, 1) := by decide +kernel
theorem dX8_tell_13 : decode cX8_tell 13 = .ok (.sipush 600, 3) := by decide +kernel
theorem dX8_tell_16 : decode cX8_tell 16 = .ok (.if_icmp .lt 5, 3) := by decide +kernel
theorem dX8_tell_19 : decode cX8_tell 19 = .ok (.iconst (-1), 1) := by decide +kernel
theorem dX8_tell_20 : decode cX8_tell 20 = .ok (.ireturn, 1) := by decide +kernel
theorem dX8_tell_21 : decode cX8_tell 21 = .ok (.aload_n 0, 1) := by decide +kernel
theorem dX8_tell_22 : decode cX8_tell 22 = .ok (.getfield 10, 3) := by decide +kernel
theorem dX8_tell_25 : decode cX8_tell 25 = .ok (.iload 4, 2) := by decide +kernel
theorem dX8_tell_27 : decode cX8_tell 27 = .ok (.invokevirtual 87, 3) := by decide +kernel
theorem dX8_tell_30 : decode cX8_tell 30 = .ok (.ifCond .eq 15, 3) := by decide +kernel
theorem dX8_tell_33 : decode cX8_tell 33 = .ok (.aload_n 0, 1) := by decide +kernel
theorem dX8_tell_34 : decode cX8_tell 34 = .ok (.getfield 19, 3) := by decide +kernel
theorem dX8_tell_37 : decode cX8_tell 37 = .ok (.iload 5, 2) := by decide +kernel
theorem dX8_tell_39 : decode cX8_tell 39 = .ok (.invokevirtual 91, 3) := by decide +kernel
theorem dX8_tell_42 : decode cX8_tell 42 = .ok (.ifCond .ne 5, 3) := by decide +kernel
theorem dX8_tell_45 : decode cX8_tell 45 = .ok (.iconst (-1), 1) := by decide +kernel
theorem dX8_tell_46 : decode cX8_tell 46 = .ok (.ireturn, 1) := by decide +kernel
theorem dX8_tell_47 : decode cX8_tell 47 = .ok (.iload_n 1, 1) := by decide +kernel
theorem dX8_tell_48 : decode cX8_tell 48 = .ok (.iload_n 2, 1) := by decide +kernel
theorem dX8_tell_49 : decode cX8_tell 49 = .ok (.invokestatic 92, 3) := by decide +kernel
theorem dX8_tell_52 : decode cX8_tell 52 = .ok (.istore 6, 2) := by decide +kernel
theorem dX8_tell_54 : decode cX8_tell 54 = .ok (.aload_n 0, 1) := by decide +kernel
theorem dX8_tell_55 : decode cX8_tell 55 = .ok (.getfield 26, 3) := by decide +kernel
theorem dX8_tell_58 : decode cX8_tell 58 = .ok (.iload 6, 2) := by decide +kernel
theorem dX8_tell_60 : decode cX8_tell 60 = .ok (.iload_n 3, 1) := by decide +kernel
theorem dX8_tell_61 : decode cX8_tell 61 = .ok (.bipush 60, 2) := by decide +kernel
theorem dX8_tell_63 : decode cX8_tell 63 = .ok (.idiv, 1) := by decide +kernel
theorem dX8_tell_64 : decode cX8_tell 64 = .ok (.invokevirtual 96, 3) := by decide +kernel
theorem dX8_tell_67 : decode cX8_tell 67 = .ok (.ifCond .eq 5, 3) := by decide +kernel
theorem dX8_tell_70 : decode cX8_tell 70 = .ok (.iconst (-1), 1) := by decide +kernel
theorem dX8_tell_71 : decode cX8_tell 71 = .ok (.ireturn, 1) := by decide +kernel
theorem dX8_tell_72 : decode cX8_tell 72 = .ok (.aload_n 0, 1) := by decide +kernel
theorem dX8_tell_73 : decode cX8_tell 73 = .ok (.getfield 33, 3) := by decide +kernel
theorem dX8_tell_76 : decode cX8_tell 76 = .ok (.getfield 73, 3) := by decide +kernel
theorem dX8_tell_79 : decode cX8_tell 79 = .ok (.sipush 300, 3) := by decide +kernel
theorem dX8_tell_82 : decode cX8_tell 82 = .ok (.if_icmp .ge 19, 3) := by decide +kernel
theorem dX8_tell_85 : decode cX8_tell 85 = .ok (.aload_n 0, 1) := by decide +kernel
theorem dX8_tell_86 : decode cX8_tell 86 = .ok (.getfield 33, 3) := by decide +kernel
theorem dX8_tell_89 : decode cX8_tell 89 = .ok (.iload 6, 2) := by decide +kernel
theorem dX8_tell_91 : decode cX8_tell 91 = .ok (.iload 4, 2) := by decide +kernel
theorem dX8_tell_93 : decode cX8_tell 93 = .ok (.invokevirtual 99, 3) := by decide +kernel
theorem dX8_tell_96 : decode cX8_tell 96 = .ok (.bipush 12, 2) := by decide +kernel
theorem dX8_tell_98 : decode cX8_tell 98 = .ok (.if_icmp .lt 5, 3) := by decide +kernel
theorem dX8_tell_101 : decode cX8_tell 101 = .ok (.iconst (-1), 1) := by decide +kernel
theorem dX8_tell_102 : decode cX8_tell 102 = .ok (.ireturn, 1) := by decide +kernel
theorem dX8_tell_103 : decode cX8_tell 103 = .ok (.aload_n 0, 1) := by decide +kernel
theorem dX8_tell_104 : decode cX8_tell 104 = .ok (.getfield 33, 3) := by decide +kernel
theorem dX8_tell_107 : decode cX8_tell 107 = .ok (.iload 6, 2) := by decide +kernel
theorem dX8_tell_109 : decode cX8_tell 109 = .ok (.iload_n 3, 1) := by decide +kernel
theorem dX8_tell_110 : decode cX8_tell 110 = .ok (.iload 4, 2) := by decide +kernel
theorem dX8_tell_112 : decode cX8_tell 112 = .ok (.iload 5, 2) := by decide +kernel
theorem dX8_tell_114 : decode cX8_tell 114 = .ok (.aload_n 0, 1) := by decide +kernel
theorem dX8_tell_115 : decode cX8_tell 115 = .ok (.getfield 66, 3) := by decide +kernel
theorem dX8_tell_118 : decode cX8_tell 118 = .ok (.invokevirtual 102, 3) := by decide +kernel
theorem dX8_tell_121 : decode cX8_tell 121 = .ok (.istore 7, 2) := by decide +kernel
theorem dX8_tell_123 : decode cX8_tell 123 = .ok (.aload_n 0, 1) := by decide +kernel
theorem dX8_tell_124 : decode cX8_tell 124 = .ok (.getfield 33, 3) := by decide +kernel
theorem dX8_tell_127 : decode cX8_tell 127 = .ok (.aload_n 0, 1) := by decide +kernel
theorem dX8_tell_128 : decode cX8_tell 128 = .ok (.invokevirtual 105, 3) := by decide +kernel
theorem dX8_tell_131 : decode cX8_tell 131 = .ok (.invokevirtual 109, 3) := by decide +kernel
theorem dX8_tell_134 : decode cX8_tell 134 = .ok (.aload_n 0, 1) := by decide +kernel
theorem dX8_tell_135 : decode cX8_tell 135 = .ok (.getfield 42, 3) := by decide +kernel
theorem dX8_tell_138 : decode cX8_tell 138 = .ok (.iload 6, 2) := by decide +kernel
theorem dX8_tell_140 : decode cX8_tell 140 = .ok (.invokevirtual 113, 3) := by decide +kernel
theorem dX8_tell_143 : decode cX8_tell 143 = .ok (.iload 7, 2) := by decide +kernel
theorem dX8_tell_145 : decode cX8_tell 145 = .ok (.ireturn, 1) := by decide +kernel
theorem dX8_off_0 : decode cX8_off 0 = .ok (.iload_n 1, 1) := by decide +kernel
theorem dX8_off_1 : decode cX8_off 1 = .ok (.iload_n 2, 1) := by decide +kernel
theorem dX8_off_2 : decode cX8_off 2 = .ok (.invokestatic 83, 3) := by decide +kernel
theorem dX8_off_5 : decode cX8_off 5 = .ok (.ifCond .eq 13, 3) := by decide +kernel
theorem dX8_off_8 : decode cX8_off 8 = .ok (.iload_n 3, 1) := by decide +kernel
theorem dX8_off_9 : decode cX8_off 9 = .ok (.ifCond .lt 9, 3) := by decide +kernel
theorem dX8_off_12 : decode cX8_off 12 = .ok (.iload_n 3, 1) := by decide +kernel
theorem dX8_off_13 : decode cX8_off 13 = .ok (.bipush 10, 2) := by decide +kernel
theorem dX8_off_15 : decode cX8_off 15 = .ok (.if_icmp .lt 5, 3) := by decide +kernel
theorem dX8_off_18 : decode cX8_off 18 = .ok (.iconst 0, 1) := by decide +kernel
theorem dX8_off_19 : decode cX8_off 19 = .ok (.ireturn, 1) := by decide +kernel
theorem dX8_off_20 : decode cX8_off 20 = .ok (.iload_n 1, 1) := by decide +kernel
theorem dX8_off_21 : decode cX8_off 21 = .ok (.iload_n 2, 1) := by decide +kernel
theorem dX8_off_22 : decode cX8_off 22 = .ok (.invokestatic 92, 3) := by decide +kernel
theorem dX8_off_25 : decode cX8_off 25 = .ok (.istore 5, 2) := by decide +kernel
theorem dX8_off_27 : decode cX8_off 27 = .ok (.aload_n 0, 1) := by decide +kernel
theorem dX8_off_28 : decode cX8_off 28 = .ok (.getfield 26, 3) := by decide +kernel
theorem dX8_off_31 : decode cX8_off 31 = .ok (.iload 5, 2) := by decide +kernel
theorem dX8_off_33 : decode cX8_off 33 = .ok (.iload_n 3, 1) := by decide +kernel
theorem dX8_off_34 : decode cX8_off 34 = .ok (.invokevirtual 96, 3) := by decide +kernel
theorem dX8_off_37 : decode cX8_off 37 = .ok (.iload 4, 2) := by decide +kernel
theorem dX8_off_39 : decode cX8_off 39 = .ok (.if_icmp .ne 5, 3) := by decide +kernel
theorem dX8_off_42 : decode cX8_off 42 = .ok (.iconst 0, 1) := by decide +kernel
theorem dX8_off_43 : decode cX8_off 43 = .ok (.ireturn, 1) := by decide +kernel
theorem dX8_off_44 : decode cX8_off 44 = .ok (.iload 4, 2) := by decide +kernel
theorem dX8_off_46 : decode cX8_off 46 = .ok (.ifCond .eq 18, 3) := by decide +kernel
theorem dX8_off_49 : decode cX8_off 49 = .ok (.aload_n 0, 1) := by decide +kernel
theorem dX8_off_50 : decode cX8_off 50 = .ok (.getfield 33, 3) := by decide +kernel
theorem dX8_off_53 : decode cX8_off 53 = .ok (.iload 5, 2) := by decide +kernel
theorem dX8_off_55 : decode cX8_off 55 = .ok (.iload_n 3, 1) := by decide +kernel
theorem dX8_off_56 : decode cX8_off 56 = .ok (.invokevirtual 116, 3) := by decide +kernel
theorem dX8_off_59 : decode cX8_off 59 = .ok (.ifCond .eq 5, 3) := by decide +kernel
theorem dX8_off_62 : decode cX8_off 62 = .ok (.iconst 0, 1) := by decide +kernel
theorem dX8_off_63 : decode cX8_off 63 = .ok (.ireturn, 1) := by decide +kernel
theorem dX8_off_64 : decode cX8_off 64 = .ok (.aload_n 0, 1) := by decide +kernel
theorem dX8_off_65 : decode cX8_off 65 = .ok (.getfield 26, 3) := by decide +kernel
theorem dX8_off_68 : decode cX8_off 68 = .ok (.iload 5, 2) := by decide +kernel
theorem dX8_off_70 : decode cX8_off 70 = .ok (.iload_n 3, 1) := by decide +kernel
theorem dX8_off_71 : decode cX8_off 71 = .ok (.invokevirtual 119, 3) := by decide +kernel
theorem dX8_off_74 : decode cX8_off 74 = .ok (.iconst 1, 1) := by decide +kernel
theorem dX8_off_75 : decode cX8_off 75 = .ok (.ireturn, 1) := by decide +kernel
theorem dX8_wind_0 : decode cX8_wind 0 = .ok (.iload_n 1, 1) := by decide +kernel
theorem dX8_wind_1 : decode cX8_wind 1 = .ok (.iload_n 2, 1) := by decide +kernel
theorem dX8_wind_2 : decode cX8_wind 2 = .ok (.invokestatic 83, 3) := by decide +kernel
theorem dX8_wind_5 : decode cX8_wind 5 = .ok (.ifCond .eq 12, 3) := by decide +kernel
theorem dX8_wind_8 : decode cX8_wind 8 = .ok (.iload_n 3, 1) := by decide +kernel
theorem dX8_wind_9 : decode cX8_wind 9 = .ok (.ifCond .lt 8, 3) := by decide +kernel
theorem dX8_wind_12 : decode cX8_wind 12 = .ok (.iload_n 3, 1) := by decide +kernel
theorem dX8_wind_13 : decode cX8_wind 13 = .ok (.iconst 4, 1) := by decide +kernel
theorem dX8_wind_14 : decode cX8_wind 14 = .ok (.if_icmp .lt 5, 3) := by decide +kernel
theorem dX8_wind_17 : decode cX8_wind 17 = .ok (.iconst 0, 1) := by decide +kernel
theorem dX8_wind_18 : decode cX8_wind 18 = .ok (.ireturn, 1) := by decide +kernel
theorem dX8_wind_19 : decode cX8_wind 19 = .ok (.aload_n 0, 1) := by decide +kernel
theorem dX8_wind_20 : decode cX8_wind 20 = .ok (.getfield 26, 3) := by decide +kernel
theorem dX8_wind_23 : decode cX8_wind 23 = .ok (.getfield 123, 3) := by decide +kernel
theorem dX8_wind_26 : decode cX8_wind 26 = .ok (.iload_n 1, 1) := by decide +kernel
theorem dX8_wind_27 : decode cX8_wind 27 = .ok (.iload_n 2, 1) := by decide +kernel
theorem dX8_wind_28 : decode cX8_wind 28 = .ok (.invokestatic 92, 3) := by decide +kernel
theorem dX8_wind_31 : decode cX8_wind 31 = .ok (.iload_n 3, 1) := by decide +kernel
theorem dX8_wind_32 : decode cX8_wind 32 = .ok (.iastore, 1) := by decide +kernel
theorem dX8_wind_33 : decode cX8_wind 33 = .ok (.iconst 1, 1) := by decide +kernel
theorem dX8_wind_34 : decode cX8_wind 34 = .ok (.ireturn, 1) := by decide +kernel
theorem dX8_known_0 : decode cX8_known 0 = .ok (.iload_n 1, 1) := by decide +kernel
theorem dX8_known_1 : decode cX8_known 1 = .ok (.iconst (-1), 1) := by decide +kernel
theorem dX8_known_2 : decode cX8_known 2 = .ok (.if_icmp .eq 17, 3) := by decide +kernel
theorem dX8_known_5 : decode cX8_known 5 = .ok (.iload_n 1, 1) := by decide +kernel
theorem dX8_known_6 : decode cX8_known 6 = .ok (.ifCond .lt 11, 3) := by decide +kernel
theorem dX8_known_9 : decode cX8_known 9 = .ok (.iload_n 1, 1) := by decide +kernel
theorem dX8_known_10 : decode cX8_known 10 = .ok (.aload_n 0, 1) := by decide +kernel
theorem dX8_known_11 : decode cX8_known 11 = .ok (.getfield 66, 3) := by decide +kernel
theorem dX8_known_14 : decode cX8_known 14 = .ok (.if_icmp .le 5, 3) := by decide +kernel
theorem dX8_known_17 : decode cX8_known 17 = .ok (.iconst 0, 1) := by decide +kernel
theorem dX8_known_18 : decode cX8_known 18 = .ok (.ireturn, 1) := by decide +kernel
theorem dX8_known_19 : decode cX8_known 19 = .ok (.aload_n 0, 1) := by decide +kernel
theorem dX8_known_20 : decode cX8_known 20 = .ok (.iload_n 1, 1) := by decide +kernel
theorem dX8_known_21 : decode cX8_known 21 = .ok (.putfield 70, 3) := by decide +kernel
theorem dX8_known_24 : decode cX8_known 24 = .ok (.aload_n 0, 1) := by decide +kernel
theorem dX8_known_25 : decode cX8_known 25 = .ok (.getfield 33, 3) := by decide +kernel
theorem dX8_known_28 : decode cX8_known 28 = .ok (.aload_n 0, 1) := by decide +kernel
theorem dX8_known_29 : decode cX8_known 29 = .ok (.invokevirtual 105, 3) := by decide +kernel
theorem dX8_known_32 : decode cX8_known 32 = .ok (.invokevirtual 109, 3) := by decide +kernel
theorem dX8_known_35 : decode cX8_known 35 = .ok (.aload_n 0, 1) := by decide +kernel
theorem dX8_known_36 : decode cX8_known 36 = .ok (.getfield 42, 3) := by decide +kernel
theorem dX8_known_39 : decode cX8_known 39 = .ok (.invokevirtual 126, 3) := by decide +kernel
theorem dX8_known_42 : decode cX8_known 42 = .ok (.iconst 1, 1) := by decide +kernel
theorem dX8_known_43 : decode cX8_known 43 = .ok (.ireturn, 1) := by decide +kernel
theorem dX8_partner_0 : decode cX8_partner 0 = .ok (.aload_n 0, 1) := by decide +kernel
theorem dX8_partner_1 : decode cX8_partner 1 = .ok (.getfield 33, 3) := by decide +kernel
theorem dX8_partner_4 : decode cX8_partner 4 = .ok (.iload_n 1, 1) := by decide +kernel
theorem dX8_partner_5 : decode cX8_partner 5 = .ok (.invokevirtual 129, 3) := by decide +kernel
theorem dX8_partner_8 : decode cX8_partner 8 = .ok (.ifCond .ne 6, 3) := by decide +kernel
theorem dX8_partner_11 : decode cX8_partner 11 = .ok (.bipush (-2), 2) := by decide +kernel
theorem dX8_partner_13 : decode cX8_partner 13 = .ok (.ireturn, 1) := by decide +kernel
theorem dX8_partner_14 : decode cX8_partner 14 = .ok (.aload_n 0, 1) := by decide +kernel
theorem dX8_partner_15 : decode cX8_partner 15 = .ok (.getfield 42, 3) := by decide +kernel
theorem dX8_partner_18 : decode cX8_partner 18 = .ok (.aload_n 0, 1) := by decide +kernel
theorem dX8_partner_19 : decode cX8_partner 19 = .ok (.getfield 33, 3) := by decide +kernel
theorem dX8_partner_22 : decode cX8_partner 22 = .ok (.getfield 132, 3) := by decide +kernel
theorem dX8_partner_25 : decode cX8_partner 25 = .ok (.iload_n 1, 1) := by decide +kernel
theorem dX8_partner_26 : decode cX8_partner 26 = .ok (.iaload, 1) := by decide +kernel
theorem dX8_partner_27 : decode cX8_partner 27 = .ok (.invokevirtual 134, 3) := by decide +kernel
theorem dX8_partner_30 : decode cX8_partner 30 = .ok (.aload_n 0, 1) := by decide +kernel
theorem dX8_partner_31 : decode cX8_partner 31 = .ok (.getfield 42, 3) := by decide +kernel
theorem dX8_partner_34 : decode cX8_partner 34 = .ok (.getfield 137, 3) := by decide +kernel
theorem dX8_partner_37 : decode cX8_partner 37 = .ok (.iload_n 1, 1) := by decide +kernel
theorem dX8_partner_38 : decode cX8_partner 38 = .ok (.iaload, 1) := by decide +kernel
theorem dX8_partner_39 : decode cX8_partner 39 = .ok (.ireturn, 1) := by decide +kernel
theorem dX8_bird_0 : decode cX8_bird 0 = .ok (.aload_n 0, 1) := by decide +kernel
theorem dX8_bird_1 : decode cX8_bird 1 = .ok (.getfield 33, 3) := by decide +kernel
theorem dX8_bird_4 : decode cX8_bird 4 = .ok (.iload_n 1, 1) := by decide +kernel
theorem dX8_bird_5 : decode cX8_bird 5 = .ok (.invokevirtual 129, 3) := by decide +kernel
theorem dX8_bird_8 : decode cX8_bird 8 = .ok (.ifCond .ne 6, 3) := by decide +kernel
theorem dX8_bird_11 : decode cX8_bird 11 = .ok (.bipush (-2), 2) := by decide +kernel
theorem dX8_bird_13 : decode cX8_bird 13 = .ok (.ireturn, 1) := by decide +kernel
theorem dX8_bird_14 : decode cX8_bird 14 = .ok (.aload_n 0, 1) := by decide +kernel
theorem dX8_bird_15 : decode cX8_bird 15 = .ok (.getfield 42, 3) := by decide +kernel
theorem dX8_bird_18 : decode cX8_bird 18 = .ok (.aload_n 0, 1) := by decide +kernel
theorem dX8_bird_19 : decode cX8_bird 19 = .ok (.getfield 33, 3) := by decide +kernel
theorem dX8_bird_22 : decode cX8_bird 22 = .ok (.getfield 132, 3) := by decide +kernel
theorem dX8_bird_25 : decode cX8_bird 25 = .ok (.iload_n 1, 1) := by decide +kernel
theorem dX8_bird_26 : decode cX8_bird 26 = .ok (.iaload, 1) := by decide +kernel
theorem dX8_bird_27 : decode cX8_bird 27 = .ok (.invokevirtual 134, 3) := by decide +kernel
theorem dX8_bird_30 : decode cX8_bird 30 = .ok (.aload_n 0, 1) := by decide +kernel
theorem dX8_bird_31 : decode cX8_bird 31 = .ok (.getfield 42, 3) := by decide +kernel
theorem dX8_bird_34 : decode cX8_bird 34 = .ok (.getfield 140, 3) := by decide +kernel
theorem dX8_bird_37 : decode cX8_bird 37 = .ok (.iload_n 1, 1) := by decide +kernel
theorem dX8_bird_38 : decode cX8_bird 38 = .ok (.iaload, 1) := by decide +kernel
theorem dX8_bird_39 : decode cX8_bird 39 = .ok (.ireturn, 1) := by decide +kernel
theorem dX8_birds_0 : decode cX8_birds 0 = .ok (.iload_n 1, 1) := by decide +kernel
theorem dX8_birds_1 : decode cX8_birds 1 = .ok (.invokestatic 143, 3) := by decide +kernel
theorem dX8_birds_4 : decode cX8_birds 4 = .ok (.ifCond .eq 23, 3) := by decide +kernel
theorem dX8_birds_7 : decode cX8_birds 7 = .ok (.aload_n 0, 1) := by decide +kernel
theorem dX8_birds_8 : decode cX8_birds 8 = .ok (.getfield 19, 3) := by decide +kernel
theorem dX8_birds_11 : decode cX8_birds 11 = .ok (.iload_n 2, 1) := by decide +kernel
theorem dX8_birds_12 : decode cX8_birds 12 = .ok (.invokevirtual 91, 3) := by decide +kernel
theorem dX8_birds_15 : decode cX8_birds 15 = .ok (.ifCond .eq 12, 3) := by decide +kernel
theorem dX8_birds_18 : decode cX8_birds 18 = .ok (.iload_n 3, 1) := by decide +kernel
theorem dX8_birds_19 : decode cX8_birds 19 = .ok (.ifCond .lt 8, 3) := by decide +kernel
theorem dX8_birds_22 : decode cX8_birds 22 = .ok (.iload_n 3, 1) := by decide +kernel
theorem dX8_birds_23 : decode cX8_birds 23 = .ok (.iconst 2, 1) := by decide +kernel
theorem dX8_birds_24 : decode cX8_birds 24 = .ok (.if_icmp .le 11, 3) := by decide +kernel
theorem dX8_birds_27 : decode cX8_birds 27 = .ok (.new 146, 3) := by decide +kernel
theorem dX8_birds_30 : decode cX8_birds 30 = .ok (.dup, 1) := by decide +kernel
theorem dX8_birds_31 : decode cX8_birds 31 = .ok (.invokespecial 148, 3) := by decide +kernel
theorem dX8_birds_34 : decode cX8_birds 34 = .ok (.athrow, 1) := by decide +kernel
theorem dX8_birds_35 : decode cX8_birds 35 = .ok (.aload_n 0, 1) := by decide +kernel
theorem dX8_birds_36 : decode cX8_birds 36 = .ok (.getfield 42, 3) := by decide +kernel
theorem dX8_birds_39 : decode cX8_birds 39 = .ok (.iload_n 1, 1) := by decide +kernel
theorem dX8_birds_40 : decode cX8_birds 40 = .ok (.invokevirtual 149, 3) := by decide +kernel
theorem dX8_birds_43 : decode cX8_birds 43 = .ok (.aload_n 0, 1) := by decide +kernel
theorem dX8_birds_44 : decode cX8_birds 44 = .ok (.getfield 51, 3) := by decide +kernel
theorem dX8_birds_47 : decode cX8_birds 47 = .ok (.invokevirtual 152, 3) := by decide +kernel
theorem dX8_birds_50 : decode cX8_birds 50 = .ok (.aload_n 0, 1) := by decide +kernel
theorem dX8_birds_51 : decode cX8_birds 51 = .ok (.getfield 42, 3) := by decide +kernel
theorem dX8_birds_54 : decode cX8_birds 54 = .ok (.iload_n 1, 1) := by decide +kernel
theorem dX8_birds_55 : decode cX8_birds 55 = .ok (.aload_n 0, 1) := by decide +kernel
theorem dX8_birds_56 : decode cX8_birds 56 = .ok (.getfield 51, 3) := by decide +kernel
theorem dX8_birds_59 : decode cX8_birds 59 = .ok (.getfield 155, 3) := by decide +kernel
theorem dX8_birds_62 : decode cX8_birds 62 = .ok (.invokevirtual 158, 3) := by decide +kernel
theorem dX8_birds_65 : decode cX8_birds 65 = .ok (.iload_n 3, 1) := by decide +kernel
theorem dX8_birds_66 : decode cX8_birds 66 = .ok (.ifCond .ne 13, 3) := by decide +kernel
theorem dX8_birds_69 : decode cX8_birds 69 = .ok (.aload_n 0, 1) := by decide +kernel
theorem dX8_birds_70 : decode cX8_birds 70 = .ok (.getfield 51, 3) := by decide +kernel
theorem dX8_birds_73 : decode cX8_birds 73 = .ok (.getfield 155, 3) := by decide +kernel
theorem dX8_birds_76 : decode cX8_birds 76 = .ok (.iload_n 2, 1) := by decide +kernel
theorem dX8_birds_77 : decode cX8_birds 77 = .ok (.iaload, 1) := by decide +kernel
theorem dX8_birds_78 : decode cX8_birds 78 = .ok (.ireturn, 1) := by decide +kernel
theorem dX8_birds_79 : decode cX8_birds 79 = .ok (.iload_n 3, 1) := by decide +kernel
theorem dX8_birds_80 : decode cX8_birds 80 = .ok (.iconst 1, 1) := by decide +kernel
theorem dX8_birds_81 : decode cX8_birds 81 = .ok (.if_icmp .ne 12, 3) := by decide +kernel
theorem dX8_birds_84 : decode cX8_birds 84 = .ok (.aload_n 0, 1) := by decide +kernel
theorem dX8_birds_85 : decode cX8_birds 85 = .ok (.getfield 51, 3) := by decide +kernel
theorem dX8_birds_88 : decode cX8_birds 88 = .ok (.iload_n 2, 1) := by decide +kernel
theorem dX8_birds_89 : decode cX8_birds 89 = .ok (.invokevirtual 162, 3) := by decide +kernel
theorem dX8_birds_92 : decode cX8_birds 92 = .ok (.ireturn, 1) := by decide +kernel
theorem dX8_birds_93 : decode cX8_birds 93 = .ok (.aload_n 0, 1) := by decide +kernel
theorem dX8_birds_94 : decode cX8_birds 94 = .ok (.getfield 51, 3) := by decide +kernel
theorem dX8_birds_97 : decode cX8_birds 97 = .ok (.invokevirtual 165, 3) := by decide +kernel
theorem dX8_birds_100 : decode cX8_birds 100 = .ok (.aload_n 0, 1) := by decide +kernel
theorem dX8_birds_101 : decode cX8_birds 101 = .ok (.getfield 51, 3) := by decide +kernel
theorem dX8_birds_104 : decode cX8_birds 104 = .ok (.iload_n 2, 1) := by decide +kernel
theorem dX8_birds_105 : decode cX8_birds 105 = .ok (.invokevirtual 168, 3) := by decide +kernel
theorem dX8_birds_108 : decode cX8_birds 108 = .ok (.ireturn, 1) := by decide +kernel
theorem dX8_year_0 : decode cX8_year 0 = .ok (.iload_n 1, 1) := by decide +kernel
theorem dX8_year_1 : decode cX8_year 1 = .ok (.invokestatic 143, 3) := by decide +kernel
theorem dX8_year_4 : decode cX8_year 4 = .ok (.ifCond .ne 5, 3) := by decide +kernel
theorem dX8_year_7 : decode cX8_year 7 = .ok (.iconst (-1), 1) := by decide +kernel
theorem dX8_year_8 : decode cX8_year 8 = .ok (.ireturn, 1) := by decide +kernel
theorem dX8_year_9 : decode cX8_year 9 = .ok (.aload_n 0, 1) := by decide +kernel
theorem dX8_year_10 : decode cX8_year 10 = .ok (.getfield 42, 3) := by decide +kernel
theorem dX8_year_13 : decode cX8_year 13 = .ok (.iload_n 1, 1) := by decide +kernel
theorem dX8_year_14 : decode cX8_year 14 = .ok (.invokevirtual 149, 3) := by decide +kernel
theorem dX8_year_17 : decode cX8_year 17 = .ok (.iload_n 2, 1) := by decide +kernel
theorem dX8_year_18 : decode cX8_year 18 = .ok (.tableswitch 86 0 5 #[38, 47, 56, 65, 74, 80], 38) := by decide +kernel
theorem dX8_year_56 : decode cX8_year 56 = .ok (.aload_n 0, 1) := by decide +kernel
theorem dX8_year_57 : decode cX8_year 57 = .ok (.getfield 33, 3) := by decide +kernel
theorem dX8_year_60 : decode cX8_year 60 = .ok (.iload_n 1, 1) := by decide +kernel
theorem dX8_year_61 : decode cX8_year 61 = .ok (.invokevirtual 171, 3) := by decide +kernel
theorem dX8_year_64 : decode cX8_year 64 = .ok (.ireturn, 1) := by decide +kernel
theorem dX8_year_65 : decode cX8_year 65 = .ok (.aload_n 0, 1) := by decide +kernel
theorem dX8_year_66 : decode cX8_year 66 = .ok (.getfield 42, 3) := by decide +kernel
theorem dX8_year_69 : decode cX8_year 69 = .ok (.iload_n 1, 1) := by decide +kernel
theorem dX8_year_70 : decode cX8_year 70 = .ok (.invokevirtual 174, 3) := by decide +kernel
theorem dX8_year_73 : decode cX8_year 73 = .ok (.ireturn, 1) := by decide +kernel
theorem dX8_year_74 : decode cX8_year 74 = .ok (.aload_n 0, 1) := by decide +kernel
theorem dX8_year_75 : decode cX8_year 75 = .ok (.getfield 42, 3) := by decide +kernel
theorem dX8_year_78 : decode cX8_year 78 = .ok (.iload_n 1, 1) := by decide +kernel
theorem dX8_year_79 : decode cX8_year 79 = .ok (.invokevirtual 177, 3) := by decide +kernel
theorem dX8_year_82 : decode cX8_year 82 = .ok (.ireturn, 1) := by decide +kernel
theorem dX8_year_83 : decode cX8_year 83 = .ok (.aload_n 0, 1) := by decide +kernel
theorem dX8_year_84 : decode cX8_year 84 = .ok (.getfield 26, 3) := by decide +kernel
theorem dX8_year_87 : decode cX8_year 87 = .ok (.iload_n 1, 1) := by decide +kernel
theorem dX8_year_88 : decode cX8_year 88 = .ok (.invokevirtual 180, 3) := by decide +kernel
theorem dX8_year_91 : decode cX8_year 91 = .ok (.ireturn, 1) := by decide +kernel
theorem dX8_year_92 : decode cX8_year 92 = .ok (.aload_n 0, 1) := by decide +kernel
theorem dX8_year_93 : decode cX8_year 93 = .ok (.iload_n 1, 1) := by decide +kernel
theorem dX8_year_94 : decode cX8_year 94 = .ok (.invokevirtual 183, 3) := by decide +kernel
theorem dX8_year_97 : decode cX8_year 97 = .ok (.ireturn, 1) := by decide +kernel
theorem dX8_year_98 : decode cX8_year 98 = .ok (.aload_n 0, 1) := by decide +kernel
theorem dX8_year_99 : decode cX8_year 99 = .ok (.iload_n 1, 1) := by decide +kernel
theorem dX8_year_100 : decode cX8_year 100 = .ok (.invokevirtual 186, 3) := by decide +kernel
theorem dX8_year_103 : decode cX8_year 103 = .ok (.ireturn, 1) := by decide +kernel
theorem dX8_year_104 : decode cX8_year 104 = .ok (.iconst (-1), 1) := by decide +kernel
theorem dX8_year_105 : decode cX8_year 105 = .ok (.ireturn, 1) := by decide +kernel
theorem dX8_passage_0 : decode cX8_passage 0 = .ok (.iload_n 1, 1) := by decide +kernel
theorem dX8_passage_1 : decode cX8_passage 1 = .ok (.invokestatic 143, 3) := by decide +kernel
theorem dX8_passage_4 : decode cX8_passage 4 = .ok (.ifCond .eq 23, 3) := by decide +kernel
theorem dX8_passage_7 : decode cX8_passage 7 = .ok (.aload_n 0, 1) := by decide +kernel
theorem dX8_passage_8 : decode cX8_passage 8 = .ok (.getfield 19, 3) := by decide +kernel
theorem dX8_passage_11 : decode cX8_passage 11 = .ok (.iload_n 2, 1) := by decide +kernel
theorem dX8_passage_12 : decode cX8_passage 12 = .ok (.invokevirtual 91, 3) := by decide +kernel
theorem dX8_passage_15 : decode cX8_passage 15 = .ok (.ifCond .eq 12, 3) := by decide +kernel
theorem dX8_passage_18 : decode cX8_passage 18 = .ok (.iload_n 3, 1) := by decide +kernel
theorem dX8_passage_19 : decode cX8_passage 19 = .ok (.ifCond .lt 8, 3) := by decide +kernel
theorem dX8_passage_22 : decode cX8_passage 22 = .ok (.iload_n 3, 1) := by decide +kernel
theorem dX8_passage_23 : decode cX8_passage 23 = .ok (.iconst 2, 1) := by decide +kernel
theorem dX8_passage_24 : decode cX8_passage 24 = .ok (.if_icmp .le 5, 3) := by decide +kernel
theorem dX8_passage_27 : decode cX8_passage 27 = .ok (.iconst (-1), 1) := by decide +kernel
theorem dX8_passage_28 : decode cX8_passage 28 = .ok (.ireturn, 1) := by decide +kernel
theorem dX8_passage_29 : decode cX8_passage 29 = .ok (.aload_n 0, 1) := by decide +kernel
theorem dX8_passage_30 : decode cX8_passage 30 = .ok (.getfield 42, 3) := by decide +kernel
theorem dX8_passage_33 : decode cX8_passage 33 = .ok (.iload_n 1, 1) := by decide +kernel
theorem dX8_passage_34 : decode cX8_passage 34 = .ok (.invokevirtual 149, 3) := by decide +kernel
theorem dX8_passage_37 : decode cX8_passage 37 = .ok (.iconst 0, 1) := by decide +kernel
theorem dX8_passage_38 : decode cX8_passage 38 = .ok (.istore 4, 2) := by decide +kernel
theorem dX8_passage_40 : decode cX8_passage 40 = .ok (.iload 4, 2) := by decide +kernel
theorem dX8_passage_42 : decode cX8_passage 42 = .ok (.sipush 300, 3) := by decide +kernel
theorem dX8_passage_45 : decode cX8_passage 45 = .ok (.if_icmp .ge 17, 3) := by decide +kernel
theorem dX8_passage_48 : decode cX8_passage 48 = .ok (.aload_n 0, 1) := by decide +kernel
theorem dX8_passage_49 : decode cX8_passage 49 = .ok (.getfield 62, 3) := by decide +kernel
theorem dX8_passage_52 : decode cX8_passage 52 = .ok (.iload 4, 2) := by decide +kernel
theorem dX8_passage_54 : decode cX8_passage 54 = .ok (.iconst 0, 1) := by decide +kernel
theorem dX8_passage_55 : decode cX8_passage 55 = .ok (.iastore, 1) := by decide +kernel
theorem dX8_passage_56 : decode cX8_passage 56 = .ok (.iinc 4 1, 3) := by decide +kernel
theorem dX8_passage_59 : decode cX8_passage 59 = .ok (.goto (-19), 3) := by decide +kernel
theorem dX8_passage_62 : decode cX8_passage 62 = .ok (.aload_n 0, 1) := by decide +kernel
theorem dX8_passage_63 : decode cX8_passage 63 = .ok (.getfield 42, 3) := by decide +kernel
theorem dX8_passage_66 : decode cX8_passage 66 = .ok (.iload_n 1, 1) := by decide +kernel
theorem dX8_passage_67 : decode cX8_passage 67 = .ok (.iload_n 2, 1) := by decide +kernel
theorem dX8_passage_68 : decode cX8_passage 68 = .ok (.aload_n 0, 1) := by decide +kernel
theorem dX8_passage_69 : decode cX8_passage 69 = .ok (.getfield 62, 3) := by decide +kernel
theorem dX8_passage_72 : decode cX8_passage 72 = .ok (.invokevirtual 189, 3) := by decide +kernel
theorem dX8_passage_75 : decode cX8_passage 75 = .ok (.istore 4, 2) := by decide +kernel
theorem dX8_passage_77 : decode cX8_passage 77 = .ok (.iload 4, 2) := by decide +kernel
theorem dX8_passage_79 : decode cX8_passage 79 = .ok (.ifCond .ne 5, 3) := by decide +kernel
theorem dX8_passage_82 : decode cX8_passage 82 = .ok (.iconst (-1), 1) := by decide +kernel
theorem dX8_passage_83 : decode cX8_passage 83 = .ok (.ireturn, 1) := by decide +kernel
theorem dX8_passage_84 : decode cX8_passage 84 = .ok (.iload_n 3, 1) := by decide +kernel
theorem dX8_passage_85 : decode cX8_passage 85 = .ok (.ifCond .ne 9, 3) := by decide +kernel
theorem dX8_passage_88 : decode cX8_passage 88 = .ok (.aload_n 0, 1) := by decide +kernel
theorem dX8_passage_89 : decode cX8_passage 89 = .ok (.iconst 1, 1) := by decide +kernel
theorem dX8_passage_90 : decode cX8_passage 90 = .ok (.invokevirtual 193, 3) := by decide +kernel
theorem dX8_passage_93 : decode cX8_passage 93 = .ok (.ireturn, 1) := by decide +kernel
theorem dX8_passage_94 : decode cX8_passage 94 = .ok (.aload_n 0, 1) := by decide +kernel
theorem dX8_passage_95 : decode cX8_passage 95 = .ok (.iload_n 3, 1) := by decide +kernel
theorem dX8_passage_96 : decode cX8_passage 96 = .ok (.iconst 1, 1) := by decide +kernel
theorem dX8_passage_97 : decode cX8_passage 97 = .ok (.if_icmp .ne 12, 3) := by decide +kernel
theorem dX8_passage_100 : decode cX8_passage 100 = .ok (.iload 4, 2) := by decide +kernel
theorem dX8_passage_102 : decode cX8_passage 102 = .ok (.iconst 1, 1) := by decide +kernel
theorem dX8_passage_103 : decode cX8_passage 103 = .ok (.iadd, 1) := by decide +kernel
theorem dX8_passage_104 : decode cX8_passage 104 = .ok (.iconst 2, 1) := by decide +kernel
theorem dX8_passage_105 : decode cX8_passage 105 = .ok (.idiv, 1) := by decide +kernel
theorem dX8_passage_106 : decode cX8_passage 106 = .ok (.goto 5, 3) := by decide +kernel
theorem dX8_passage_109 : decode cX8_passage 109 = .ok (.iload 4, 2) := by decide +kernel
theorem dX8_passage_111 : decode cX8_passage 111 = .ok (.invokevirtual 193, 3) := by decide +kernel
theorem dX8_passage_114 : decode cX8_passage 114 = .ok (.ireturn, 1) := by decide +kernel
theorem dX8_change_0 : decode cX8_change 0 = .ok (.iload_n 1, 1) := by decide +kernel
theorem dX8_change_1 : decode cX8_change 1 = .ok (.invokestatic 143, 3) := by decide +kernel
theorem dX8_change_4 : decode cX8_change 4 = .ok (.ifCond .eq 10, 3) := by decide +kernel
theorem dX8_change_7 : decode cX8_change 7 = .ok (.iload_n 2, 1) := by decide +kernel
theorem dX8_change_8 : decode cX8_change 8 = .ok (.invokestatic 143, 3) := by decide +kernel
theorem dX8_change_11 : decode cX8_change 11 = .ok (.ifCond .ne 6, 3) := by decide +kernel
theorem dX8_change_14 : decode cX8_change 14 = .ok (.bipush (-2), 2) := by decide +kernel
theorem dX8_change_16 : decode cX8_change 16 = .ok (.ireturn, 1) := by decide +kernel
theorem dX8_change_17 : decode cX8_change 17 = .ok (.aload_n 0, 1) := by decide +kernel
theorem dX8_change_18 : decode cX8_change 18 = .ok (.getfield 42, 3) := by decide +kernel
theorem dX8_change_21 : decode cX8_change 21 = .ok (.iload_n 1, 1) := by decide +kernel
theorem dX8_change_22 : decode cX8_change 22 = .ok (.invokevirtual 149, 3) := by decide +kernel
theorem dX8_change_25 : decode cX8_change 25 = .ok (.aload_n 0, 1) := by decide +kernel
theorem dX8_change_26 : decode cX8_change 26 = .ok (.getfield 42, 3) := by decide +kernel
theorem dX8_change_29 : decode cX8_change 29 = .ok (.iload_n 2, 1) := by decide +kernel
theorem dX8_change_30 : decode cX8_change 30 = .ok (.invokevirtual 149, 3) := by decide +kernel
theorem dX8_change_33 : decode cX8_change 33 = .ok (.sipush 1000, 3) := by decide +kernel
theorem dX8_change_36 : decode cX8_change 36 = .ok (.aload_n 0, 1) := by decide +kernel
theorem dX8_change_37 : decode cX8_change 37 = .ok (.getfield 42, 3) := by decide +kernel
theorem dX8_change_40 : decode cX8_change 40 = .ok (.iload_n 2, 1) := by decide +kernel
theorem dX8_change_41 : decode cX8_change 41 = .ok (.invokevirtual 177, 3) := by decide +kernel
theorem dX8_change_44 : decode cX8_change 44 = .ok (.imul, 1) := by decide +kernel
theorem dX8_change_45 : decode cX8_change 45 = .ok (.aload_n 0, 1) := by decide +kernel
theorem dX8_change_46 : decode cX8_change 46 = .ok (.iload_n 1, 1) := by decide +kernel
theorem dX8_change_47 : decode cX8_change 47 = .ok (.invokevirtual 186, 3) := by decide +kernel
theorem dX8_change_50 : decode cX8_change 50 = .ok (.if_icmp .le 5, 3) := by decide +kernel
theorem dX8_change_53 : decode cX8_change 53 = .ok (.iconst 1, 1) := by decide +kernel
theorem dX8_change_54 : decode cX8_change 54 = .ok (.ireturn, 1) := by decide +kernel
theorem dX8_change_55 : decode cX8_change 55 = .ok (.aload_n 0, 1) := by decide +kernel
theorem dX8_change_56 : decode cX8_change 56 = .ok (.iload_n 2, 1) := by decide +kernel
theorem dX8_change_57 : decode cX8_change 57 = .ok (.invokevirtual 186, 3) := by decide +kernel
theorem dX8_change_60 : decode cX8_change 60 = .ok (.sipush 1000, 3) := by decide +kernel
theorem dX8_change_63 : decode cX8_change 63 = .ok (.aload_n 0, 1) := by decide +kernel
theorem dX8_change_64 : decode cX8_change 64 = .ok (.getfield 42, 3) := by decide +kernel
theorem dX8_change_67 : decode cX8_change 67 = .ok (.iload_n 1, 1) := by decide +kernel
theorem dX8_change_68 : decode cX8_change 68 = .ok (.invokevirtual 177, 3) := by decide +kernel
theorem dX8_change_71 : decode cX8_change 71 = .ok (.imul, 1) := by decide +kernel
theorem dX8_change_72 : decode cX8_change 72 = .ok (.if_icmp .ge 7, 3) := by decide +kernel
theorem dX8_change_75 : decode cX8_change 75 = .ok (.iconst (-1), 1) := by decide +kernel
theorem dX8_change_76 : decode cX8_change 76 = .ok (.goto 4, 3) := by decide +kernel
theorem dX8_change_79 : decode cX8_change 79 = .ok (.iconst 0, 1) := by decide +kernel
theorem dX8_change_80 : decode cX8_change 80 = .ok (.ireturn, 1) := by decide +kernel
theorem dX8_look_0 : decode cX8_look 0 = .ok (.aload_n 0, 1) := by decide +kernel
theorem dX8_look_1 : decode cX8_look 1 = .ok (.getfield 33, 3) := by decide +kernel
theorem dX8_look_4 : decode cX8_look 4 = .ok (.iload_n 1, 1) := by decide +kernel
theorem dX8_look_5 : decode cX8_look 5 = .ok (.invokevirtual 196, 3) := by decide +kernel
theorem dX8_look_8 : decode cX8_look 8 = .ok (.ifCond .eq 12, 3) := by decide +kernel
theorem dX8_look_11 : decode cX8_look 11 = .ok (.iload_n 2, 1) := by decide +kernel
theorem dX8_look_12 : decode cX8_look 12 = .ok (.ifCond .lt 8, 3) := by decide +kernel
theorem dX8_look_15 : decode cX8_look 15 = .ok (.iload_n 2, 1) := by decide +kernel
theorem dX8_look_16 : decode cX8_look 16 = .ok (.iconst 5, 1) := by decide +kernel
theorem dX8_look_17 : decode cX8_look 17 = .ok (.if_icmp .le 11, 3) := by decide +kernel
theorem dX8_look_20 : decode cX8_look 20 = .ok (.new 146, 3) := by decide +kernel
theorem dX8_look_23 : decode cX8_look 23 = .ok (.dup, 1) := by decide +kernel
theorem dX8_look_24 : decode cX8_look 24 = .ok (.invokespecial 148, 3) := by decide +kernel
theorem dX8_look_27 : decode cX8_look 27 = .ok (.athrow, 1) := by decide +kernel
theorem dX8_look_28 : decode cX8_look 28 = .ok (.iload_n 2, 1) := by decide +kernel
theorem dX8_look_29 : decode cX8_look 29 = .ok (.tableswitch 91 0 4 #[35, 48, 61, 71, 81], 35) := by decide +kernel
theorem dX8_look_64 : decode cX8_look 64 = .ok (.aload_n 0, 1) := by decide +kernel
theorem dX8_look_65 : decode cX8_look 65 = .ok (.getfield 33, 3) := by decide +kernel
theorem dX8_look_68 : decode cX8_look 68 = .ok (.getfield 132, 3) := by decide +kernel
theorem dX8_look_71 : decode cX8_look 71 = .ok (.iload_n 1, 1) := by decide +kernel
theorem dX8_look_72 : decode cX8_look 72 = .ok (.iaload, 1) := by decide +kernel
theorem dX8_look_73 : decode cX8_look 73 = .ok (.bipush 30, 2) := by decide +kernel
theorem dX8_look_75 : decode cX8_look 75 = .ok (.idiv, 1) := by decide +kernel
theorem dX8_look_76 : decode cX8_look 76 = .ok (.ireturn, 1) := by decide +kernel
theorem dX8_look_77 : decode cX8_look 77 = .ok (.aload_n 0, 1) := by decide +kernel
theorem dX8_look_78 : decode cX8_look 78 = .ok (.getfield 33, 3) := by decide +kernel
theorem dX8_look_81 : decode cX8_look 81 = .ok (.getfield 132, 3) := by decide +kernel
theorem dX8_look_84 : decode cX8_look 84 = .ok (.iload_n 1, 1) := by decide +kernel
theorem dX8_look_85 : decode cX8_look 85 = .ok (.iaload, 1) := by decide +kernel
theorem dX8_look_86 : decode cX8_look 86 = .ok (.bipush 30, 2) := by decide +kernel
theorem dX8_look_88 : decode cX8_look 88 = .ok (.irem, 1) := by decide +kernel
theorem dX8_look_89 : decode cX8_look 89 = .ok (.ireturn, 1) := by decide +kernel
theorem dX8_look_90 : decode cX8_look 90 = .ok (.aload_n 0, 1) := by decide +kernel
theorem dX8_look_91 : decode cX8_look 91 = .ok (.getfield 33, 3) := by decide +kernel
theorem dX8_look_94 : decode cX8_look 94 = .ok (.getfield 197, 3) := by decide +kernel
theorem dX8_look_97 : decode cX8_look 97 = .ok (.iload_n 1, 1) := by decide +kernel
theorem dX8_look_98 : decode cX8_look 98 = .ok (.iaload, 1) := by decide +kernel
theorem dX8_look_99 : decode cX8_look 99 = .ok (.ireturn, 1) := by decide +kernel
theorem dX8_look_100 : decode cX8_look 100 = .ok (.aload_n 0, 1) := by decide +kernel
theorem dX8_look_101 : decode cX8_look 101 = .ok (.getfield 33, 3) := by decide +kernel
theorem dX8_look_104 : decode cX8_look 104 = .ok (.getfield 200, 3) := by decide +kernel
theorem dX8_look_107 : decode cX8_look 107 = .ok (.iload_n 1, 1) := by decide +kernel
theorem dX8_look_108 : decode cX8_look 108 = .ok (.iaload, 1) := by decide +kernel
theorem dX8_look_109 : decode cX8_look 109 = .ok (.ireturn, 1) := by decide +kernel
theorem dX8_look_110 : decode cX8_look 110 = .ok (.aload_n 0, 1) := by decide +kernel
theorem dX8_look_111 : decode cX8_look 111 = .ok (.getfield 33, 3) := by decide +kernel
theorem dX8_look_114 : decode cX8_look 114 = .ok (.getfield 203, 3) := by decide +kernel
theorem dX8_look_117 : decode cX8_look 117 = .ok (.iload_n 1, 1) := by decide +kernel
theorem dX8_look_118 : decode cX8_look 118 = .ok (.iaload, 1) := by decide +kernel
theorem dX8_look_119 : decode cX8_look 119 = .ok (.ireturn, 1) := by decide +kernel
theorem dX8_look_120 : decode cX8_look 120 = .ok (.aload_n 0, 1) := by decide +kernel
theorem dX8_look_121 : decode cX8_look 121 = .ok (.getfield 33, 3) := by decide +kernel
theorem dX8_look_124 : decode cX8_look 124 = .ok (.getfield 206, 3) := by decide +kernel
theorem dX8_look_127 : decode cX8_look 127 = .ok (.iload_n 1, 1) := by decide +kernel
theorem dX8_look_128 : decode cX8_look 128 = .ok (.iaload, 1) := by decide +kernel
theorem dX8_look_129 : decode cX8_look 129 = .ok (.ireturn, 1) := by decide +kernel
theorem dX8_count_0 : decode cX8_count 0 = .ok (.iload_n 1, 1) := by decide +kernel
theorem dX8_count_1 : decode cX8_count 1 = .ok (.tableswitch 81 0 5 #[39, 47, 55, 60, 68, 76], 39) := by decide +kernel
theorem dX8_count_40 : decode cX8_count 40 = .ok (.aload_n 0, 1) := by decide +kernel
theorem dX8_count_41 : decode cX8_count 41 = .ok (.getfield 10, 3) := by decide +kernel
theorem dX8_count_44 : decode cX8_count 44 = .ok (.getfield 209, 3) := by decide +kernel
theorem dX8_count_47 : decode cX8_count 47 = .ok (.ireturn, 1) := by decide +kernel
theorem dX8_count_48 : decode cX8_count 48 = .ok (.aload_n 0, 1) := by decide +kernel
theorem dX8_count_49 : decode cX8_count 49 = .ok (.getfield 19, 3) := by decide +kernel
theorem dX8_count_52 : decode cX8_count 52 = .ok (.getfield 210, 3) := by decide +kernel
theorem dX8_count_55 : decode cX8_count 55 = .ok (.ireturn, 1) := by decide +kernel
theorem dX8_count_56 : decode cX8_count 56 = .ok (.aload_n 0, 1) := by decide +kernel
theorem dX8_count_57 : decode cX8_count 57 = .ok (.getfield 66, 3) := by decide +kernel
theorem dX8_count_60 : decode cX8_count 60 = .ok (.ireturn, 1) := by decide +kernel
theorem dX8_count_61 : decode cX8_count 61 = .ok (.aload_n 0, 1) := by decide +kernel
theorem dX8_count_62 : decode cX8_count 62 = .ok (.getfield 33, 3) := by decide +kernel
theorem dX8_count_65 : decode cX8_count 65 = .ok (.getfield 73, 3) := by decide +kernel
theorem dX8_count_68 : decode cX8_count 68 = .ok (.ireturn, 1) := by decide +kernel
theorem dX8_count_69 : decode cX8_count 69 = .ok (.aload_n 0, 1) := by decide +kernel
theorem dX8_count_70 : decode cX8_count 70 = .ok (.getfield 19, 3) := by decide +kernel
theorem dX8_count_73 : decode cX8_count 73 = .ok (.invokevirtual 211, 3) := by decide +kernel
theorem dX8_count_76 : decode cX8_count 76 = .ok (.ireturn, 1) := by decide +kernel
theorem dX8_count_77 : decode cX8_count 77 = .ok (.aload_n 0, 1) := by decide +kernel
theorem dX8_count_78 : decode cX8_count 78 = .ok (.getfield 70, 3) := by decide +kernel
theorem dX8_count_81 : decode cX8_count 81 = .ok (.ireturn, 1) := by decide +kernel
theorem dX8_count_82 : decode cX8_count 82 = .ok (.iconst (-1), 1) := by decide +kernel
theorem dX8_count_83 : decode cX8_count 83 = .ok (.ireturn, 1) := by decide +kernel
theorem dX8_isYear_0 : decode cX8_isYear 0 = .ok (.iload_n 0, 1) := by decide +kernel
theorem dX8_isYear_1 : decode cX8_isYear 1 = .ok (.ifCond .lt 13, 3) := by decide +kernel
theorem dX8_isYear_4 : decode cX8_isYear 4 = .ok (.iload_n 0, 1) := by decide +kernel
theorem dX8_isYear_5 : decode cX8_isYear 5 = .ok (.bipush 6, 2) := by decide +kernel
theorem dX8_isYear_7 : decode cX8_isYear 7 = .ok (.if_icmp .ge 7, 3) := by decide +kernel
theorem dX8_isYear_10 : decode cX8_isYear 10 = .ok (.iconst 1, 1) := by decide +kernel
theorem dX8_isYear_11 : decode cX8_isYear 11 = .ok (.goto 4, 3) := by decide +kernel
theorem dX8_isYear_14 : decode cX8_isYear 14 = .ok (.iconst 0, 1) := by decide +kernel
theorem dX8_isYear_15 : decode cX8_isYear 15 = .ok (.ireturn, 1) := by decide +kernel
theorem dX8_isDay_0 : decode cX8_isDay 0 = .ok (.iload_n 0, 1) := by decide +kernel
theorem dX8_isDay_1 : decode cX8_isDay 1 = .ok (.invokestatic 143, 3) := by decide +kernel
theorem dX8_isDay_4 : decode cX8_isDay 4 = .ok (.ifCond .eq 17, 3) := by decide +kernel
theorem dX8_isDay_7 : decode cX8_isDay 7 = .ok (.iload_n 1, 1) := by decide +kernel
theorem dX8_isDay_8 : decode cX8_isDay 8 = .ok (.ifCond .lt 13, 3) := by decide +kernel
theorem dX8_isDay_11 : decode cX8_isDay 11 = .ok (.iload_n 1, 1) := by decide +kernel
theorem dX8_isDay_12 : decode cX8_isDay 12 = .ok (.bipush 30, 2) := by decide +kernel
theorem dX8_isDay_14 : decode cX8_isDay 14 = .ok (.if_icmp .ge 7, 3) := by decide +kernel
theorem dX8_isDay_17 : decode cX8_isDay 17 = .ok (.iconst 1, 1) := by decide +kernel
theorem dX8_isDay_18 : decode cX8_isDay 18 = .ok (.goto 4, 3) := by decide +kernel
theorem dX8_isDay_21 : decode cX8_isDay 21 = .ok (.iconst 0, 1) := by decide +kernel
theorem dX8_isDay_22 : decode cX8_isDay 22 = .ok (.ireturn, 1) := by decide +kernel
theorem dX8_dateOf_0 : decode cX8_dateOf 0 = .ok (.iload_n 0, 1) := by decide +kernel
theorem dX8_dateOf_1 : decode cX8_dateOf 1 = .ok (.bipush 30, 2) := by decide +kernel
theorem dX8_dateOf_3 : decode cX8_dateOf 3 = .ok (.imul, 1) := by decide +kernel
theorem dX8_dateOf_4 : decode cX8_dateOf 4 = .ok (.iload_n 1, 1) := by decide +kernel
theorem dX8_dateOf_5 : decode cX8_dateOf 5 = .ok (.iadd, 1) := by decide +kernel
theorem dX8_dateOf_6 : decode cX8_dateOf 6 = .ok (.ireturn, 1) := by decide +kernel
theorem dX8_knownDay_0 : decode cX8_knownDay 0 = .ok (.aload_n 0, 1) := by decide +kernel
theorem dX8_knownDay_1 : decode cX8_knownDay 1 = .ok (.getfield 70, 3) := by decide +kernel
theorem dX8_knownDay_4 : decode cX8_knownDay 4 = .ok (.iconst (-1), 1) := by decide +kernel
theorem dX8_knownDay_5 : decode cX8_knownDay 5 = .ok (.if_icmp .ne 10, 3) := by decide +kernel
theorem dX8_knownDay_8 : decode cX8_knownDay 8 = .ok (.aload_n 0, 1) := by decide +kernel
theorem dX8_knownDay_9 : decode cX8_knownDay 9 = .ok (.getfield 66, 3) := by decide +kernel
theorem dX8_knownDay_12 : decode cX8_knownDay 12 = .ok (.goto 7, 3) := by decide +kernel
theorem dX8_knownDay_15 : decode cX8_knownDay 15 = .ok (.aload_n 0, 1) := by decide +kernel
theorem dX8_knownDay_16 : decode cX8_knownDay 16 = .ok (.getfield 70, 3) := by decide +kernel
theorem dX8_knownDay_19 : decode cX8_knownDay 19 = .ok (.ireturn, 1) := by decide +kernel
theorem dX8_missedOf_0 : decode cX8_missedOf 0 = .ok (.aload_n 0, 1) := by decide +kernel
theorem dX8_missedOf_1 : decode cX8_missedOf 1 = .ok (.getfield 58, 3) := by decide +kernel
theorem dX8_missedOf_4 : decode cX8_missedOf 4 = .ok (.invokevirtual 214, 3) := by decide +kernel
theorem dX8_missedOf_7 : decode cX8_missedOf 7 = .ok (.aload_n 0, 1) := by decide +kernel
theorem dX8_missedOf_8 : decode cX8_missedOf 8 = .ok (.getfield 26, 3) := by decide +kernel
theorem dX8_missedOf_11 : decode cX8_missedOf 11 = .ok (.iload_n 1, 1) := by decide +kernel
theorem dX8_missedOf_12 : decode cX8_missedOf 12 = .ok (.aload_n 0, 1) := by decide +kernel
theorem dX8_missedOf_13 : decode cX8_missedOf 13 = .ok (.getfield 58, 3) := by decide +kernel
theorem dX8_missedOf_16 : decode cX8_missedOf 16 = .ok (.getfield 215, 3) := by decide +kernel
theorem dX8_missedOf_19 : decode cX8_missedOf 19 = .ok (.aload_n 0, 1) := by decide +kernel
theorem dX8_missedOf_20 : decode cX8_missedOf 20 = .ok (.getfield 58, 3) := by decide +kernel
theorem dX8_missedOf_23 : decode cX8_missedOf 23 = .ok (.getfield 218, 3) := by decide +kernel
theorem dX8_missedOf_26 : decode cX8_missedOf 26 = .ok (.invokevirtual 221, 3) := by decide +kernel
theorem dX8_missedOf_29 : decode cX8_missedOf 29 = .ok (.aload_n 0, 1) := by decide +kernel
theorem dX8_missedOf_30 : decode cX8_missedOf 30 = .ok (.getfield 42, 3) := by decide +kernel
theorem dX8_missedOf_33 : decode cX8_missedOf 33 = .ok (.iload_n 1, 1) := by decide +kernel
theorem dX8_missedOf_34 : decode cX8_missedOf 34 = .ok (.aload_n 0, 1) := by decide +kernel
theorem dX8_missedOf_35 : decode cX8_missedOf 35 = .ok (.getfield 26, 3) := by decide +kernel
theorem dX8_missedOf_38 : decode cX8_missedOf 38 = .ok (.aload_n 0, 1) := by decide +kernel
theorem dX8_missedOf_39 : decode cX8_missedOf 39 = .ok (.getfield 58, 3) := by decide +kernel
theorem dX8_missedOf_42 : decode cX8_missedOf 42 = .ok (.getfield 225, 3) := by decide +kernel
theorem dX8_missedOf_45 : decode cX8_missedOf 45 = .ok (.invokevirtual 228, 3) := by decide +kernel
theorem dX8_missedOf_48 : decode cX8_missedOf 48 = .ok (.aload_n 0, 1) := by decide +kernel
theorem dX8_missedOf_49 : decode cX8_missedOf 49 = .ok (.getfield 58, 3) := by decide +kernel
theorem dX8_missedOf_52 : decode cX8_missedOf 52 = .ok (.invokevirtual 232, 3) := by decide +kernel
theorem dX8_missedOf_55 : decode cX8_missedOf 55 = .ok (.ireturn, 1) := by decide +kernel
theorem dX8_totalOf_0 : decode cX8_totalOf 0 = .ok (.sipush 1000, 3) := by decide +kernel
theorem dX8_totalOf_3 : decode cX8_totalOf 3 = .ok (.aload_n 0, 1) := by decide +kernel
theorem dX8_totalOf_4 : decode cX8_totalOf 4 = .ok (.getfield 42, 3) := by decide +kernel
theorem dX8_totalOf_7 : decode cX8_totalOf 7 = .ok (.iload_n 1, 1) := by decide +kernel
theorem dX8_totalOf_8 : decode cX8_totalOf 8 = .ok (.invokevirtual 177, 3) := by decide +kernel
theorem dX8_totalOf_11 : decode cX8_totalOf 11 = .ok (.imul, 1) := by decide +kernel
theorem dX8_totalOf_12 : decode cX8_totalOf 12 = .ok (.aload_n 0, 1) := by decide +kernel
theorem dX8_totalOf_13 : decode cX8_totalOf 13 = .ok (.iload_n 1, 1) := by decide +kernel
theorem dX8_totalOf_14 : decode cX8_totalOf 14 = .ok (.invokevirtual 183, 3) := by decide +kernel
theorem dX8_totalOf_17 : decode cX8_totalOf 17 = .ok (.iadd, 1) := by decide +kernel
theorem dX8_totalOf_18 : decode cX8_totalOf 18 = .ok (.ireturn, 1) := by decide +kernel
theorem dX8_slotOfNth_0 : decode cX8_slotOfNth 0 = .ok (.iconst 0, 1) := by decide +kernel
theorem dX8_slotOfNth_1 : decode cX8_slotOfNth 1 = .ok (.istore_n 2, 1) := by decide +kernel
theorem dX8_slotOfNth_2 : decode cX8_slotOfNth 2 = .ok (.iconst 0, 1) := by decide +kernel
theorem dX8_slotOfNth_3 : decode cX8_slotOfNth 3 = .ok (.istore_n 3, 1) := by decide +kernel
theorem dX8_slotOfNth_4 : decode cX8_slotOfNth 4 = .ok (.iload_n 3, 1) := by decide +kernel
theorem dX8_slotOfNth_5 : decode cX8_slotOfNth 5 = .ok (.sipush 300, 3) := by decide +kernel
theorem dX8_slotOfNth_8 : decode cX8_slotOfNth 8 = .ok (.if_icmp .ge 25, 3) := by decide +kernel
theorem dX8_slotOfNth_11 : decode cX8_slotOfNth 11 = .ok (.iload_n 2, 1) := by decide +kernel
theorem dX8_slotOfNth_12 : decode cX8_slotOfNth 12 = .ok (.aload_n 0, 1) := by decide +kernel
theorem dX8_slotOfNth_13 : decode cX8_slotOfNth 13 = .ok (.getfield 62, 3) := by decide +kernel
theorem dX8_slotOfNth_16 : decode cX8_slotOfNth 16 = .ok (.iload_n 3, 1) := by decide +kernel
theorem dX8_slotOfNth_17 : decode cX8_slotOfNth 17 = .ok (.iaload, 1) := by decide +kernel
theorem dX8_slotOfNth_18 : decode cX8_slotOfNth 18 = .ok (.iadd, 1) := by decide +kernel
theorem dX8_slotOfNth_19 : decode cX8_slotOfNth 19 = .ok (.istore_n 2, 1) := by decide +kernel
theorem dX8_slotOfNth_20 : decode cX8_slotOfNth 20 = .ok (.iload_n 2, 1) := by decide +kernel
theorem dX8_slotOfNth_21 : decode cX8_slotOfNth 21 = .ok (.iload_n 1, 1) := by decide +kernel
theorem dX8_slotOfNth_22 : decode cX8_slotOfNth 22 = .ok (.if_icmp .lt 5, 3) := by decide +kernel
theorem dX8_slotOfNth_25 : decode cX8_slotOfNth 25 = .ok (.iload_n 3, 1) := by decide +kernel
theorem dX8_slotOfNth_26 : decode cX8_slotOfNth 26 = .ok (.ireturn, 1) := by decide +kernel
theorem dX8_slotOfNth_27 : decode cX8_slotOfNth 27 = .ok (.iinc 3 1, 3) := by decide +kernel
theorem dX8_slotOfNth_30 : decode cX8_slotOfNth 30 = .ok (.goto (-26), 3) := by decide +kernel
theorem dX8_slotOfNth_33 : decode cX8_slotOfNth 33 = .ok (.iconst (-1), 1) := by decide +kernel
theorem dX8_slotOfNth_34 : decode cX8_slotOfNth 34 = .ok (.ireturn, 1) := by decide +kernel
theorem dJ6_bitCount_0f7a4_0 : decode cJ6_bitCount_0f7a4 0 = .ok (.iload_n 0, 1) := by decide +kernel
theorem dJ6_bitCount_0f7a4_1 : decode cJ6_bitCount_0f7a4 1 = .ok (.iload_n 0, 1) := by decide +kernel
theorem dJ6_bitCount_0f7a4_2 : decode cJ6_bitCount_0f7a4 2 = .ok (.iconst 1, 1) := by decide +kernel
theorem dJ6_bitCount_0f7a4_3 : decode cJ6_bitCount_0f7a4 3 = .ok (.iushr, 1) := by decide +kernel
theorem dJ6_bitCount_0f7a4_4 : decode cJ6_bitCount_0f7a4 4 = .ok (.ldc_w 265, 3) := by decide +kernel
theorem dJ6_bitCount_0f7a4_7 : decode cJ6_bitCount_0f7a4 7 = .ok (.iand, 1) := by decide +kernel
theorem dJ6_bitCount_0f7a4_8 : decode cJ6_bitCount_0f7a4 8 = .ok (.isub, 1) := by decide +kernel
theorem dJ6_bitCount_0f7a4_9 : decode cJ6_bitCount_0f7a4 9 = .ok (.istore_n 0, 1) := by decide +kernel
theorem dJ6_bitCount_0f7a4_10 : decode cJ6_bitCount_0f7a4 10 = .ok (.iload_n 0, 1) := by decide +kernel
theorem dJ6_bitCount_0f7a4_11 : decode cJ6_bitCount_0f7a4 11 = .ok (.ldc_w 266, 3) := by decide +kernel
theorem dJ6_bitCount_0f7a4_14 : decode cJ6_bitCount_0f7a4 14 = .ok (.iand, 1) := by decide +kernel
theorem dJ6_bitCount_0f7a4_15 : decode cJ6_bitCount_0f7a4 15 = .ok (.iload_n 0, 1) := by decide +kernel
theorem dJ6_bitCount_0f7a4_16 : decode cJ6_bitCount_0f7a4 16 = .ok (.iconst 2, 1) := by decide +kernel
theorem dJ6_bitCount_0f7a4_17 : decode cJ6_bitCount_0f7a4 17 = .ok (.iushr, 1) := by decide +kernel
theorem dJ6_bitCount_0f7a4_18 : decode cJ6_bitCount_0f7a4 18 = .ok (.ldc_w 266, 3) := by decide +kernel
theorem dJ6_bitCount_0f7a4_21 : decode cJ6_bitCount_0f7a4 21 = .ok (.iand, 1) := by decide +kernel
theorem dJ6_bitCount_0f7a4_22 : decode cJ6_bitCount_0f7a4 22 = .ok (.iadd, 1) := by decide +kernel
theorem dJ6_bitCount_0f7a4_23 : decode cJ6_bitCount_0f7a4 23 = .ok (.istore_n 0, 1) := by decide +kernel
theorem dJ6_bitCount_0f7a4_24 : decode cJ6_bitCount_0f7a4 24 = .ok (.iload_n 0, 1) := by decide +kernel
theorem dJ6_bitCount_0f7a4_25 : decode cJ6_bitCount_0f7a4 25 = .ok (.iload_n 0, 1) := by decide +kernel
theorem dJ6_bitCount_0f7a4_26 : decode cJ6_bitCount_0f7a4 26 = .ok (.iconst 4, 1) := by decide +kernel
theorem dJ6_bitCount_0f7a4_27 : decode cJ6_bitCount_0f7a4 27 = .ok (.iushr, 1) := by decide +kernel
theorem dJ6_bitCount_0f7a4_28 : decode cJ6_bitCount_0f7a4 28 = .ok (.iadd, 1) := by decide +kernel
theorem dJ6_bitCount_0f7a4_29 : decode cJ6_bitCount_0f7a4 29 = .ok (.ldc_w 267, 3) := by decide +kernel
theorem dJ6_bitCount_0f7a4_32 : decode cJ6_bitCount_0f7a4 32 = .ok (.iand, 1) := by decide +kernel
theorem dJ6_bitCount_0f7a4_33 : decode cJ6_bitCount_0f7a4 33 = .ok (.istore_n 0, 1) := by decide +kernel
theorem dJ6_bitCount_0f7a4_34 : decode cJ6_bitCount_0f7a4 34 = .ok (.iload_n 0, 1) := by decide +kernel
theorem dJ6_bitCount_0f7a4_35 : decode cJ6_bitCount_0f7a4 35 = .ok (.iload_n 0, 1) := by decide +kernel
theorem dJ6_bitCount_0f7a4_36 : decode cJ6_bitCount_0f7a4 36 = .ok (.bipush 8, 2) := by decide +kernel
theorem dJ6_bitCount_0f7a4_38 : decode cJ6_bitCount_0f7a4 38 = .ok (.iushr, 1) := by decide +kernel
theorem dJ6_bitCount_0f7a4_39 : decode cJ6_bitCount_0f7a4 39 = .ok (.iadd, 1) := by decide +kernel
theorem dJ6_bitCount_0f7a4_40 : decode cJ6_bitCount_0f7a4 40 = .ok (.istore_n 0, 1) := by decide +kernel
theorem dJ6_bitCount_0f7a4_41 : decode cJ6_bitCount_0f7a4 41 = .ok (.iload_n 0, 1) := by decide +kernel
theorem dJ6_bitCount_0f7a4_42 : decode cJ6_bitCount_0f7a4 42 = .ok (.iload_n 0, 1) := by decide +kernel
theorem dJ6_bitCount_0f7a4_43 : decode cJ6_bitCount_0f7a4 43 = .ok (.bipush 16, 2) := by decide +kernel
theorem dJ6_bitCount_0f7a4_45 : decode cJ6_bitCount_0f7a4 45 = .ok (.iushr, 1) := by decide +kernel
theorem dJ6_bitCount_0f7a4_46 : decode cJ6_bitCount_0f7a4 46 = .ok (.iadd, 1) := by decide +kernel
theorem dJ6_bitCount_0f7a4_47 : decode cJ6_bitCount_0f7a4 47 = .ok (.istore_n 0, 1) := by decide +kernel
theorem dJ6_bitCount_0f7a4_48 : decode cJ6_bitCount_0f7a4 48 = .ok (.iload_n 0, 1) := by decide +kernel
theorem dJ6_bitCount_0f7a4_49 : decode cJ6_bitCount_0f7a4 49 = .ok (.bipush 63, 2) := by decide +kernel
theorem dJ6_bitCount_0f7a4_51 : decode cJ6_bitCount_0f7a4 51 = .ok (.iand, 1) := by decide +kernel
theorem dJ6_bitCount_0f7a4_52 : decode cJ6_bitCount_0f7a4 52 = .ok (.ireturn, 1) := by decide +kernel
theorem dJ9_max_7cf53_0 : decode cJ9_max_7cf53 0 = .ok (.iload_n 0, 1) := by decide +kernel
theorem dJ9_max_7cf53_1 : decode cJ9_max_7cf53 1 = .ok (.iload_n 1, 1) := by decide +kernel
theorem dJ9_max_7cf53_2 : decode cJ9_max_7cf53 2 = .ok (.if_icmp .lt 7, 3) := by decide +kernel
theorem dJ9_max_7cf53_5 : decode cJ9_max_7cf53 5 = .ok (.iload_n 0, 1) := by decide +kernel
theorem dJ9_max_7cf53_6 : decode cJ9_max_7cf53 6 = .ok (.goto 4, 3) := by decide +kernel
theorem dJ9_max_7cf53_9 : decode cJ9_max_7cf53 9 = .ok (.iload_n 1, 1) := by decide +kernel
theorem dJ9_max_7cf53_10 : decode cJ9_max_7cf53 10 = .ok (.ireturn, 1) := by decide +kernel
theorem dJ9_min_7cf53_0 : decode cJ9_min_7cf53 0 = .ok (.iload_n 0, 1) := by decide +kernel
theorem dJ9_min_7cf53_1 : decode cJ9_min_7cf53 1 = .ok (.iload_n 1, 1) := by decide +kernel
theorem dJ9_min_7cf53_2 : decode cJ9_min_7cf53 2 = .ok (.if_icmp .gt 7, 3) := by decide +kernel
theorem dJ9_min_7cf53_5 : decode cJ9_min_7cf53 5 = .ok (.iload_n 0, 1) := by decide +kernel
theorem dJ9_min_7cf53_6 : decode cJ9_min_7cf53 6 = .ok (.goto 4, 3) := by decide +kernel
theorem dJ9_min_7cf53_9 : decode cJ9_min_7cf53 9 = .ok (.iload_n 1, 1) := by decide +kernel
theorem dJ9_min_7cf53_10 : decode cJ9_min_7cf53 10 = .ok (.ireturn, 1) := by decide +kernel
end
section
theorem dX9_thrown_0 : decode cX9_thrown 0 = .ok (.aload_n 0, 1) := by decide +kernel
theorem dX9_thrown_1 : decode cX9_thrown 1 = .ok (.getfield 1, 3) := by decide +kernel
theorem dX9_thrown_4 : decode cX9_thrown 4 = .ok (.ireturn, 1) := by decide +kernel
theorem dX9_init_0 : decode cX9_init 0 = .ok (.aload_n 0, 1) := by decide +kernel
theorem dX9_init_1 : decode cX9_init 1 = .ok (.invokespecial 7, 3) := by decide +kernel
theorem dX9_init_4 : decode cX9_init 4 = .ok (.aload_n 0, 1) := by decide +kernel
theorem dX9_init_5 : decode cX9_init 5 = .ok (.iconst 4, 1) := by decide +kernel
theorem dX9_init_6 : decode cX9_init 6 = .ok (.newarray .int, 2) := by decide +kernel
theorem dX9_init_8 : decode cX9_init 8 = .ok (.putfield 13, 3) := by decide +kernel
theorem dX9_init_11 : decode cX9_init 11 = .ok (.aload_n 0, 1) := by decide +kernel
theorem dX9_init_12 : decode cX9_init 12 = .ok (.iconst 1, 1) := by decide +kernel
theorem dX9_init_13 : decode cX9_init 13 = .ok (.putfield 17, 3) := by decide +kernel
theorem dX9_init_16 : decode cX9_init 16 = .ok (.aload_n 0, 1) := by decide +kernel
theorem dX9_init_17 : decode cX9_init 17 = .ok (.bipush 20, 2) := by decide +kernel
theorem dX9_init_19 : decode cX9_init 19 = .ok (.newarray .int, 2) := by decide +kernel
theorem dX9_init_21 : decode cX9_init 21 = .ok (.putfield 20, 3) := by decide +kernel
theorem dX9_init_24 : decode cX9_init 24 = .ok (.aload_n 0, 1) := by decide +kernel
theorem dX9_init_25 : decode cX9_init 25 = .ok (.bipush 20, 2) := by decide +kernel
theorem dX9_init_27 : decode cX9_init 27 = .ok (.newarray .int, 2) := by decide +kernel
theorem dX9_init_29 : decode cX9_init 29 = .ok (.putfield 23, 3) := by decide +kernel
theorem dX9_init_32 : decode cX9_init 32 = .ok (.aload_n 0, 1) := by decide +kernel
theorem dX9_init_33 : decode cX9_init 33 = .ok (.bipush 20, 2) := by decide +kernel
theorem dX9_init_35 : decode cX9_init 35 = .ok (.newarray .int, 2) := by decide +kernel
theorem dX9_init_37 : decode cX9_init 37 = .ok (.putfield 26, 3) := by decide +kernel
theorem dX9_init_40 : decode cX9_init 40 = .ok (.aload_n 0, 1) := by decide +kernel
theorem dX9_init_41 : decode cX9_init 41 = .ok (.iconst (-1), 1) := by decide +kernel
theorem dX9_init_42 : decode cX9_init 42 = .ok (.putfield 29, 3) := by decide +kernel
theorem dX9_init_45 : decode cX9_init 45 = .ok (.aload_n 0, 1) := by decide +kernel
theorem dX9_init_46 : decode cX9_init 46 = .ok (.sipush 300, 3) := by decide +kernel
theorem dX9_init_49 : decode cX9_init 49 = .ok (.newarray .int, 2) := by decide +kernel
theorem dX9_init_51 : decode cX9_init 51 = .ok (.putfield 32, 3) := by decide +kernel
theorem dX9_init_54 : decode cX9_init 54 = .ok (.aload_n 0, 1) := by decide +kernel
theorem dX9_init_55 : decode cX9_init 55 = .ok (.sipush 300, 3) := by decide +kernel
theorem dX9_init_58 : decode cX9_init 58 = .ok (.newarray .int, 2) := by decide +kernel
theorem dX9_init_60 : decode cX9_init 60 = .ok (.putfield 35, 3) := by decide +kernel
theorem dX9_init_63 : decode cX9_init 63 = .ok (.aload_n 0, 1) := by decide +kernel
theorem dX9_init_64 : decode cX9_init 64 = .ok (.sipush 300, 3) := by decide +kernel
theorem dX9_init_67 : decode cX9_init 67 = .ok (.newarray .int, 2) := by decide +kernel
theorem dX9_init_69 : decode cX9_init 69 = .ok (.putfield 38, 3) := by decide +kernel
theorem dX9_init_72 : decode cX9_init 72 = .ok (.aload_n 0, 1) := by decide +kernel
theorem dX9_init_73 : decode cX9_init 73 = .ok (.sipush 300, 3) := by decide +kernel
theorem dX9_init_76 : decode cX9_init 76 = .ok (.newarray .int, 2) := by decide +kernel
theorem dX9_init_78 : decode cX9_init 78 = .ok (.putfield 41, 3) := by decide +kernel
theorem dX9_init_81 : decode cX9_init 81 = .ok (.aload_n 0, 1) := by decide +kernel
theorem dX9_init_82 : decode cX9_init 82 = .ok (.sipush 300, 3) := by decide +kernel
theorem dX9_init_85 : decode cX9_init 85 = .ok (.newarray .int, 2) := by decide +kernel
theorem dX9_init_87 : decode cX9_init 87 = .ok (.putfield 44, 3) := by decide +kernel
theorem dX9_init_90 : decode cX9_init 90 = .ok (.aload_n 0, 1) := by decide +kernel
theorem dX9_init_91 : decode cX9_init 91 = .ok (.sipush 300, 3) := by decide +kernel
theorem dX9_init_94 : decode cX9_init 94 = .ok (.newarray .int, 2) := by decide +kernel
theorem dX9_init_96 : decode cX9_init 96 = .ok (.putfield 47, 3) := by decide +kernel
theorem dX9_init_99 : decode cX9_init 99 = .ok (.aload_n 0, 1) := by decide +kernel
theorem dX9_init_100 : decode cX9_init 100 = .ok (.sipush 1800, 3) := by decide +kernel
theorem dX9_init_103 : decode cX9_init 103 = .ok (.newarray .boolean, 2) := by decide +kernel
theorem dX9_init_105 : decode cX9_init 105 = .ok (.putfield 50, 3) := by decide +kernel
theorem dX9_init_108 : decode cX9_init 108 = .ok (.aload_n 0, 1) := by decide +kernel
theorem dX9_init_109 : decode cX9_init 109 = .ok (.sipush 180, 3) := by decide +kernel
theorem dX9_init_112 : decode cX9_init 112 = .ok (.newarray .int, 2) := by decide +kernel
theorem dX9_init_114 : decode cX9_init 114 = .ok (.putfield 54, 3) := by decide +kernel
theorem dX9_init_117 : decode cX9_init 117 = .ok (.aload_n 0, 1) := by decide +kernel
theorem dX9_init_118 : decode cX9_init 118 = .ok (.sipush 300, 3) := by decide +kernel
theorem dX9_init_121 : decode cX9_init 121 = .ok (.newarray .int, 2) := by decide +kernel
theorem dX9_init_123 : decode cX9_init 123 = .ok (.putfield 57, 3) := by decide +kernel
theorem dX9_init_126 : decode cX9_init 126 = .ok (.aload_n 0, 1) := by decide +kernel
theorem dX9_init_127 : decode cX9_init 127 = .ok (.sipush 300, 3) := by decide +kernel
theorem dX9_init_130 : decode cX9_init 130 = .ok (.newarray .int, 2) := by decide +kernel
theorem dX9_init_132 : decode cX9_init 132 = .ok (.putfield 60, 3) := by decide +kernel
theorem dX9_init_135 : decode cX9_init 135 = .ok (.aload_n 0, 1) := by decide +kernel
theorem dX9_init_136 : decode cX9_init 136 = .ok (.bipush 12, 2) := by decide +kernel
theorem dX9_init_138 : decode cX9_init 138 = .ok (.newarray .int, 2) := by decide +kernel
theorem dX9_init_140 : decode cX9_init 140 = .ok (.putfield 63, 3) := by decide +kernel
theorem dX9_init_143 : decode cX9_init 143 = .ok (.aload_n 0, 1) := by decide +kernel
theorem dX9_init_144 : decode cX9_init 144 = .ok (.bipush 12, 2) := by decide +kernel
theorem dX9_init_146 : decode cX9_init 146 = .ok (.newarray .int, 2) := by decide +kernel
theorem dX9_init_148 : decode cX9_init 148 = .ok (.putfield 66, 3) := by decide +kernel
theorem dX9_init_151 : decode cX9_init 151 = .ok (.aload_n 0, 1) := by decide +kernel
theorem dX9_init_152 : decode cX9_init 152 = .ok (.sipush 144, 3) := by decide +kernel
theorem dX9_init_155 : decode cX9_init 155 = .ok (.newarray .boolean, 2) := by decide +kernel
theorem dX9_init_157 : decode cX9_init 157 = .ok (.putfield 69, 3) := by decide +kernel
theorem dX9_init_160 : decode cX9_init 160 = .ok (.aload_n 0, 1) := by decide +kernel
theorem dX9_init_161 : decode cX9_init 161 = .ok (.bipush 12, 2) := by decide +kernel
theorem dX9_init_163 : decode cX9_init 163 = .ok (.newarray .int, 2) := by decide +kernel
theorem dX9_init_165 : decode cX9_init 165 = .ok (.putfield 72, 3) := by decide +kernel
theorem dX9_init_168 : decode cX9_init 168 = .ok (.aload_n 0, 1) := by decide +kernel
theorem dX9_init_169 : decode cX9_init 169 = .ok (.bipush 12, 2) := by decide +kernel
theorem dX9_init_171 : decode cX9_init 171 = .ok (.newarray .boolean, 2) := by decide +kernel
theorem dX9_init_173 : decode cX9_init 173 = .ok (.putfield 75, 3) := by decide +kernel
theorem dX9_init_176 : decode cX9_init 176 = .ok (.aload_n 0, 1) := by decide +kernel
theorem dX9_init_177 : decode cX9_init 177 = .ok (.bipush 12, 2) := by decide +kernel
theorem dX9_init_179 : decode cX9_init 179 = .ok (.newarray .boolean, 2) := by decide +kernel
theorem dX9_init_181 : decode cX9_init 181 = .ok (.putfield 78, 3) := by decide +kernel
theorem dX9_init_184 : decode cX9_init 184 = .ok (.aload_n 0, 1) := by decide +kernel
theorem dX9_init_185 : decode cX9_init 185 = .ok (.bipush 12, 2) := by decide +kernel
theorem dX9_init_187 : decode cX9_init 187 = .ok (.newarray .boolean, 2) := by decide +kernel
theorem dX9_init_189 : decode cX9_init 189 = .ok (.putfield 81, 3) := by decide +kernel
theorem dX9_init_192 : decode cX9_init 192 = .ok (.aload_n 0, 1) := by decide +kernel
theorem dX9_init_193 : decode cX9_init 193 = .ok (.bipush 20, 2) := by decide +kernel
theorem dX9_init_195 : decode cX9_init 195 = .ok (.newarray .int, 2) := by decide +kernel
theorem dX9_init_197 : decode cX9_init 197 = .ok (.putfield 84, 3) := by decide +kernel
theorem dX9_init_200 : decode cX9_init 200 = .ok (.aload_n 0, 1) := by decide +kernel
theorem dX9_init_201 : decode cX9_init 201 = .ok (.bipush 20, 2) := by decide +kernel
theorem dX9_init_203 : decode cX9_init 203 = .ok (.newarray .int, 2) := by decide +kernel
theorem dX9_init_205 : decode cX9_init 205 = .ok (.putfield 87, 3) := by decide +kernel
theorem dX9_init_208 : decode cX9_init 208 = .ok (.aload_n 0, 1) := by decide +kernel
theorem dX9_init_209 : decode cX9_init 209 = .ok (.bipush 20, 2) := by decide +kernel
theorem dX9_init_211 : decode cX9_init 211 = .ok (.newarray .int, 2) := by decide +kernel
theorem dX9_init_213 : decode cX9_init 213 = .ok (.putfield 90, 3) := by decide +kernel
theorem dX9_init_216 : decode cX9_init 216 = .ok (.aload_n 0, 1) := by decide +kernel
theorem dX9_init_217 : decode cX9_init 217 = .ok (.iconst 4, 1) := by decide +kernel
theorem dX9_init_218 : decode cX9_init 218 = .ok (.newarray .long, 2) := by decide +kernel
theorem dX9_init_220 : decode cX9_init 220 = .ok (.putfield 93, 3) := by decide +kernel
theorem dX9_init_223 : decode cX9_init 223 = .ok (.aload_n 0, 1) := by decide +kernel
theorem dX9_init_224 : decode cX9_init 224 = .ok (.iconst 4, 1) := by decide +kernel
theorem dX9_init_225 : decode cX9_init 225 = .ok (.newarray .long, 2) := by decide +kernel
theorem dX9_init_227 : decode cX9_init 227 = .ok (.putfield 97, 3) := by decide +kernel
theorem dX9_init_230 : decode cX9_init 230 = .ok (.aload_n 0, 1) := by decide +kernel
theorem dX9_init_231 : decode cX9_init 231 = .ok (.getfield 20, 3) := by decide +kernel
theorem dX9_init_234 : decode cX9_init 234 = .ok (.iconst 0, 1) := by decide +kernel
theorem dX9_init_235 : decode cX9_init 235 = .ok (.iconst (-1), 1) := by decide +kernel
theorem dX9_init_236 : decode cX9_init 236 = .ok (.iastore, 1) := by decide +kernel
theorem dX9_init_237 : decode cX9_init 237 = .ok (.aload_n 0, 1) := by decide +kernel
theorem dX9_init_238 : decode cX9_init 238 = .ok (.getfield 23, 3) := by decide +kernel
theorem dX9_init_241 : decode cX9_init 241 = .ok (.iconst 0, 1) := by decide +kernel
theorem dX9_init_242 : decode cX9_init 242 = .ok (.iconst 1, 1) := by decide +kernel
theorem dX9_init_243 : decode cX9_init 243 = .ok (.iastore, 1) := by decide +kernel
theorem dX9_init_244 : decode cX9_init 244 = .ok (.aload_n 0, 1) := by decide +kernel
theorem dX9_init_245 : decode cX9_init 245 = .ok (.getfield 26, 3) := by decide +kernel
theorem dX9_init_248 : decode cX9_init 248 = .ok (.iconst 0, 1) := by decide +kernel
theorem dX9_init_249 : decode cX9_init 249 = .ok (.sipush 400, 3) := by decide +kernel
theorem dX9_init_252 : decode cX9_init 252 = .ok (.iastore, 1) := by decide +kernel
theorem dX9_init_253 : decode cX9_init 253 = .ok (.return_, 1) := by decide +kernel
theorem dX9_post_0 : decode cX9_post 0 = .ok (.aload_n 0, 1) := by decide +kernel
theorem dX9_post_1 : decode cX9_post 1 = .ok (.iconst 0, 1) := by decide +kernel
theorem dX9_post_2 : decode cX9_post 2 = .ok (.putfield 1, 3) := by decide +kernel
theorem dX9_post_5 : decode cX9_post 5 = .ok (.iload_n 1, 1) := by decide +kernel
theorem dX9_post_6 : decode cX9_post 6 = .ok (.ifCond .lt 47, 3) := by decide +kernel
theorem dX9_post_9 : decode cX9_post 9 = .ok (.iload_n 1, 1) := by decide +kernel
theorem dX9_post_10 : decode cX9_post 10 = .ok (.sipush 400, 3) := by decide +kernel
theorem dX9_post_13 : decode cX9_post 13 = .ok (.if_icmp .gt 40, 3) := by decide +kernel
theorem dX9_post_16 : decode cX9_post 16 = .ok (.aload_n 0, 1) := by decide +kernel
theorem dX9_post_17 : decode cX9_post 17 = .ok (.getfield 100, 3) := by decide +kernel
theorem dX9_post_20 : decode cX9_post 20 = .ok (.iconst 4, 1) := by decide +kernel
theorem dX9_post_21 : decode cX9_post 21 = .ok (.if_icmp .eq 32, 3) := by decide +kernel
theorem dX9_post_24 : decode cX9_post 24 = .ok (.aload_n 0, 1) := by decide +kernel
theorem dX9_post_25 : decode cX9_post 25 = .ok (.getfield 103, 3) := by decide +kernel
theorem dX9_post_28 : decode cX9_post 28 = .ok (.ifCond .gt 25, 3) := by decide +kernel
theorem dX9_post_31 : decode cX9_post 31 = .ok (.aload_n 0, 1) := by decide +kernel
theorem dX9_post_32 : decode cX9_post 32 = .ok (.getfield 100, 3) := by decide +kernel
theorem dX9_post_35 : decode cX9_post 35 = .ok (.ifCond .le 20, 3) := by decide +kernel
theorem dX9_post_38 : decode cX9_post 38 = .ok (.iload_n 1, 1) := by decide +kernel
theorem dX9_post_39 : decode cX9_post 39 = .ok (.aload_n 0, 1) := by decide +kernel
theorem dX9_post_40 : decode cX9_post 40 = .ok (.getfield 13, 3) := by decide +kernel
theorem dX9_post_43 : decode cX9_post 43 = .ok (.aload_n 0, 1) := by decide +kernel
theorem dX9_post_44 : decode cX9_post 44 = .ok (.getfield 100, 3) := by decide +kernel
theorem dX9_post_47 : decode cX9_post 47 = .ok (.iconst 1, 1) := by decide +kernel
theorem dX9_post_48 : decode cX9_post 48 = .ok (.isub, 1) := by decide +kernel
theorem dX9_post_49 : decode cX9_post 49 = .ok (.iaload, 1) := by decide +kernel
theorem dX9_post_50 : decode cX9_post 50 = .ok (.if_icmp .gt 5, 3) := by decide +kernel
theorem dX9_post_53 : decode cX9_post 53 = .ok (.iconst (-1), 1) := by decide +kernel
theorem dX9_post_54 : decode cX9_post 54 = .ok (.ireturn, 1) := by decide +kernel
theorem dX9_post_55 : decode cX9_post 55 = .ok (.aload_n 0, 1) := by decide +kernel
theorem dX9_post_56 : decode cX9_post 56 = .ok (.getfield 13, 3) := by decide +kernel
theorem dX9_post_59 : decode cX9_post 59 = .ok (.aload_n 0, 1) := by decide +kernel
theorem dX9_post_60 : decode cX9_post 60 = .ok (.getfield 100, 3) := by decide +kernel
theorem dX9_post_63 : decode cX9_post 63 = .ok (.iload_n 1, 1) := by decide +kernel
theorem dX9_post_64 : decode cX9_post 64 = .ok (.iastore, 1) := by decide +kernel
theorem dX9_post_65 : decode cX9_post 65 = .ok (.aload_n 0, 1) := by decide +kernel
theorem dX9_post_66 : decode cX9_post 66 = .ok (.dup, 1) := by decide +kernel
theorem dX9_post_67 : decode cX9_post 67 = .ok (.getfield 100, 3) := by decide +kernel
theorem dX9_post_70 : decode cX9_post 70 = .ok (.iconst 1, 1) := by decide +kernel
theorem dX9_post_71 : decode cX9_post 71 = .ok (.iadd, 1) := by decide +kernel
theorem dX9_post_72 : decode cX9_post 72 = .ok (.putfield 100, 3) := by decide +kernel
theorem dX9_post_75 : decode cX9_post 75 = .ok (.aload_n 0, 1) := by decide +kernel
theorem dX9_post_76 : decode cX9_post 76 = .ok (.getfield 100, 3) := by decide +kernel
theorem dX9_post_79 : decode cX9_post 79 = .ok (.iconst 1, 1) := by decide +kernel
theorem dX9_post_80 : decode cX9_post 80 = .ok (.isub, 1) := by decide +kernel
theorem dX9_post_81 : decode cX9_post 81 = .ok (.ireturn, 1) := by decide +kernel
theorem dX9_isKind_0 : decode cX9_isKind 0 = .ok (.iload_n 1, 1) := by decide +kernel
theorem dX9_isKind_1 : decode cX9_isKind 1 = .ok (.ifCond .lt 15, 3) := by decide +kernel
theorem dX9_isKind_4 : decode cX9_isKind 4 = .ok (.iload_n 1, 1) := by decide +kernel
theorem dX9_isKind_5 : decode cX9_isKind 5 = .ok (.aload_n 0, 1) := by decide +kernel
theorem dX9_isKind_6 : decode cX9_isKind 6 = .ok (.getfield 17, 3) := by decide +kernel
theorem dX9_isKind_9 : decode cX9_isKind 9 = .ok (.if_icmp .ge 7, 3) := by decide +kernel
theorem dX9_isKind_12 : decode cX9_isKind 12 = .ok (.iconst 1, 1) := by decide +kernel
theorem dX9_isKind_13 : decode cX9_isKind 13 = .ok (.goto 4, 3) := by decide +kernel
theorem dX9_isKind_16 : decode cX9_isKind 16 = .ok (.iconst 0, 1) := by decide +kernel
theorem dX9_isKind_17 : decode cX9_isKind 17 = .ok (.ireturn, 1) := by decide +kernel
theorem dX9_kind_0 : decode cX9_kind 0 = .ok (.aload_n 0, 1) := by decide +kernel
theorem dX9_kind_1 : decode cX9_kind 1 = .ok (.iconst 0, 1) := by decide +kernel
theorem dX9_kind_2 : decode cX9_kind 2 = .ok (.putfield 1, 3) := by decide +kernel
theorem dX9_kind_5 : decode cX9_kind 5 = .ok (.aload_n 0, 1) := by decide +kernel
theorem dX9_kind_6 : decode cX9_kind 6 = .ok (.iload_n 1, 1) := by decide +kernel
theorem dX9_kind_7 : decode cX9_kind 7 = .ok (.invokevirtual 106, 3) := by decide +kernel
theorem dX9_kind_10 : decode cX9_kind 10 = .ok (.ifCond .eq 36, 3) := by decide +kernel
theorem dX9_kind_13 : decode cX9_kind 13 = .ok (.iload_n 2, 1) := by decide +kernel
theorem dX9_kind_14 : decode cX9_kind 14 = .ok (.iconst 1, 1) := by decide +kernel
theorem dX9_kind_15 : decode cX9_kind 15 = .ok (.if_icmp .lt 31, 3) := by decide +kernel
theorem dX9_kind_18 : decode cX9_kind 18 = .ok (.iload_n 3, 1) := by decide +kernel
theorem dX9_kind_19 : decode cX9_kind 19 = .ok (.sipush 400, 3) := by decide +kernel
theorem dX9_kind_22 : decode cX9_kind 22 = .ok (.if_icmp .gt 24, 3) := by decide +kernel
theorem dX9_kind_25 : decode cX9_kind 25 = .ok (.iload_n 2, 1) := by decide +kernel
theorem dX9_kind_26 : decode cX9_kind 26 = .ok (.iload_n 3, 1) := by decide +kernel
theorem dX9_kind_27 : decode cX9_kind 27 = .ok (.if_icmp .gt 19, 3) := by decide +kernel
theorem dX9_kind_30 : decode cX9_kind 30 = .ok (.aload_n 0, 1) := by decide +kernel
theorem dX9_kind_31 : decode cX9_kind 31 = .ok (.getfield 17, 3) := by decide +kernel
theorem dX9_kind_34 : decode cX9_kind 34 = .ok (.bipush 20, 2) := by decide +kernel
theorem dX9_kind_36 : decode cX9_kind 36 = .ok (.if_icmp .eq 10, 3) := by decide +kernel
theorem dX9_kind_39 : decode cX9_kind 39 = .ok (.aload_n 0, 1) := by decide +kernel
theorem dX9_kind_40 : decode cX9_kind 40 = .ok (.getfield 103, 3) := by decide +kernel
theorem dX9_kind_43 : decode cX9_kind 43 = .ok (.ifCond .le 5, 3) := by decide +kernel
theorem dX9_kind_46 : decode cX9_kind 46 = .ok (.iconst (-1), 1) := by decide +kernel
theorem dX9_kind_47 : decode cX9_kind 47 = .ok (.ireturn, 1) := by decide +kernel
theorem dX9_kind_48 : decode cX9_kind 48 = .ok (.aload_n 0, 1) := by decide +kernel
theorem dX9_kind_49 : decode cX9_kind 49 = .ok (.getfield 20, 3) := by decide +kernel
theorem dX9_kind_52 : decode cX9_kind 52 = .ok (.aload_n 0, 1) := by decide +kernel
theorem dX9_kind_53 : decode cX9_kind 53 = .ok (.getfield 17, 3) := by decide +kernel
theorem dX9_kind_56 : decode cX9_kind 56 = .ok (.iload_n 1, 1) := by decide +kernel
theorem dX9_kind_57 : decode cX9_kind 57 = .ok (.iastore, 1) := by decide +kernel
theorem dX9_kind_58 : decode cX9_kind 58 = .ok (.aload_n 0, 1) := by decide +kernel
theorem dX9_kind_59 : decode cX9_kind 59 = .ok (.getfield 23, 3) := by decide +kernel
theorem dX9_kind_62 : decode cX9_kind 62 = .ok (.aload_n 0, 1) := by decide +kernel
theorem dX9_kind_63 : decode cX9_kind 63 = .ok (.getfield 17, 3) := by decide +kernel
theorem dX9_kind_66 : decode cX9_kind 66 = .ok (.iload_n 2, 1) := by decide +kernel
theorem dX9_kind_67 : decode cX9_kind 67 = .ok (.iastore, 1) := by decide +kernel
theorem dX9_kind_68 : decode cX9_kind 68 = .ok (.aload_n 0, 1) := by decide +kernel
theorem dX9_kind_69 : decode cX9_kind 69 = .ok (.getfield 26, 3) := by decide +kernel
theorem dX9_kind_72 : decode cX9_kind 72 = .ok (.aload_n 0, 1) := by decide +kernel
theorem dX9_kind_73 : decode cX9_kind 73 = .ok (.getfield 17, 3) := by decide +kernel
theorem dX9_kind_76 : decode cX9_kind 76 = .ok (.iload_n 3, 1) := by decide +kernel
theorem dX9_kind_77 : decode cX9_kind 77 = .ok (.iastore, 1) := by decide +kernel
theorem dX9_kind_78 : decode cX9_kind 78 = .ok (.aload_n 0, 1) := by decide +kernel
theorem dX9_kind_79 : decode cX9_kind 79 = .ok (.dup, 1) := by decide +kernel
theorem dX9_kind_80 : decode cX9_kind 80 = .ok (.getfield 17, 3) := by decide +kernel
theorem dX9_kind_83 : decode cX9_kind 83 = .ok (.iconst 1, 1) := by decide +kernel
theorem dX9_kind_84 : decode cX9_kind 84 = .ok (.iadd, 1) := by decide +kernel
theorem dX9_kind_85 : decode cX9_kind 85 = .ok (.putfield 17, 3) := by decide +kernel
theorem dX9_kind_88 : decode cX9_kind 88 = .ok (.aload_n 0, 1) := by decide +kernel
theorem dX9_kind_89 : decode cX9_kind 89 = .ok (.getfield 17, 3) := by decide +kernel
theorem dX9_kind_92 : decode cX9_kind 92 = .ok (.iconst 1, 1) := by decide +kernel
theorem dX9_kind_93 : decode cX9_kind 93 = .ok (.isub, 1) := by decide +kernel
theorem dX9_kind_94 : decode cX9_kind 94 = .ok (.ireturn, 1) := by decide +kernel
theorem dX9_isUnder_0 : decode cX9_isUnder 0 = .ok (.iload_n 1, 1) := by decide +kernel
theorem dX9_isUnder_1 : decode cX9_isUnder 1 = .ok (.istore_n 3, 1) := by decide +kernel
theorem dX9_isUnder_2 : decode cX9_isUnder 2 = .ok (.iload_n 3, 1) := by decide +kernel
theorem dX9_isUnder_3 : decode cX9_isUnder 3 = .ok (.ifCond .lt 18, 3) := by decide +kernel
theorem dX9_isUnder_6 : decode cX9_isUnder 6 = .ok (.iload_n 3, 1) := by decide +kernel
theorem dX9_isUnder_7 : decode cX9_isUnder 7 = .ok (.iload_n 2, 1) := by decide +kernel
theorem dX9_isUnder_8 : decode cX9_isUnder 8 = .ok (.if_icmp .eq 13, 3) := by decide +kernel
theorem dX9_isUnder_11 : decode cX9_isUnder 11 = .ok (.aload_n 0, 1) := by decide +kernel
theorem dX9_isUnder_12 : decode cX9_isUnder 12 = .ok (.getfield 20, 3) := by decide +kernel
theorem dX9_isUnder_15 : decode cX9_isUnder 15 = .ok (.iload_n 3, 1) := by decide +kernel
theorem dX9_isUnder_16 : decode cX9_isUnder 16 = .ok (.iaload, 1) := by decide +kernel
theorem dX9_isUnder_17 : decode cX9_isUnder 17 = .ok (.istore_n 3, 1) := by decide +kernel
theorem dX9_isUnder_18 : decode cX9_isUnder 18 = .ok (.goto (-16), 3) := by decide +kernel
theorem dX9_isUnder_21 : decode cX9_isUnder 21 = .ok (.iload_n 3, 1) := by decide +kernel
theorem dX9_isUnder_22 : decode cX9_isUnder 22 = .ok (.iload_n 2, 1) := by decide +kernel
theorem dX9_isUnder_23 : decode cX9_isUnder 23 = .ok (.if_icmp .ne 7, 3) := by decide +kernel
theorem dX9_isUnder_26 : decode cX9_isUnder 26 = .ok (.iconst 1, 1) := by decide +kernel
theorem dX9_isUnder_27 : decode cX9_isUnder 27 = .ok (.goto 4, 3) := by decide +kernel
theorem dX9_isUnder_30 : decode cX9_isUnder 30 = .ok (.iconst 0, 1) := by decide +kernel
theorem dX9_isUnder_31 : decode cX9_isUnder 31 = .ok (.ireturn, 1) := by decide +kernel
theorem dX9_depth_0 : decode cX9_depth 0 = .ok (.iconst 0, 1) := by decide +kernel
theorem dX9_depth_1 : decode cX9_depth 1 = .ok (.istore_n 2, 1) := by decide +kernel
theorem dX9_depth_2 : decode cX9_depth 2 = .ok (.aload_n 0, 1) := by decide +kernel
theorem dX9_depth_3 : decode cX9_depth 3 = .ok (.getfield 20, 3) := by decide +kernel
theorem dX9_depth_6 : decode cX9_depth 6 = .ok (.iload_n 1, 1) := by decide +kernel
theorem dX9_depth_7 : decode cX9_depth 7 = .ok (.iaload, 1) := by decide +kernel
theorem dX9_depth_8 : decode cX9_depth 8 = .ok (.istore_n 3, 1) := by decide +kernel
theorem dX9_depth_9 : decode cX9_depth 9 = .ok (.iload_n 3, 1) := by decide +kernel
theorem dX9_depth_10 : decode cX9_depth 10 = .ok (.ifCond .lt 16, 3) := by decide +kernel
theorem dX9_depth_13 : decode cX9_depth 13 = .ok (.iinc 2 1, 3) := by decide +kernel
theorem dX9_depth_16 : decode cX9_depth 16 = .ok (.aload_n 0, 1) := by decide +kernel
theorem dX9_depth_17 : decode cX9_depth 17 = .ok (.getfield 20, 3) := by decide +kernel
theorem dX9_depth_20 : decode cX9_depth 20 = .ok (.iload_n 3, 1) := by decide +kernel
theorem dX9_depth_21 : decode cX9_depth 21 = .ok (.iaload, 1) := by decide +kernel
theorem dX9_depth_22 : decode cX9_depth 22 = .ok (.istore_n 3, 1) := by decide +kernel
theorem dX9_depth_23 : decode cX9_depth 23 = .ok (.goto (-14), 3) := by decide +kernel
theorem dX9_depth_26 : decode cX9_depth 26 = .ok (.iload_n 2, 1) := by decide +kernel
theorem dX9_depth_27 : decode cX9_depth 27 = .ok (.ireturn, 1) := by decide +kernel
theorem dX9_isLeaf_0 : decode cX9_isLeaf 0 = .ok (.iconst 1, 1) := by decide +kernel
theorem dX9_isLeaf_1 : decode cX9_isLeaf 1 = .ok (.istore_n 2, 1) := by decide +kernel
theorem dX9_isLeaf_2 : decode cX9_isLeaf 2 = .ok (.iconst 0, 1) := by decide +kernel
theorem dX9_isLeaf_3 : decode cX9_isLeaf 3 = .ok (.istore_n 3, 1) := by decide +kernel
theorem dX9_isLeaf_4 : decode cX9_isLeaf 4 = .ok (.iload_n 3, 1) := by decide +kernel
theorem dX9_isLeaf_5 : decode cX9_isLeaf 5 = .ok (.aload_n 0, 1) := by decide +kernel
theorem dX9_isLeaf_6 : decode cX9_isLeaf 6 = .ok (.getfield 17, 3) := by decide +kernel
theorem dX9_isLeaf_9 : decode cX9_isLeaf 9 = .ok (.if_icmp .ge 29, 3) := by decide +kernel
theorem dX9_isLeaf_12 : decode cX9_isLeaf 12 = .ok (.iload_n 2, 1) := by decide +kernel
theorem dX9_isLeaf_13 : decode cX9_isLeaf 13 = .ok (.ifCond .eq 17, 3) := by decide +kernel
theorem dX9_isLeaf_16 : decode cX9_isLeaf 16 = .ok (.aload_n 0, 1) := by decide +kernel
theorem dX9_isLeaf_17 : decode cX9_isLeaf 17 = .ok (.getfield 20, 3) := by decide +kernel
theorem dX9_isLeaf_20 : decode cX9_isLeaf 20 = .ok (.iload_n 3, 1) := by decide +kernel
theorem dX9_isLeaf_21 : decode cX9_isLeaf 21 = .ok (.iaload, 1) := by decide +kernel
theorem dX9_isLeaf_22 : decode cX9_isLeaf 22 = .ok (.iload_n 1, 1) := by decide +kernel
theorem dX9_isLeaf_23 : decode cX9_isLeaf 23 = .ok (.if_icmp .eq 7, 3) := by decide +kernel
theorem dX9_isLeaf_26 : decode cX9_isLeaf 26 = .ok (.iconst 1, 1) := by decide +kernel
theorem dX9_isLeaf_27 : decode cX9_isLeaf 27 = .ok (.goto 4, 3) := by decide +kernel
theorem dX9_isLeaf_30 : decode cX9_isLeaf 30 = .ok (.iconst 0, 1) := by decide +kernel
theorem dX9_isLeaf_31 : decode cX9_isLeaf 31 = .ok (.istore_n 2, 1) := by decide +kernel
theorem dX9_isLeaf_32 : decode cX9_isLeaf 32 = .ok (.iinc 3 1, 3) := by decide +kernel
theorem dX9_isLeaf_35 : decode cX9_isLeaf 35 = .ok (.goto (-31), 3) := by decide +kernel
theorem dX9_isLeaf_38 : decode cX9_isLeaf 38 = .ok (.iload_n 2, 1) := by decide +kernel
theorem dX9_isLeaf_39 : decode cX9_isLeaf 39 = .ok (.ireturn, 1) := by decide +kernel
theorem dX9_later_0 : decode cX9_later 0 = .ok (.aload_n 0, 1) := by decide +kernel
theorem dX9_later_1 : decode cX9_later 1 = .ok (.iconst 0, 1) := by decide +kernel
theorem dX9_later_2 : decode cX9_later 2 = .ok (.putfield 1, 3) := by decide +kernel
theorem dX9_later_5 : decode cX9_later 5 = .ok (.aload_n 0, 1) := by decide +kernel
theorem dX9_later_6 : decode cX9_later 6 = .ok (.getfield 110, 3) := by decide +kernel
theorem dX9_later_9 : decode cX9_later 9 = .ok (.sipush 1000, 3) := by decide +kernel
theorem dX9_later_12 : decode cX9_later 12 = .ok (.if_icmp .ne 5, 3) := by decide +kernel
theorem dX9_later_15 : decode cX9_later 15 = .ok (.iconst (-1), 1) := by decide +kernel
theorem dX9_later_16 : decode cX9_later 16 = .ok (.ireturn, 1) := by decide +kernel
theorem dX9_later_17 : decode cX9_later 17 = .ok (.aload_n 0, 1) := by decide +kernel
theorem dX9_later_18 : decode cX9_later 18 = .ok (.dup, 1) := by decide +kernel
theorem dX9_later_19 : decode cX9_later 19 = .ok (.getfield 110, 3) := by decide +kernel
theorem dX9_later_22 : decode cX9_later 22 = .ok (.iconst 1, 1) := by decide +kernel
theorem dX9_later_23 : decode cX9_later 23 = .ok (.iadd, 1) := by decide +kernel
theorem dX9_later_24 : decode cX9_later 24 = .ok (.putfield 110, 3) := by decide +kernel
theorem dX9_later_27 : decode cX9_later 27 = .ok (.aload_n 0, 1) := by decide +kernel
theorem dX9_later_28 : decode cX9_later 28 = .ok (.getfield 110, 3) := by decide +kernel
theorem dX9_later_31 : decode cX9_later 31 = .ok (.ireturn, 1) := by decide +kernel
theorem dX9_isDay_0 : decode cX9_isDay 0 = .ok (.iload_n 0, 1) := by decide +kernel
theorem dX9_isDay_1 : decode cX9_isDay 1 = .ok (.ifCond .lt 23, 3) := by decide +kernel
theorem dX9_isDay_4 : decode cX9_isDay 4 = .ok (.iload_n 0, 1) := by decide +kernel
theorem dX9_isDay_5 : decode cX9_isDay 5 = .ok (.bipush 6, 2) := by decide +kernel
theorem dX9_isDay_7 : decode cX9_isDay 7 = .ok (.if_icmp .ge 17, 3) := by decide +kernel
theorem dX9_isDay_10 : decode cX9_isDay 10 = .ok (.iload_n 1, 1) := by decide +kernel
theorem dX9_isDay_11 : decode cX9_isDay 11 = .ok (.ifCond .lt 13, 3) := by decide +kernel
theorem dX9_isDay_14 : decode cX9_isDay 14 = .ok (.iload_n 1, 1) := by decide +kernel
theorem dX9_isDay_15 : decode cX9_isDay 15 = .ok (.bipush 30, 2) := by decide +kernel
theorem dX9_isDay_17 : decode cX9_isDay 17 = .ok (.if_icmp .ge 7, 3) := by decide +kernel
theorem dX9_isDay_20 : decode cX9_isDay 20 = .ok (.iconst 1, 1) := by decide +kernel
theorem dX9_isDay_21 : decode cX9_isDay 21 = .ok (.goto 4, 3) := by decide +kernel
theorem dX9_isDay_24 : decode cX9_isDay 24 = .ok (.iconst 0, 1) := by decide +kernel
theorem dX9_isDay_25 : decode cX9_isDay 25 = .ok (.ireturn, 1) := by decide +kernel
theorem dX9_hourOf_0 : decode cX9_hourOf 0 = .ok (.bipush 10, 2) := by decide +kernel
theorem dX9_hourOf_2 : decode cX9_hourOf 2 = .ok (.bipush 30, 2) := by decide +kernel
theorem dX9_hourOf_4 : decode cX9_hourOf 4 = .ok (.iload_n 0, 1) := by decide +kernel
theorem dX9_hourOf_5 : decode cX9_hourOf 5 = .ok (.imul, 1) := by decide +kernel
theorem dX9_hourOf_6 : decode cX9_hourOf 6 = .ok (.iload_n 1, 1) := by decide +kernel
theorem dX9_hourOf_7 : decode cX9_hourOf 7 = .ok (.iadd, 1) := by decide +kernel
theorem dX9_hourOf_8 : decode cX9_hourOf 8 = .ok (.imul, 1) := by decide +kernel
theorem dX9_hourOf_9 : decode cX9_hourOf 9 = .ok (.iload_n 2, 1) := by decide +kernel
theorem dX9_hourOf_10 : decode cX9_hourOf 10 = .ok (.iadd, 1) := by decide +kernel
theorem dX9_hourOf_11 : decode cX9_hourOf 11 = .ok (.ireturn, 1) := by decide +kernel
theorem dX9_tell_0 : decode cX9_tell 0 = .ok (.aload_n 0, 1) := by decide +kernel
theorem dX9_tell_1 : decode cX9_tell 1 = .ok (.iconst 0, 1) := by decide +kernel
theorem dX9_tell_2 : decode cX9_tell 2 = .ok (.putfield 1, 3) := by decide +kernel
theorem dX9_tell_5 : decode cX9_tell 5 = .ok (.iload_n 1, 1) := by decide +kernel
theorem dX9_tell_6 : decode cX9_tell 6 = .ok (.iload_n 2, 1) := by decide +kernel
theorem dX9_tell_7 : decode cX9_tell 7 = .ok (.invokestatic 113, 3) := by decide +kernel
theorem dX9_tell_10 : decode cX9_tell 10 = .ok (.ifCond .eq 64, 3) := by decide +kernel
theorem dX9_tell_13 : decode cX9_tell 13 = .ok (.iload_n 3, 1) := by decide +kernel
theorem dX9_tell_14 : decode cX9_tell 14 = .ok (.ifCond .lt 60, 3) := by decide +kernel
theorem dX9_tell_17 : decode cX9_tell 17 = .ok (.iload_n 3, 1) := by decide +kernel
theorem dX9_tell_18 : decode cX9_tell 18 = .ok (.sipush 599, 3) := by decide +kernel
theorem dX9_tell_21 : decode cX9_tell 21 = .ok (.if_icmp .gt 53, 3) := by decide +kernel
theorem dX9_tell_24 : decode cX9_tell 24 = .ok (.iload 4, 2) := by decide +kernel
theorem dX9_tell_26 : decode cX9_tell 26 = .ok (.ifCond .lt 48, 3) := by decide +kernel
theorem dX9_tell_29 : decode cX9_tell 29 = .ok (.iload 4, 2) := by decide +kernel
theorem dX9_tell_31 : decode cX9_tell 31 = .ok (.aload_n 0, 1) := by decide +kernel
theorem dX9_tell_32 : decode cX9_tell 32 = .ok (.getfield 100, 3) := by decide +kernel
theorem dX9_tell_35 : decode cX9_tell 35 = .ok (.if_icmp .ge 39, 3) := by decide +kernel
theorem dX9_tell_38 : decode cX9_tell 38 = .ok (.aload_n 0, 1) := by decide +kernel
theorem dX9_tell_39 : decode cX9_tell 39 = .ok (.iload 5, 2) := by decide +kernel
theorem dX9_tell_41 : decode cX9_tell 41 = .ok (.invokevirtual 106, 3) := by decide +kernel
theorem dX9_tell_44 : decode cX9_tell 44 = .ok (.ifCond .eq 30, 3) := by decide +kernel
theorem dX9_tell_47 : decode cX9_tell 47 = .ok (.aload_n 0, 1) := by decide +kernel
theorem dX9_tell_48 : decode cX9_tell 48 = .ok (.getfield 103, 3) := by decide +kernel
theorem dX9_tell_51 : decode cX9_tell 51 = .ok (.sipush 300, 3) := by decide +kernel
theorem dX9_tell_54 : decode cX9_tell 54 = .ok (.if_icmp .eq 20, 3) := by decide +kernel
theorem dX9_tell_57 : decode cX9_tell 57 = .ok (.aload_n 0, 1) := by decide +kernel
theorem dX9_tell_58 : decode cX9_tell 58 = .ok (.getfield 50, 3) := by decide +kernel
theorem dX9_tell_61 : decode cX9_tell 61 = .ok (.iload_n 1, 1) := by decide +kernel
theorem dX9_tell_62 : decode cX9_tell 62 = .ok (.iload_n 2, 1) := by decide +kernel
theorem dX9_tell_63 : decode cX9_tell 63 = .ok (.iload_n 3, 1) := by decide +kernel
theorem dX9_tell_64 : decode cX9_tell 64 = .ok (.bipush 60, 2) := by decide +kernel
theorem dX9_tell_66 : decode cX9_tell 66 = .ok (.idiv, 1) := by decide +kernel
theorem dX9_tell_67 : decode cX9_tell 67 = .ok (.invokestatic 117, 3) := by decide +kernel
theorem dX9_tell_70 : decode cX9_tell 70 = .ok (.baload, 1) := by decide +kernel
theorem dX9_tell_71 : decode cX9_tell 71 = .ok (.ifCond .eq 5, 3) := by decide +kernel
theorem dX9_tell_74 : decode cX9_tell 74 = .ok (.iconst (-1), 1) := by decide +kernel
theorem dX9_tell_75 : decode cX9_tell 75 = .ok (.ireturn, 1) := by decide +kernel
theorem dX9_tell_76 : decode cX9_tell 76 = .ok (.iconst 0, 1) := by decide +kernel
theorem dX9_tell_77 : decode cX9_tell 77 = .ok (.istore 6, 2) := by decide +kernel
theorem dX9_tell_79 : decode cX9_tell 79 = .ok (.iconst 0, 1) := by decide +kernel
theorem dX9_tell_80 : decode cX9_tell 80 = .ok (.istore 7, 2) := by decide +kernel
theorem dX9_tell_82 : decode cX9_tell 82 = .ok (.iload 7, 2) := by decide +kernel
theorem dX9_tell_84 : decode cX9_tell 84 = .ok (.aload_n 0, 1) := by decide +kernel
theorem dX9_tell_85 : decode cX9_tell 85 = .ok (.getfield 103, 3) := by decide +kernel
theorem dX9_tell_88 : decode cX9_tell 88 = .ok (.if_icmp .ge 53, 3) := by decide +kernel
theorem dX9_tell_91 : decode cX9_tell 91 = .ok (.iload 6, 2) := by decide +kernel
theorem dX9_tell_93 : decode cX9_tell 93 = .ok (.aload_n 0, 1) := by decide +kernel
theorem dX9_tell_94 : decode cX9_tell 94 = .ok (.getfield 32, 3) := by decide +kernel
theorem dX9_tell_97 : decode cX9_tell 97 = .ok (.iload 7, 2) := by decide +kernel
theorem dX9_tell_99 : decode cX9_tell 99 = .ok (.iaload, 1) := by decide +kernel
theorem dX9_tell_100 : decode cX9_tell 100 = .ok (.iload_n 1, 1) := by decide +kernel
theorem dX9_tell_101 : decode cX9_tell 101 = .ok (.if_icmp .ne 30, 3) := by decide +kernel
theorem dX9_tell_104 : decode cX9_tell 104 = .ok (.aload_n 0, 1) := by decide +kernel
theorem dX9_tell_105 : decode cX9_tell 105 = .ok (.getfield 35, 3) := by decide +kernel
theorem dX9_tell_108 : decode cX9_tell 108 = .ok (.iload 7, 2) := by decide +kernel
theorem dX9_tell_110 : decode cX9_tell 110 = .ok (.iaload, 1) := by decide +kernel
theorem dX9_tell_111 : decode cX9_tell 111 = .ok (.iload_n 2, 1) := by decide +kernel
theorem dX9_tell_112 : decode cX9_tell 112 = .ok (.if_icmp .ne 19, 3) := by decide +kernel
theorem dX9_tell_115 : decode cX9_tell 115 = .ok (.aload_n 0, 1) := by decide +kernel
theorem dX9_tell_116 : decode cX9_tell 116 = .ok (.getfield 41, 3) := by decide +kernel
theorem dX9_tell_119 : decode cX9_tell 119 = .ok (.iload 7, 2) := by decide +kernel
theorem dX9_tell_121 : decode cX9_tell 121 = .ok (.iaload, 1) := by decide +kernel
theorem dX9_tell_122 : decode cX9_tell 122 = .ok (.iload 4, 2) := by decide +kernel
theorem dX9_tell_124 : decode cX9_tell 124 = .ok (.if_icmp .ne 7, 3) := by decide +kernel
theorem dX9_tell_127 : decode cX9_tell 127 = .ok (.iconst 1, 1) := by decide +kernel
theorem dX9_tell_128 : decode cX9_tell 128 = .ok (.goto 4, 3) := by decide +kernel
theorem dX9_tell_131 : decode cX9_tell 131 = .ok (.iconst 0, 1) := by decide +kernel
theorem dX9_tell_132 : decode cX9_tell 132 = .ok (.iadd, 1) := by decide +kernel
theorem dX9_tell_133 : decode cX9_tell 133 = .ok (.istore 6, 2) := by decide +kernel
theorem dX9_tell_135 : decode cX9_tell 135 = .ok (.iinc 7 1, 3) := by decide +kernel
theorem dX9_tell_138 : decode cX9_tell 138 = .ok (.goto (-56), 3) := by decide +kernel
theorem dX9_tell_141 : decode cX9_tell 141 = .ok (.iload 6, 2) := by decide +kernel
theorem dX9_tell_143 : decode cX9_tell 143 = .ok (.bipush 12, 2) := by decide +kernel
theorem dX9_tell_145 : decode cX9_tell 145 = .ok (.if_icmp .ne 5, 3) := by decide +kernel
theorem dX9_tell_148 : decode cX9_tell 148 = .ok (.iconst (-1), 1) := by decide +kernel
theorem dX9_tell_149 : decode cX9_tell 149 = .ok (.ireturn, 1) := by decide +kernel
theorem dX9_tell_150 : decode cX9_tell 150 = .ok (.aload_n 0, 1) := by decide +kernel
theorem dX9_tell_151 : decode cX9_tell 151 = .ok (.getfield 32, 3) := by decide +kernel
theorem dX9_tell_154 : decode cX9_tell 154 = .ok (.aload_n 0, 1) := by decide +kernel
theorem dX9_tell_155 : decode cX9_tell 155 = .ok (.getfield 103, 3) := by decide +kernel
theorem dX9_tell_158 : decode cX9_tell 158 = .ok (.iload_n 1, 1) := by decide +kernel
theorem dX9_tell_159 : decode cX9_tell 159 = .ok (.iastore, 1) := by decide +kernel
theorem dX9_tell_160 : decode cX9_tell 160 = .ok (.aload_n 0, 1) := by decide +kernel
theorem dX9_tell_161 : decode cX9_tell 161 = .ok (.getfield 35, 3) := by decide +kernel
theorem dX9_tell_164 : decode cX9_tell 164 = .ok (.aload_n 0, 1) := by decide +kernel
theorem dX9_tell_165 : decode cX9_tell 165 = .ok (.getfield 103, 3) := by decide +kernel
theorem dX9_tell_168 : decode cX9_tell 168 = .ok (.iload_n 2, 1) := by decide +kernel
theorem dX9_tell_169 : decode cX9_tell 169 = .ok (.iastore, 1) := by decide +kernel
theorem dX9_tell_170 : decode cX9_tell 170 = .ok (.aload_n 0, 1) := by decide +kernel
theorem dX9_tell_171 : decode cX9_tell 171 = .ok (.getfield 38, 3) := by decide +kernel
theorem dX9_tell_174 : decode cX9_tell 174 = .ok (.aload_n 0, 1) := by decide +kernel
theorem dX9_tell_175 : decode cX9_tell 175 = .ok (.getfield 103, 3) := by decide +kernel
theorem dX9_tell_178 : decode cX9_tell 178 = .ok (.iload_n 3, 1) := by decide +kernel
theorem dX9_tell_179 : decode cX9_tell 179 = .ok (.iastore, 1) := by decide +kernel
theorem dX9_tell_180 : decode cX9_tell 180 = .ok (.aload_n 0, 1) := by decide +kernel
theorem dX9_tell_181 : decode cX9_tell 181 = .ok (.getfield 41, 3) := by decide +kernel
theorem dX9_tell_184 : decode cX9_tell 184 = .ok (.aload_n 0, 1) := by decide +kernel
theorem dX9_tell_185 : decode cX9_tell 185 = .ok (.getfield 103, 3) := by decide +kernel
theorem dX9_tell_188 : decode cX9_tell 188 = .ok (.iload 4, 2) := by decide +kernel
theorem dX9_tell_190 : decode cX9_tell 190 = .ok (.iastore, 1) := by decide +kernel
theorem dX9_tell_191 : decode cX9_tell 191 = .ok (.aload_n 0, 1) := by decide +kernel
theorem dX9_tell_192 : decode cX9_tell 192 = .ok (.getfield 44, 3) := by decide +kernel
theorem dX9_tell_195 : decode cX9_tell 195 = .ok (.aload_n 0, 1) := by decide +kernel
theorem dX9_tell_196 : decode cX9_tell 196 = .ok (.getfield 103, 3) := by decide +kernel
theorem dX9_tell_199 : decode cX9_tell 199 = .ok (.iload 5, 2) := by decide +kernel
theorem dX9_tell_201 : decode cX9_tell 201 = .ok (.iastore, 1) := by decide +kernel
theorem dX9_tell_202 : decode cX9_tell 202 = .ok (.aload_n 0, 1) := by decide +kernel
theorem dX9_tell_203 : decode cX9_tell 203 = .ok (.getfield 47, 3) := by decide +kernel
theorem dX9_tell_206 : decode cX9_tell 206 = .ok (.aload_n 0, 1) := by decide +kernel
theorem dX9_tell_207 : decode cX9_tell 207 = .ok (.getfield 103, 3) := by decide +kernel
theorem dX9_tell_210 : decode cX9_tell 210 = .ok (.aload_n 0, 1) := by decide +kernel
theorem dX9_tell_211 : decode cX9_tell 211 = .ok (.getfield 110, 3) := by decide +kernel
theorem dX9_tell_214 : decode cX9_tell 214 = .ok (.iastore, 1) := by decide +kernel
theorem dX9_tell_215 : decode cX9_tell 215 = .ok (.aload_n 0, 1) := by decide +kernel
theorem dX9_tell_216 : decode cX9_tell 216 = .ok (.dup, 1) := by decide +kernel
theorem dX9_tell_217 : decode cX9_tell 217 = .ok (.getfield 103, 3) := by decide +kernel
theorem dX9_tell_220 : decode cX9_tell 220 = .ok (.iconst 1, 1) := by decide +kernel
theorem dX9_tell_221 : decode cX9_tell 221 = .ok (.iadd, 1) := by decide +kernel
theorem dX9_tell_222 : decode cX9_tell 222 = .ok (.putfield 103, 3) := by decide +kernel
theorem dX9_tell_225 : decode cX9_tell 225 = .ok (.aload_n 0, 1) := by decide +kernel
theorem dX9_tell_226 : decode cX9_tell 226 = .ok (.getfield 103, 3) := by decide +kernel
theorem dX9_tell_229 : decode cX9_tell 229 = .ok (.iconst 1, 1) := by decide +kernel
theorem dX9_tell_230 : decode cX9_tell 230 = .ok (.isub, 1) := by decide +kernel
theorem dX9_tell_231 : decode cX9_tell 231 = .ok (.ireturn, 1) := by decide +kernel
theorem dX9_off_0 : decode cX9_off 0 = .ok (.aload_n 0, 1) := by decide +kernel
theorem dX9_off_1 : decode cX9_off 1 = .ok (.iconst 0, 1) := by decide +kernel
theorem dX9_off_2 : decode cX9_off 2 = .ok (.putfield 1, 3) := by decide +kernel
theorem dX9_off_5 : decode cX9_off 5 = .ok (.iload_n 1, 1) := by decide +kernel
theorem dX9_off_6 : decode cX9_off 6 = .ok (.iload_n 2, 1) := by decide +kernel
theorem dX9_off_7 : decode cX9_off 7 = .ok (.invokestatic 113, 3) := by decide +kernel
theorem dX9_off_10 : decode cX9_off 10 = .ok (.ifCond .eq 29, 3) := by decide +kernel
theorem dX9_off_13 : decode cX9_off 13 = .ok (.iload_n 3, 1) := by decide +kernel
theorem dX9_off_14 : decode cX9_off 14 = .ok (.ifCond .lt 25, 3) := by decide +kernel
theorem dX9_off_17 : decode cX9_off 17 = .ok (.iload_n 3, 1) := by decide +kernel
theorem dX9_off_18 : decode cX9_off 18 = .ok (.bipush 9, 2) := by decide +kernel
theorem dX9_off_20 : decode cX9_off 20 = .ok (.if_icmp .gt 19, 3) := by decide +kernel
theorem dX9_off_23 : decode cX9_off 23 = .ok (.aload_n 0, 1) := by decide +kernel
theorem dX9_off_24 : decode cX9_off 24 = .ok (.getfield 50, 3) := by decide +kernel
theorem dX9_off_27 : decode cX9_off 27 = .ok (.iload_n 1, 1) := by decide +kernel
theorem dX9_off_28 : decode cX9_off 28 = .ok (.iload_n 2, 1) := by decide +kernel
theorem dX9_off_29 : decode cX9_off 29 = .ok (.iload_n 3, 1) := by decide +kernel
theorem dX9_off_30 : decode cX9_off 30 = .ok (.invokestatic 117, 3) := by decide +kernel
theorem dX9_off_33 : decode cX9_off 33 = .ok (.baload, 1) := by decide +kernel
theorem dX9_off_34 : decode cX9_off 34 = .ok (.iload 4, 2) := by decide +kernel
theorem dX9_off_36 : decode cX9_off 36 = .ok (.if_icmp .ne 5, 3) := by decide +kernel
theorem dX9_off_39 : decode cX9_off 39 = .ok (.iconst 0, 1) := by decide +kernel
theorem dX9_off_40 : decode cX9_off 40 = .ok (.ireturn, 1) := by decide +kernel
theorem dX9_off_41 : decode cX9_off 41 = .ok (.iconst 0, 1) := by decide +kernel
theorem dX9_off_42 : decode cX9_off 42 = .ok (.istore 5, 2) := by decide +kernel
theorem dX9_off_44 : decode cX9_off 44 = .ok (.iload 5, 2) := by decide +kernel
theorem dX9_off_46 : decode cX9_off 46 = .ok (.aload_n 0, 1) := by decide +kernel
theorem dX9_off_47 : decode cX9_off 47 = .ok (.getfield 103, 3) := by decide +kernel
theorem dX9_off_50 : decode cX9_off 50 = .ok (.if_icmp .ge 52, 3) := by decide +kernel
theorem dX9_off_53 : decode cX9_off 53 = .ok (.iload 4, 2) := by decide +kernel
theorem dX9_off_55 : decode cX9_off 55 = .ok (.ifCond .eq 47, 3) := by decide +kernel
theorem dX9_off_58 : decode cX9_off 58 = .ok (.aload_n 0, 1) := by decide +kernel
theorem dX9_off_59 : decode cX9_off 59 = .ok (.getfield 32, 3) := by decide +kernel
theorem dX9_off_62 : decode cX9_off 62 = .ok (.iload 5, 2) := by decide +kernel
theorem dX9_off_64 : decode cX9_off 64 = .ok (.iaload, 1) := by decide +kernel
theorem dX9_off_65 : decode cX9_off 65 = .ok (.iload_n 1, 1) := by decide +kernel
theorem dX9_off_66 : decode cX9_off 66 = .ok (.if_icmp .ne 30, 3) := by decide +kernel
theorem dX9_off_69 : decode cX9_off 69 = .ok (.aload_n 0, 1) := by decide +kernel
theorem dX9_off_70 : decode cX9_off 70 = .ok (.getfield 35, 3) := by decide +kernel
theorem dX9_off_73 : decode cX9_off 73 = .ok (.iload 5, 2) := by decide +kernel
theorem dX9_off_75 : decode cX9_off 75 = .ok (.iaload, 1) := by decide +kernel
theorem dX9_off_76 : decode cX9_off 76 = .ok (.iload_n 2, 1) := by decide +kernel
theorem dX9_off_77 : decode cX9_off 77 = .ok (.if_icmp .ne 19, 3) := by decide +kernel
theorem dX9_off_80 : decode cX9_off 80 = .ok (.aload_n 0, 1) := by decide +kernel
theorem dX9_off_81 : decode cX9_off 81 = .ok (.getfield 38, 3) := by decide +kernel
theorem dX9_off_84 : decode cX9_off 84 = .ok (.iload 5, 2) := by decide +kernel
theorem dX9_off_86 : decode cX9_off 86 = .ok (.iaload, 1) := by decide +kernel
theorem dX9_off_87 : decode cX9_off 87 = .ok (.bipush 60, 2) := by decide +kernel
theorem dX9_off_89 : decode cX9_off 89 = .ok (.idiv, 1) := by decide +kernel
theorem dX9_off_90 : decode cX9_off 90 = .ok (.iload_n 3, 1) := by decide +kernel
theorem dX9_off_91 : decode cX9_off 91 = .ok (.if_icmp .ne 5, 3) := by decide +kernel
theorem dX9_off_94 : decode cX9_off 94 = .ok (.iconst 0, 1) := by decide +kernel
theorem dX9_off_95 : decode cX9_off 95 = .ok (.ireturn, 1) := by decide +kernel
theorem dX9_off_96 : decode cX9_off 96 = .ok (.iinc 5 1, 3) := by decide +kernel
theorem dX9_off_99 : decode cX9_off 99 = .ok (.goto (-55), 3) := by decide +kernel
theorem dX9_off_102 : decode cX9_off 102 = .ok (.aload_n 0, 1) := by decide +kernel
theorem dX9_off_103 : decode cX9_off 103 = .ok (.getfield 50, 3) := by decide +kernel
theorem dX9_off_106 : decode cX9_off 106 = .ok (.iload_n 1, 1) := by decide +kernel
theorem dX9_off_107 : decode cX9_off 107 = .ok (.iload_n 2, 1) := by decide +kernel
theorem dX9_off_108 : decode cX9_off 108 = .ok (.iload_n 3, 1) := by decide +kernel
theorem dX9_off_109 : decode cX9_off 109 = .ok (.invokestatic 117, 3) := by decide +kernel
theorem dX9_off_112 : decode cX9_off 112 = .ok (.iload 4, 2) := by decide +kernel
theorem dX9_off_114 : decode cX9_off 114 = .ok (.bastore, 1) := by decide +kernel
theorem dX9_off_115 : decode cX9_off 115 = .ok (.iconst 1, 1) := by decide +kernel
theorem dX9_off_116 : decode cX9_off 116 = .ok (.ireturn, 1) := by decide +kernel
theorem dX9_wind_0 : decode cX9_wind 0 = .ok (.aload_n 0, 1) := by decide +kernel
theorem dX9_wind_1 : decode cX9_wind 1 = .ok (.iconst 0, 1) := by decide +kernel
theorem dX9_wind_2 : decode cX9_wind 2 = .ok (.putfield 1, 3) := by decide +kernel
theorem dX9_wind_5 : decode cX9_wind 5 = .ok (.iload_n 1, 1) := by decide +kernel
theorem dX9_wind_6 : decode cX9_wind 6 = .ok (.iload_n 2, 1) := by decide +kernel
theorem dX9_wind_7 : decode cX9_wind 7 = .ok (.invokestatic 113, 3) := by decide +kernel
theorem dX9_wind_10 : decode cX9_wind 10 = .ok (.ifCond .eq 12, 3) := by decide +kernel
theorem dX9_wind_13 : decode cX9_wind 13 = .ok (.iload_n 3, 1) := by decide +kernel
theorem dX9_wind_14 : decode cX9_wind 14 = .ok (.ifCond .lt 8, 3) := by decide +kernel
theorem dX9_wind_17 : decode cX9_wind 17 = .ok (.iload_n 3, 1) := by decide +kernel
theorem dX9_wind_18 : decode cX9_wind 18 = .ok (.iconst 3, 1) := by decide +kernel
theorem dX9_wind_19 : decode cX9_wind 19 = .ok (.if_icmp .le 5, 3) := by decide +kernel
theorem dX9_wind_22 : decode cX9_wind 22 = .ok (.iconst 0, 1) := by decide +kernel
theorem dX9_wind_23 : decode cX9_wind 23 = .ok (.ireturn, 1) := by decide +kernel
theorem dX9_wind_24 : decode cX9_wind 24 = .ok (.aload_n 0, 1) := by decide +kernel
theorem dX9_wind_25 : decode cX9_wind 25 = .ok (.getfield 54, 3) := by decide +kernel
theorem dX9_wind_28 : decode cX9_wind 28 = .ok (.bipush 30, 2) := by decide +kernel
theorem dX9_wind_30 : decode cX9_wind 30 = .ok (.iload_n 1, 1) := by decide +kernel
theorem dX9_wind_31 : decode cX9_wind 31 = .ok (.imul, 1) := by decide +kernel
theorem dX9_wind_32 : decode cX9_wind 32 = .ok (.iload_n 2, 1) := by decide +kernel
theorem dX9_wind_33 : decode cX9_wind 33 = .ok (.iadd, 1) := by decide +kernel
theorem dX9_wind_34 : decode cX9_wind 34 = .ok (.iload_n 3, 1) := by decide +kernel
theorem dX9_wind_35 : decode cX9_wind 35 = .ok (.iastore, 1) := by decide +kernel
theorem dX9_wind_36 : decode cX9_wind 36 = .ok (.iconst 1, 1) := by decide +kernel
theorem dX9_wind_37 : decode cX9_wind 37 = .ok (.ireturn, 1) := by decide +kernel
theorem dX9_known_0 : decode cX9_known 0 = .ok (.aload_n 0, 1) := by decide +kernel
theorem dX9_known_1 : decode cX9_known 1 = .ok (.iconst 0, 1) := by decide +kernel
theorem dX9_known_2 : decode cX9_known 2 = .ok (.putfield 1, 3) := by decide +kernel
theorem dX9_known_5 : decode cX9_known 5 = .ok (.iload_n 1, 1) := by decide +kernel
theorem dX9_known_6 : decode cX9_known 6 = .ok (.iconst (-1), 1) := by decide +kernel
theorem dX9_known_7 : decode cX9_known 7 = .ok (.if_icmp .lt 11, 3) := by decide +kernel
theorem dX9_known_10 : decode cX9_known 10 = .ok (.iload_n 1, 1) := by decide +kernel
theorem dX9_known_11 : decode cX9_known 11 = .ok (.aload_n 0, 1) := by decide +kernel
theorem dX9_known_12 : decode cX9_known 12 = .ok (.getfield 110, 3) := by decide +kernel
theorem dX9_known_15 : decode cX9_known 15 = .ok (.if_icmp .le 5, 3) := by decide +kernel
theorem dX9_known_18 : decode cX9_known 18 = .ok (.iconst 0, 1) := by decide +kernel
theorem dX9_known_19 : decode cX9_known 19 = .ok (.ireturn, 1) := by decide +kernel
theorem dX9_known_20 : decode cX9_known 20 = .ok (.aload_n 0, 1) := by decide +kernel
theorem dX9_known_21 : decode cX9_known 21 = .ok (.iload_n 1, 1) := by decide +kernel
theorem dX9_known_22 : decode cX9_known 22 = .ok (.putfield 29, 3) := by decide +kernel
theorem dX9_known_25 : decode cX9_known 25 = .ok (.iconst 1, 1) := by decide +kernel
theorem dX9_known_26 : decode cX9_known 26 = .ok (.ireturn, 1) := by decide +kernel
theorem dX9_isKnown_0 : decode cX9_isKnown 0 = .ok (.iload_n 1, 1) := by decide +kernel
theorem dX9_isKnown_1 : decode cX9_isKnown 1 = .ok (.ifCond .lt 42, 3) := by decide +kernel
theorem dX9_isKnown_4 : decode cX9_isKnown 4 = .ok (.iload_n 1, 1) := by decide +kernel
theorem dX9_isKnown_5 : decode cX9_isKnown 5 = .ok (.aload_n 0, 1) := by decide +kernel
theorem dX9_isKnown_6 : decode cX9_isKnown 6 = .ok (.getfield 103, 3) := by decide +kernel
theorem dX9_isKnown_9 : decode cX9_isKnown 9 = .ok (.if_icmp .ge 34, 3) := by decide +kernel
theorem dX9_isKnown_12 : decode cX9_isKnown 12 = .ok (.aload_n 0, 1) := by decide +kernel
theorem dX9_isKnown_13 : decode cX9_isKnown 13 = .ok (.getfield 47, 3) := by decide +kernel
theorem dX9_isKnown_16 : decode cX9_isKnown 16 = .ok (.iload_n 1, 1) := by decide +kernel
theorem dX9_isKnown_17 : decode cX9_isKnown 17 = .ok (.iaload, 1) := by decide +kernel
theorem dX9_isKnown_18 : decode cX9_isKnown 18 = .ok (.aload_n 0, 1) := by decide +kernel
theorem dX9_isKnown_19 : decode cX9_isKnown 19 = .ok (.getfield 29, 3) := by decide +kernel
theorem dX9_isKnown_22 : decode cX9_isKnown 22 = .ok (.ifCond .ge 10, 3) := by decide +kernel
theorem dX9_isKnown_25 : decode cX9_isKnown 25 = .ok (.aload_n 0, 1) := by decide +kernel
theorem dX9_isKnown_26 : decode cX9_isKnown 26 = .ok (.getfield 110, 3) := by decide +kernel
theorem dX9_isKnown_29 : decode cX9_isKnown 29 = .ok (.goto 7, 3) := by decide +kernel
theorem dX9_isKnown_32 : decode cX9_isKnown 32 = .ok (.aload_n 0, 1) := by decide +kernel
theorem dX9_isKnown_33 : decode cX9_isKnown 33 = .ok (.getfield 29, 3) := by decide +kernel
theorem dX9_isKnown_36 : decode cX9_isKnown 36 = .ok (.if_icmp .gt 7, 3) := by decide +kernel
theorem dX9_isKnown_39 : decode cX9_isKnown 39 = .ok (.iconst 1, 1) := by decide +kernel
theorem dX9_isKnown_40 : decode cX9_isKnown 40 = .ok (.goto 4, 3) := by decide +kernel
theorem dX9_isKnown_43 : decode cX9_isKnown 43 = .ok (.iconst 0, 1) := by decide +kernel
theorem dX9_isKnown_44 : decode cX9_isKnown 44 = .ok (.ireturn, 1) := by decide +kernel
theorem dX9_meets_0 : decode cX9_meets 0 = .ok (.aload_n 0, 1) := by decide +kernel
theorem dX9_meets_1 : decode cX9_meets 1 = .ok (.getfield 44, 3) := by decide +kernel
theorem dX9_meets_4 : decode cX9_meets 4 = .ok (.iload_n 1, 1) := by decide +kernel
theorem dX9_meets_5 : decode cX9_meets 5 = .ok (.iaload, 1) := by decide +kernel
theorem dX9_meets_6 : decode cX9_meets 6 = .ok (.istore_n 3, 1) := by decide +kernel
theorem dX9_meets_7 : decode cX9_meets 7 = .ok (.aload_n 0, 1) := by decide +kernel
theorem dX9_meets_8 : decode cX9_meets 8 = .ok (.getfield 44, 3) := by decide +kernel
theorem dX9_meets_11 : decode cX9_meets 11 = .ok (.iload_n 2, 1) := by decide +kernel
theorem dX9_meets_12 : decode cX9_meets 12 = .ok (.iaload, 1) := by decide +kernel
theorem dX9_meets_13 : decode cX9_meets 13 = .ok (.istore 4, 2) := by decide +kernel
theorem dX9_meets_15 : decode cX9_meets 15 = .ok (.aload_n 0, 1) := by decide +kernel
theorem dX9_meets_16 : decode cX9_meets 16 = .ok (.iload_n 3, 1) := by decide +kernel
theorem dX9_meets_17 : decode cX9_meets 17 = .ok (.iload 4, 2) := by decide +kernel
theorem dX9_meets_19 : decode cX9_meets 19 = .ok (.invokevirtual 121, 3) := by decide +kernel
theorem dX9_meets_22 : decode cX9_meets 22 = .ok (.ifCond .ne 15, 3) := by decide +kernel
theorem dX9_meets_25 : decode cX9_meets 25 = .ok (.aload_n 0, 1) := by decide +kernel
theorem dX9_meets_26 : decode cX9_meets 26 = .ok (.iload 4, 2) := by decide +kernel
theorem dX9_meets_28 : decode cX9_meets 28 = .ok (.iload_n 3, 1) := by decide +kernel
theorem dX9_meets_29 : decode cX9_meets 29 = .ok (.invokevirtual 121, 3) := by decide +kernel
theorem dX9_meets_32 : decode cX9_meets 32 = .ok (.ifCond .ne 5, 3) := by decide +kernel
theorem dX9_meets_35 : decode cX9_meets 35 = .ok (.iconst 0, 1) := by decide +kernel
theorem dX9_meets_36 : decode cX9_meets 36 = .ok (.ireturn, 1) := by decide +kernel
theorem dX9_meets_37 : decode cX9_meets 37 = .ok (.aload_n 0, 1) := by decide +kernel
theorem dX9_meets_38 : decode cX9_meets 38 = .ok (.iload_n 3, 1) := by decide +kernel
theorem dX9_meets_39 : decode cX9_meets 39 = .ok (.invokevirtual 124, 3) := by decide +kernel
theorem dX9_meets_42 : decode cX9_meets 42 = .ok (.aload_n 0, 1) := by decide +kernel
theorem dX9_meets_43 : decode cX9_meets 43 = .ok (.iload 4, 2) := by decide +kernel
theorem dX9_meets_45 : decode cX9_meets 45 = .ok (.invokevirtual 124, 3) := by decide +kernel
theorem dX9_meets_48 : decode cX9_meets 48 = .ok (.if_icmp .lt 7, 3) := by decide +kernel
theorem dX9_meets_51 : decode cX9_meets 51 = .ok (.iload_n 3, 1) := by decide +kernel
theorem dX9_meets_52 : decode cX9_meets 52 = .ok (.goto 5, 3) := by decide +kernel
theorem dX9_meets_55 : decode cX9_meets 55 = .ok (.iload 4, 2) := by decide +kernel
theorem dX9_meets_57 : decode cX9_meets 57 = .ok (.istore 5, 2) := by decide +kernel
theorem dX9_meets_59 : decode cX9_meets 59 = .ok (.aload_n 0, 1) := by decide +kernel
theorem dX9_meets_60 : decode cX9_meets 60 = .ok (.getfield 38, 3) := by decide +kernel
theorem dX9_meets_63 : decode cX9_meets 63 = .ok (.iload_n 2, 1) := by decide +kernel
theorem dX9_meets_64 : decode cX9_meets 64 = .ok (.iaload, 1) := by decide +kernel
theorem dX9_meets_65 : decode cX9_meets 65 = .ok (.aload_n 0, 1) := by decide +kernel
theorem dX9_meets_66 : decode cX9_meets 66 = .ok (.getfield 38, 3) := by decide +kernel
theorem dX9_meets_69 : decode cX9_meets 69 = .ok (.iload_n 1, 1) := by decide +kernel
theorem dX9_meets_70 : decode cX9_meets 70 = .ok (.iaload, 1) := by decide +kernel
theorem dX9_meets_71 : decode cX9_meets 71 = .ok (.isub, 1) := by decide +kernel
theorem dX9_meets_72 : decode cX9_meets 72 = .ok (.istore 6, 2) := by decide +kernel
theorem dX9_meets_74 : decode cX9_meets 74 = .ok (.aload_n 0, 1) := by decide +kernel
theorem dX9_meets_75 : decode cX9_meets 75 = .ok (.getfield 13, 3) := by decide +kernel
theorem dX9_meets_78 : decode cX9_meets 78 = .ok (.aload_n 0, 1) := by decide +kernel
theorem dX9_meets_79 : decode cX9_meets 79 = .ok (.getfield 41, 3) := by decide +kernel
theorem dX9_meets_82 : decode cX9_meets 82 = .ok (.iload_n 2, 1) := by decide +kernel
theorem dX9_meets_83 : decode cX9_meets 83 = .ok (.iaload, 1) := by decide +kernel
theorem dX9_meets_84 : decode cX9_meets 84 = .ok (.iaload, 1) := by decide +kernel
theorem dX9_meets_85 : decode cX9_meets 85 = .ok (.aload_n 0, 1) := by decide +kernel
theorem dX9_meets_86 : decode cX9_meets 86 = .ok (.getfield 13, 3) := by decide +kernel
theorem dX9_meets_89 : decode cX9_meets 89 = .ok (.aload_n 0, 1) := by decide +kernel
theorem dX9_meets_90 : decode cX9_meets 90 = .ok (.getfield 41, 3) := by decide +kernel
theorem dX9_meets_93 : decode cX9_meets 93 = .ok (.iload_n 1, 1) := by decide +kernel
theorem dX9_meets_94 : decode cX9_meets 94 = .ok (.iaload, 1) := by decide +kernel
theorem dX9_meets_95 : decode cX9_meets 95 = .ok (.iaload, 1) := by decide +kernel
theorem dX9_meets_96 : decode cX9_meets 96 = .ok (.isub, 1) := by decide +kernel
theorem dX9_meets_97 : decode cX9_meets 97 = .ok (.bipush 60, 2) := by decide +kernel
theorem dX9_meets_99 : decode cX9_meets 99 = .ok (.imul, 1) := by decide +kernel
theorem dX9_meets_100 : decode cX9_meets 100 = .ok (.istore 7, 2) := by decide +kernel
theorem dX9_meets_102 : decode cX9_meets 102 = .ok (.iload 6, 2) := by decide +kernel
theorem dX9_meets_104 : decode cX9_meets 104 = .ok (.iconst 1, 1) := by decide +kernel
theorem dX9_meets_105 : decode cX9_meets 105 = .ok (.if_icmp .lt 37, 3) := by decide +kernel
theorem dX9_meets_108 : decode cX9_meets 108 = .ok (.iload 7, 2) := by decide +kernel
theorem dX9_meets_110 : decode cX9_meets 110 = .ok (.aload_n 0, 1) := by decide +kernel
theorem dX9_meets_111 : decode cX9_meets 111 = .ok (.getfield 23, 3) := by decide +kernel
theorem dX9_meets_114 : decode cX9_meets 114 = .ok (.iload 5, 2) := by decide +kernel
theorem dX9_meets_116 : decode cX9_meets 116 = .ok (.iaload, 1) := by decide +kernel
theorem dX9_meets_117 : decode cX9_meets 117 = .ok (.iload 6, 2) := by decide +kernel
theorem dX9_meets_119 : decode cX9_meets 119 = .ok (.imul, 1) := by decide +kernel
theorem dX9_meets_120 : decode cX9_meets 120 = .ok (.if_icmp .lt 22, 3) := by decide +kernel
theorem dX9_meets_123 : decode cX9_meets 123 = .ok (.iload 7, 2) := by decide +kernel
theorem dX9_meets_125 : decode cX9_meets 125 = .ok (.aload_n 0, 1) := by decide +kernel
theorem dX9_meets_126 : decode cX9_meets 126 = .ok (.getfield 26, 3) := by decide +kernel
theorem dX9_meets_129 : decode cX9_meets 129 = .ok (.iload 5, 2) := by decide +kernel
theorem dX9_meets_131 : decode cX9_meets 131 = .ok (.iaload, 1) := by decide +kernel
theorem dX9_meets_132 : decode cX9_meets 132 = .ok (.iload 6, 2) := by decide +kernel
theorem dX9_meets_134 : decode cX9_meets 134 = .ok (.imul, 1) := by decide +kernel
theorem dX9_meets_135 : decode cX9_meets 135 = .ok (.if_icmp .gt 7, 3) := by decide +kernel
theorem dX9_meets_138 : decode cX9_meets 138 = .ok (.iconst 1, 1) := by decide +kernel
theorem dX9_meets_139 : decode cX9_meets 139 = .ok (.goto 4, 3) := by decide +kernel
theorem dX9_meets_142 : decode cX9_meets 142 = .ok (.iconst 0, 1) := by decide +kernel
theorem dX9_meets_143 : decode cX9_meets 143 = .ok (.ireturn, 1) := by decide +kernel
theorem dX9_finds_0 : decode cX9_finds 0 = .ok (.iconst 0, 1) := by decide +kernel
theorem dX9_finds_1 : decode cX9_finds 1 = .ok (.istore_n 2, 1) := by decide +kernel
theorem dX9_finds_2 : decode cX9_finds 2 = .ok (.iload_n 2, 1) := by decide +kernel
theorem dX9_finds_3 : decode cX9_finds 3 = .ok (.aload_n 0, 1) := by decide +kernel
theorem dX9_finds_4 : decode cX9_finds 4 = .ok (.getfield 128, 3) := by decide +kernel
theorem dX9_finds_7 : decode cX9_finds 7 = .ok (.if_icmp .ge 79, 3) := by decide +kernel
theorem dX9_finds_10 : decode cX9_finds 10 = .ok (.aload_n 0, 1) := by decide +kernel
theorem dX9_finds_11 : decode cX9_finds 11 = .ok (.getfield 69, 3) := by decide +kernel
theorem dX9_finds_14 : decode cX9_finds 14 = .ok (.bipush 12, 2) := by decide +kernel
theorem dX9_finds_16 : decode cX9_finds 16 = .ok (.iload_n 1, 1) := by decide +kernel
theorem dX9_finds_17 : decode cX9_finds 17 = .ok (.imul, 1) := by decide +kernel
theorem dX9_finds_18 : decode cX9_finds 18 = .ok (.iload_n 2, 1) := by decide +kernel
theorem dX9_finds_19 : decode cX9_finds 19 = .ok (.iadd, 1) := by decide +kernel
theorem dX9_finds_20 : decode cX9_finds 20 = .ok (.baload, 1) := by decide +kernel
theorem dX9_finds_21 : decode cX9_finds 21 = .ok (.ifCond .eq 59, 3) := by decide +kernel
theorem dX9_finds_24 : decode cX9_finds 24 = .ok (.aload_n 0, 1) := by decide +kernel
theorem dX9_finds_25 : decode cX9_finds 25 = .ok (.getfield 78, 3) := by decide +kernel
theorem dX9_finds_28 : decode cX9_finds 28 = .ok (.iload_n 2, 1) := by decide +kernel
theorem dX9_finds_29 : decode cX9_finds 29 = .ok (.baload, 1) := by decide +kernel
theorem dX9_finds_30 : decode cX9_finds 30 = .ok (.ifCond .ne 50, 3) := by decide +kernel
theorem dX9_finds_33 : decode cX9_finds 33 = .ok (.aload_n 0, 1) := by decide +kernel
theorem dX9_finds_34 : decode cX9_finds 34 = .ok (.getfield 81, 3) := by decide +kernel
theorem dX9_finds_37 : decode cX9_finds 37 = .ok (.iload_n 2, 1) := by decide +kernel
theorem dX9_finds_38 : decode cX9_finds 38 = .ok (.baload, 1) := by decide +kernel
theorem dX9_finds_39 : decode cX9_finds 39 = .ok (.ifCond .ne 41, 3) := by decide +kernel
theorem dX9_finds_42 : decode cX9_finds 42 = .ok (.aload_n 0, 1) := by decide +kernel
theorem dX9_finds_43 : decode cX9_finds 43 = .ok (.getfield 81, 3) := by decide +kernel
theorem dX9_finds_46 : decode cX9_finds 46 = .ok (.iload_n 2, 1) := by decide +kernel
theorem dX9_finds_47 : decode cX9_finds 47 = .ok (.iconst 1, 1) := by decide +kernel
theorem dX9_finds_48 : decode cX9_finds 48 = .ok (.bastore, 1) := by decide +kernel
theorem dX9_finds_49 : decode cX9_finds 49 = .ok (.aload_n 0, 1) := by decide +kernel
theorem dX9_finds_50 : decode cX9_finds 50 = .ok (.getfield 72, 3) := by decide +kernel
theorem dX9_finds_53 : decode cX9_finds 53 = .ok (.iload_n 2, 1) := by decide +kernel
theorem dX9_finds_54 : decode cX9_finds 54 = .ok (.iaload, 1) := by decide +kernel
theorem dX9_finds_55 : decode cX9_finds 55 = .ok (.ifCond .lt 16, 3) := by decide +kernel
theorem dX9_finds_58 : decode cX9_finds 58 = .ok (.aload_n 0, 1) := by decide +kernel
theorem dX9_finds_59 : decode cX9_finds 59 = .ok (.aload_n 0, 1) := by decide +kernel
theorem dX9_finds_60 : decode cX9_finds 60 = .ok (.getfield 72, 3) := by decide +kernel
theorem dX9_finds_63 : decode cX9_finds 63 = .ok (.iload_n 2, 1) := by decide +kernel
theorem dX9_finds_64 : decode cX9_finds 64 = .ok (.iaload, 1) := by decide +kernel
theorem dX9_finds_65 : decode cX9_finds 65 = .ok (.invokevirtual 131, 3) := by decide +kernel
theorem dX9_finds_68 : decode cX9_finds 68 = .ok (.ifCond .eq 12, 3) := by decide +kernel
theorem dX9_finds_71 : decode cX9_finds 71 = .ok (.aload_n 0, 1) := by decide +kernel
theorem dX9_finds_72 : decode cX9_finds 72 = .ok (.getfield 72, 3) := by decide +kernel
theorem dX9_finds_75 : decode cX9_finds 75 = .ok (.iload_n 2, 1) := by decide +kernel
theorem dX9_finds_76 : decode cX9_finds 76 = .ok (.iload_n 1, 1) := by decide +kernel
theorem dX9_finds_77 : decode cX9_finds 77 = .ok (.iastore, 1) := by decide +kernel
theorem dX9_finds_78 : decode cX9_finds 78 = .ok (.iconst 1, 1) := by decide +kernel
theorem dX9_finds_79 : decode cX9_finds 79 = .ok (.ireturn, 1) := by decide +kernel
theorem dX9_finds_80 : decode cX9_finds 80 = .ok (.iinc 2 1, 3) := by decide +kernel
theorem dX9_finds_83 : decode cX9_finds 83 = .ok (.goto (-81), 3) := by decide +kernel
theorem dX9_finds_86 : decode cX9_finds 86 = .ok (.iconst 0, 1) := by decide +kernel
theorem dX9_finds_87 : decode cX9_finds 87 = .ok (.ireturn, 1) := by decide +kernel
theorem dX9_most_0 : decode cX9_most 0 = .ok (.iconst 0, 1) := by decide +kernel
theorem dX9_most_1 : decode cX9_most 1 = .ok (.istore_n 1, 1) := by decide +kernel
theorem dX9_most_2 : decode cX9_most 2 = .ok (.iconst 0, 1) := by decide +kernel
theorem dX9_most_3 : decode cX9_most 3 = .ok (.istore_n 2, 1) := by decide +kernel
theorem dX9_most_4 : decode cX9_most 4 = .ok (.iload_n 2, 1) := by decide +kernel
theorem dX9_most_5 : decode cX9_most 5 = .ok (.aload_n 0, 1) := by decide +kernel
theorem dX9_most_6 : decode cX9_most 6 = .ok (.getfield 128, 3) := by decide +kernel
theorem dX9_most_9 : decode cX9_most 9 = .ok (.if_icmp .ge 16, 3) := by decide +kernel
theorem dX9_most_12 : decode cX9_most 12 = .ok (.aload_n 0, 1) := by decide +kernel
theorem dX9_most_13 : decode cX9_most 13 = .ok (.getfield 72, 3) := by decide +kernel
theorem dX9_most_16 : decode cX9_most 16 = .ok (.iload_n 2, 1) := by decide +kernel
theorem dX9_most_17 : decode cX9_most 17 = .ok (.iconst (-1), 1) := by decide +kernel
theorem dX9_most_18 : decode cX9_most 18 = .ok (.iastore, 1) := by decide +kernel
theorem dX9_most_19 : decode cX9_most 19 = .ok (.iinc 2 1, 3) := by decide +kernel
theorem dX9_most_22 : decode cX9_most 22 = .ok (.goto (-18), 3) := by decide +kernel
theorem dX9_most_25 : decode cX9_most 25 = .ok (.iconst 0, 1) := by decide +kernel
theorem dX9_most_26 : decode cX9_most 26 = .ok (.istore_n 2, 1) := by decide +kernel
theorem dX9_most_27 : decode cX9_most 27 = .ok (.iload_n 2, 1) := by decide +kernel
theorem dX9_most_28 : decode cX9_most 28 = .ok (.aload_n 0, 1) := by decide +kernel
theorem dX9_most_29 : decode cX9_most 29 = .ok (.getfield 134, 3) := by decide +kernel
theorem dX9_most_32 : decode cX9_most 32 = .ok (.if_icmp .ge 57, 3) := by decide +kernel
theorem dX9_most_35 : decode cX9_most 35 = .ok (.iconst 0, 1) := by decide +kernel
theorem dX9_most_36 : decode cX9_most 36 = .ok (.istore_n 3, 1) := by decide +kernel
theorem dX9_most_37 : decode cX9_most 37 = .ok (.iload_n 3, 1) := by decide +kernel
theorem dX9_most_38 : decode cX9_most 38 = .ok (.aload_n 0, 1) := by decide +kernel
theorem dX9_most_39 : decode cX9_most 39 = .ok (.getfield 128, 3) := by decide +kernel
theorem dX9_most_42 : decode cX9_most 42 = .ok (.if_icmp .ge 16, 3) := by decide +kernel
theorem dX9_most_45 : decode cX9_most 45 = .ok (.aload_n 0, 1) := by decide +kernel
theorem dX9_most_46 : decode cX9_most 46 = .ok (.getfield 81, 3) := by decide +kernel
theorem dX9_most_49 : decode cX9_most 49 = .ok (.iload_n 3, 1) := by decide +kernel
theorem dX9_most_50 : decode cX9_most 50 = .ok (.iconst 0, 1) := by decide +kernel
theorem dX9_most_51 : decode cX9_most 51 = .ok (.bastore, 1) := by decide +kernel
theorem dX9_most_52 : decode cX9_most 52 = .ok (.iinc 3 1, 3) := by decide +kernel
theorem dX9_most_55 : decode cX9_most 55 = .ok (.goto (-18), 3) := by decide +kernel
theorem dX9_most_58 : decode cX9_most 58 = .ok (.iload_n 1, 1) := by decide +kernel
theorem dX9_most_59 : decode cX9_most 59 = .ok (.aload_n 0, 1) := by decide +kernel
theorem dX9_most_60 : decode cX9_most 60 = .ok (.getfield 75, 3) := by decide +kernel
theorem dX9_most_63 : decode cX9_most 63 = .ok (.iload_n 2, 1) := by decide +kernel
theorem dX9_most_64 : decode cX9_most 64 = .ok (.baload, 1) := by decide +kernel
theorem dX9_most_65 : decode cX9_most 65 = .ok (.ifCond .ne 15, 3) := by decide +kernel
theorem dX9_most_68 : decode cX9_most 68 = .ok (.aload_n 0, 1) := by decide +kernel
theorem dX9_most_69 : decode cX9_most 69 = .ok (.iload_n 2, 1) := by decide +kernel
theorem dX9_most_70 : decode cX9_most 70 = .ok (.invokevirtual 131, 3) := by decide +kernel
theorem dX9_most_73 : decode cX9_most 73 = .ok (.ifCond .eq 7, 3) := by decide +kernel
theorem dX9_most_76 : decode cX9_most 76 = .ok (.iconst 1, 1) := by decide +kernel
theorem dX9_most_77 : decode cX9_most 77 = .ok (.goto 4, 3) := by decide +kernel
theorem dX9_most_80 : decode cX9_most 80 = .ok (.iconst 0, 1) := by decide +kernel
theorem dX9_most_81 : decode cX9_most 81 = .ok (.iadd, 1) := by decide +kernel
theorem dX9_most_82 : decode cX9_most 82 = .ok (.istore_n 1, 1) := by decide +kernel
theorem dX9_most_83 : decode cX9_most 83 = .ok (.iinc 2 1, 3) := by decide +kernel
theorem dX9_most_86 : decode cX9_most 86 = .ok (.goto (-59), 3) := by decide +kernel
theorem dX9_most_89 : decode cX9_most 89 = .ok (.iload_n 1, 1) := by decide +kernel
theorem dX9_most_90 : decode cX9_most 90 = .ok (.ireturn, 1) := by decide +kernel
theorem dX9_collect_0 : decode cX9_collect 0 = .ok (.aload_n 0, 1) := by decide +kernel
theorem dX9_collect_1 : decode cX9_collect 1 = .ok (.iconst 0, 1) := by decide +kernel
theorem dX9_collect_2 : decode cX9_collect 2 = .ok (.putfield 134, 3) := by decide +kernel
theorem dX9_collect_5 : decode cX9_collect 5 = .ok (.aload_n 0, 1) := by decide +kernel
theorem dX9_collect_6 : decode cX9_collect 6 = .ok (.iconst 0, 1) := by decide +kernel
theorem dX9_collect_7 : decode cX9_collect 7 = .ok (.putfield 128, 3) := by decide +kernel
theorem dX9_collect_10 : decode cX9_collect 10 = .ok (.iconst 0, 1) := by decide +kernel
theorem dX9_collect_11 : decode cX9_collect 11 = .ok (.istore 4, 2) := by decide +kernel
theorem dX9_collect_13 : decode cX9_collect 13 = .ok (.iload 4, 2) := by decide +kernel
theorem dX9_collect_15 : decode cX9_collect 15 = .ok (.aload_n 0, 1) := by decide +kernel
theorem dX9_collect_16 : decode cX9_collect 16 = .ok (.getfield 103, 3) := by decide +kernel
theorem dX9_collect_19 : decode cX9_collect 19 = .ok (.if_icmp .ge 140, 3) := by decide +kernel
theorem dX9_collect_22 : decode cX9_collect 22 = .ok (.aload_n 0, 1) := by decide +kernel
theorem dX9_collect_23 : decode cX9_collect 23 = .ok (.iload 4, 2) := by decide +kernel
theorem dX9_collect_25 : decode cX9_collect 25 = .ok (.invokevirtual 137, 3) := by decide +kernel
theorem dX9_collect_28 : decode cX9_collect 28 = .ok (.ifCond .eq 60, 3) := by decide +kernel
theorem dX9_collect_31 : decode cX9_collect 31 = .ok (.aload_n 0, 1) := by decide +kernel
theorem dX9_collect_32 : decode cX9_collect 32 = .ok (.getfield 32, 3) := by decide +kernel
theorem dX9_collect_35 : decode cX9_collect 35 = .ok (.iload 4, 2) := by decide +kernel
theorem dX9_collect_37 : decode cX9_collect 37 = .ok (.iaload, 1) := by decide +kernel
theorem dX9_collect_38 : decode cX9_collect 38 = .ok (.iload_n 1, 1) := by decide +kernel
theorem dX9_collect_39 : decode cX9_collect 39 = .ok (.if_icmp .ne 49, 3) := by decide +kernel
theorem dX9_collect_42 : decode cX9_collect 42 = .ok (.aload_n 0, 1) := by decide +kernel
theorem dX9_collect_43 : decode cX9_collect 43 = .ok (.getfield 35, 3) := by decide +kernel
theorem dX9_collect_46 : decode cX9_collect 46 = .ok (.iload 4, 2) := by decide +kernel
theorem dX9_collect_48 : decode cX9_collect 48 = .ok (.iaload, 1) := by decide +kernel
theorem dX9_collect_49 : decode cX9_collect 49 = .ok (.iload_n 2, 1) := by decide +kernel
theorem dX9_collect_50 : decode cX9_collect 50 = .ok (.if_icmp .ne 38, 3) := by decide +kernel
theorem dX9_collect_53 : decode cX9_collect 53 = .ok (.aload_n 0, 1) := by decide +kernel
theorem dX9_collect_54 : decode cX9_collect 54 = .ok (.getfield 41, 3) := by decide +kernel
theorem dX9_collect_57 : decode cX9_collect 57 = .ok (.iload 4, 2) := by decide +kernel
theorem dX9_collect_59 : decode cX9_collect 59 = .ok (.iaload, 1) := by decide +kernel
theorem dX9_collect_60 : decode cX9_collect 60 = .ok (.iload_n 3, 1) := by decide +kernel
theorem dX9_collect_61 : decode cX9_collect 61 = .ok (.if_icmp .ne 27, 3) := by decide +kernel
theorem dX9_collect_64 : decode cX9_collect 64 = .ok (.aload_n 0, 1) := by decide +kernel
theorem dX9_collect_65 : decode cX9_collect 65 = .ok (.getfield 63, 3) := by decide +kernel
theorem dX9_collect_68 : decode cX9_collect 68 = .ok (.aload_n 0, 1) := by decide +kernel
theorem dX9_collect_69 : decode cX9_collect 69 = .ok (.getfield 134, 3) := by decide +kernel
theorem dX9_collect_72 : decode cX9_collect 72 = .ok (.iload 4, 2) := by decide +kernel
theorem dX9_collect_74 : decode cX9_collect 74 = .ok (.iastore, 1) := by decide +kernel
theorem dX9_collect_75 : decode cX9_collect 75 = .ok (.aload_n 0, 1) := by decide +kernel
theorem dX9_collect_76 : decode cX9_collect 76 = .ok (.dup, 1) := by decide +kernel
theorem dX9_collect_77 : decode cX9_collect 77 = .ok (.getfield 134, 3) := by decide +kernel
theorem dX9_collect_80 : decode cX9_collect 80 = .ok (.iconst 1, 1) := by decide +kernel
theorem dX9_collect_81 : decode cX9_collect 81 = .ok (.iadd, 1) := by decide +kernel
theorem dX9_collect_82 : decode cX9_collect 82 = .ok (.putfield 134, 3) := by decide +kernel
theorem dX9_collect_85 : decode cX9_collect 85 = .ok (.goto 68, 3) := by decide +kernel
theorem dX9_collect_88 : decode cX9_collect 88 = .ok (.aload_n 0, 1) := by decide +kernel
theorem dX9_collect_89 : decode cX9_collect 89 = .ok (.iload 4, 2) := by decide +kernel
theorem dX9_collect_91 : decode cX9_collect 91 = .ok (.invokevirtual 137, 3) := by decide +kernel
theorem dX9_collect_94 : decode cX9_collect 94 = .ok (.ifCond .eq 59, 3) := by decide +kernel
theorem dX9_collect_97 : decode cX9_collect 97 = .ok (.aload_n 0, 1) := by decide +kernel
theorem dX9_collect_98 : decode cX9_collect 98 = .ok (.getfield 32, 3) := by decide +kernel
theorem dX9_collect_101 : decode cX9_collect 101 = .ok (.iload 4, 2) := by decide +kernel
theorem dX9_collect_103 : decode cX9_collect 103 = .ok (.iaload, 1) := by decide +kernel
theorem dX9_collect_104 : decode cX9_collect 104 = .ok (.iload_n 1, 1) := by decide +kernel
theorem dX9_collect_105 : decode cX9_collect 105 = .ok (.if_icmp .ne 48, 3) := by decide +kernel
theorem dX9_collect_108 : decode cX9_collect 108 = .ok (.aload_n 0, 1) := by decide +kernel
theorem dX9_collect_109 : decode cX9_collect 109 = .ok (.getfield 35, 3) := by decide +kernel
theorem dX9_collect_112 : decode cX9_collect 112 = .ok (.iload 4, 2) := by decide +kernel
theorem dX9_collect_114 : decode cX9_collect 114 = .ok (.iaload, 1) := by decide +kernel
theorem dX9_collect_115 : decode cX9_collect 115 = .ok (.iload_n 2, 1) := by decide +kernel
theorem dX9_collect_116 : decode cX9_collect 116 = .ok (.if_icmp .ne 37, 3) := by decide +kernel
theorem dX9_collect_119 : decode cX9_collect 119 = .ok (.aload_n 0, 1) := by decide +kernel
theorem dX9_collect_120 : decode cX9_collect 120 = .ok (.getfield 41, 3) := by decide +kernel
theorem dX9_collect_123 : decode cX9_collect 123 = .ok (.iload 4, 2) := by decide +kernel
theorem dX9_collect_125 : decode cX9_collect 125 = .ok (.iaload, 1) := by decide +kernel
theorem dX9_collect_126 : decode cX9_collect 126 = .ok (.iload_n 3, 1) := by decide +kernel
theorem dX9_collect_127 : decode cX9_collect 127 = .ok (.iconst 1, 1) := by decide +kernel
theorem dX9_collect_128 : decode cX9_collect 128 = .ok (.iadd, 1) := by decide +kernel
theorem dX9_collect_129 : decode cX9_collect 129 = .ok (.if_icmp .ne 24, 3) := by decide +kernel
theorem dX9_collect_132 : decode cX9_collect 132 = .ok (.aload_n 0, 1) := by decide +kernel
theorem dX9_collect_133 : decode cX9_collect 133 = .ok (.getfield 66, 3) := by decide +kernel
theorem dX9_collect_136 : decode cX9_collect 136 = .ok (.aload_n 0, 1) := by decide +kernel
theorem dX9_collect_137 : decode cX9_collect 137 = .ok (.getfield 128, 3) := by decide +kernel
theorem dX9_collect_140 : decode cX9_collect 140 = .ok (.iload 4, 2) := by decide +kernel
theorem dX9_collect_142 : decode cX9_collect 142 = .ok (.iastore, 1) := by decide +kernel
theorem dX9_collect_143 : decode cX9_collect 143 = .ok (.aload_n 0, 1) := by decide +kernel
theorem dX9_collect_144 : decode cX9_collect 144 = .ok (.dup, 1) := by decide +kernel
theorem dX9_collect_145 : decode cX9_collect 145 = .ok (.getfield 128, 3) := by decide +kernel
theorem dX9_collect_148 : decode cX9_collect 148 = .ok (.iconst 1, 1) := by decide +kernel
theorem dX9_collect_149 : decode cX9_collect 149 = .ok (.iadd, 1) := by decide +kernel
theorem dX9_collect_150 : decode cX9_collect 150 = .ok (.putfield 128, 3) := by decide +kernel
theorem dX9_collect_153 : decode cX9_collect 153 = .ok (.iinc 4 1, 3) := by decide +kernel
theorem dX9_collect_156 : decode cX9_collect 156 = .ok (.goto (-143), 3) := by decide +kernel
theorem dX9_collect_159 : decode cX9_collect 159 = .ok (.iconst 0, 1) := by decide +kernel
theorem dX9_collect_160 : decode cX9_collect 160 = .ok (.istore 4, 2) := by decide +kernel
theorem dX9_collect_162 : decode cX9_collect 162 = .ok (.iload 4, 2) := by decide +kernel
theorem dX9_collect_164 : decode cX9_collect 164 = .ok (.aload_n 0, 1) := by decide +kernel
theorem dX9_collect_165 : decode cX9_collect 165 = .ok (.getfield 134, 3) := by decide +kernel
theorem dX9_collect_168 : decode cX9_collect 168 = .ok (.if_icmp .ge 74, 3) := by decide +kernel
theorem dX9_collect_171 : decode cX9_collect 171 = .ok (.aload_n 0, 1) := by decide +kernel
theorem dX9_collect_172 : decode cX9_collect 172 = .ok (.getfield 75, 3) := by decide +kernel
theorem dX9_collect_175 : decode cX9_collect 175 = .ok (.iload 4, 2) := by decide +kernel
theorem dX9_collect_177 : decode cX9_collect 177 = .ok (.iconst 0, 1) := by decide +kernel
theorem dX9_collect_178 : decode cX9_collect 178 = .ok (.bastore, 1) := by decide +kernel
theorem dX9_collect_179 : decode cX9_collect 179 = .ok (.iconst 0, 1) := by decide +kernel
theorem dX9_collect_180 : decode cX9_collect 180 = .ok (.istore 5, 2) := by decide +kernel
theorem dX9_collect_182 : decode cX9_collect 182 = .ok (.iload 5, 2) := by decide +kernel
theorem dX9_collect_184 : decode cX9_collect 184 = .ok (.aload_n 0, 1) := by decide +kernel
theorem dX9_collect_185 : decode cX9_collect 185 = .ok (.getfield 128, 3) := by decide +kernel
theorem dX9_collect_188 : decode cX9_collect 188 = .ok (.if_icmp .ge 48, 3) := by decide +kernel
theorem dX9_collect_191 : decode cX9_collect 191 = .ok (.aload_n 0, 1) := by decide +kernel
theorem dX9_collect_192 : decode cX9_collect 192 = .ok (.getfield 69, 3) := by decide +kernel
theorem dX9_collect_195 : decode cX9_collect 195 = .ok (.bipush 12, 2) := by decide +kernel
theorem dX9_collect_197 : decode cX9_collect 197 = .ok (.iload 4, 2) := by decide +kernel
theorem dX9_collect_199 : decode cX9_collect 199 = .ok (.imul, 1) := by decide +kernel
theorem dX9_collect_200 : decode cX9_collect 200 = .ok (.iload 5, 2) := by decide +kernel
theorem dX9_collect_202 : decode cX9_collect 202 = .ok (.iadd, 1) := by decide +kernel
theorem dX9_collect_203 : decode cX9_collect 203 = .ok (.aload_n 0, 1) := by decide +kernel
theorem dX9_collect_204 : decode cX9_collect 204 = .ok (.aload_n 0, 1) := by decide +kernel
theorem dX9_collect_205 : decode cX9_collect 205 = .ok (.getfield 63, 3) := by decide +kernel
theorem dX9_collect_208 : decode cX9_collect 208 = .ok (.iload 4, 2) := by decide +kernel
theorem dX9_collect_210 : decode cX9_collect 210 = .ok (.iaload, 1) := by decide +kernel
theorem dX9_collect_211 : decode cX9_collect 211 = .ok (.aload_n 0, 1) := by decide +kernel
theorem dX9_collect_212 : decode cX9_collect 212 = .ok (.getfield 66, 3) := by decide +kernel
theorem dX9_collect_215 : decode cX9_collect 215 = .ok (.iload 5, 2) := by decide +kernel
theorem dX9_collect_217 : decode cX9_collect 217 = .ok (.iaload, 1) := by decide +kernel
theorem dX9_collect_218 : decode cX9_collect 218 = .ok (.invokevirtual 140, 3) := by decide +kernel
theorem dX9_collect_221 : decode cX9_collect 221 = .ok (.bastore, 1) := by decide +kernel
theorem dX9_collect_222 : decode cX9_collect 222 = .ok (.aload_n 0, 1) := by decide +kernel
theorem dX9_collect_223 : decode cX9_collect 223 = .ok (.getfield 78, 3) := by decide +kernel
theorem dX9_collect_226 : decode cX9_collect 226 = .ok (.iload 5, 2) := by decide +kernel
theorem dX9_collect_228 : decode cX9_collect 228 = .ok (.iconst 0, 1) := by decide +kernel
theorem dX9_collect_229 : decode cX9_collect 229 = .ok (.bastore, 1) := by decide +kernel
theorem dX9_collect_230 : decode cX9_collect 230 = .ok (.iinc 5 1, 3) := by decide +kernel
theorem dX9_collect_233 : decode cX9_collect 233 = .ok (.goto (-51), 3) := by decide +kernel
theorem dX9_collect_236 : decode cX9_collect 236 = .ok (.iinc 4 1, 3) := by decide +kernel
theorem dX9_collect_239 : decode cX9_collect 239 = .ok (.goto (-77), 3) := by decide +kernel
theorem dX9_collect_242 : decode cX9_collect 242 = .ok (.return_, 1) := by decide +kernel
theorem dX9_pairs_0 : decode cX9_pairs 0 = .ok (.aload_n 0, 1) := by decide +kernel
theorem dX9_pairs_1 : decode cX9_pairs 1 = .ok (.iload_n 1, 1) := by decide +kernel
theorem dX9_pairs_2 : decode cX9_pairs 2 = .ok (.iload_n 2, 1) := by decide +kernel
theorem dX9_pairs_3 : decode cX9_pairs 3 = .ok (.iload_n 3, 1) := by decide +kernel
theorem dX9_pairs_4 : decode cX9_pairs 4 = .ok (.invokevirtual 143, 3) := by decide +kernel
theorem dX9_pairs_7 : decode cX9_pairs 7 = .ok (.aload_n 0, 1) := by decide +kernel
theorem dX9_pairs_8 : decode cX9_pairs 8 = .ok (.invokevirtual 147, 3) := by decide +kernel
theorem dX9_pairs_11 : decode cX9_pairs 11 = .ok (.istore 4, 2) := by decide +kernel
theorem dX9_pairs_13 : decode cX9_pairs 13 = .ok (.iconst 0, 1) := by decide +kernel
theorem dX9_pairs_14 : decode cX9_pairs 14 = .ok (.istore 5, 2) := by decide +kernel
theorem dX9_pairs_16 : decode cX9_pairs 16 = .ok (.iload 5, 2) := by decide +kernel
theorem dX9_pairs_18 : decode cX9_pairs 18 = .ok (.aload_n 0, 1) := by decide +kernel
theorem dX9_pairs_19 : decode cX9_pairs 19 = .ok (.getfield 134, 3) := by decide +kernel
theorem dX9_pairs_22 : decode cX9_pairs 22 = .ok (.if_icmp .ge 164, 3) := by decide +kernel
theorem dX9_pairs_25 : decode cX9_pairs 25 = .ok (.aload_n 0, 1) := by decide +kernel
theorem dX9_pairs_26 : decode cX9_pairs 26 = .ok (.getfield 75, 3) := by decide +kernel
theorem dX9_pairs_29 : decode cX9_pairs 29 = .ok (.iload 5, 2) := by decide +kernel
theorem dX9_pairs_31 : decode cX9_pairs 31 = .ok (.iconst 1, 1) := by decide +kernel
theorem dX9_pairs_32 : decode cX9_pairs 32 = .ok (.bastore, 1) := by decide +kernel
theorem dX9_pairs_33 : decode cX9_pairs 33 = .ok (.iconst (-1), 1) := by decide +kernel
theorem dX9_pairs_34 : decode cX9_pairs 34 = .ok (.istore 6, 2) := by decide +kernel
theorem dX9_pairs_36 : decode cX9_pairs 36 = .ok (.iconst 0, 1) := by decide +kernel
theorem dX9_pairs_37 : decode cX9_pairs 37 = .ok (.istore 7, 2) := by decide +kernel
theorem dX9_pairs_39 : decode cX9_pairs 39 = .ok (.iload 7, 2) := by decide +kernel
theorem dX9_pairs_41 : decode cX9_pairs 41 = .ok (.aload_n 0, 1) := by decide +kernel
theorem dX9_pairs_42 : decode cX9_pairs 42 = .ok (.getfield 128, 3) := by decide +kernel
theorem dX9_pairs_45 : decode cX9_pairs 45 = .ok (.if_icmp .ge 89, 3) := by decide +kernel
theorem dX9_pairs_48 : decode cX9_pairs 48 = .ok (.iload 6, 2) := by decide +kernel
theorem dX9_pairs_50 : decode cX9_pairs 50 = .ok (.ifCond .ge 84, 3) := by decide +kernel
theorem dX9_pairs_53 : decode cX9_pairs 53 = .ok (.iload 4, 2) := by decide +kernel
theorem dX9_pairs_55 : decode cX9_pairs 55 = .ok (.ifCond .le 79, 3) := by decide +kernel
theorem dX9_pairs_58 : decode cX9_pairs 58 = .ok (.aload_n 0, 1) := by decide +kernel
theorem dX9_pairs_59 : decode cX9_pairs 59 = .ok (.getfield 69, 3) := by decide +kernel
theorem dX9_pairs_62 : decode cX9_pairs 62 = .ok (.bipush 12, 2) := by decide +kernel
theorem dX9_pairs_64 : decode cX9_pairs 64 = .ok (.iload 5, 2) := by decide +kernel
theorem dX9_pairs_66 : decode cX9_pairs 66 = .ok (.imul, 1) := by decide +kernel
theorem dX9_pairs_67 : decode cX9_pairs 67 = .ok (.iload 7, 2) := by decide +kernel
theorem dX9_pairs_69 : decode cX9_pairs 69 = .ok (.iadd, 1) := by decide +kernel
theorem dX9_pairs_70 : decode cX9_pairs 70 = .ok (.baload, 1) := by decide +kernel
theorem dX9_pairs_71 : decode cX9_pairs 71 = .ok (.ifCond .eq 57, 3) := by decide +kernel
theorem dX9_pairs_74 : decode cX9_pairs 74 = .ok (.aload_n 0, 1) := by decide +kernel
theorem dX9_pairs_75 : decode cX9_pairs 75 = .ok (.getfield 78, 3) := by decide +kernel
theorem dX9_pairs_78 : decode cX9_pairs 78 = .ok (.iload 7, 2) := by decide +kernel
theorem dX9_pairs_80 : decode cX9_pairs 80 = .ok (.baload, 1) := by decide +kernel
theorem dX9_pairs_81 : decode cX9_pairs 81 = .ok (.ifCond .ne 47, 3) := by decide +kernel
theorem dX9_pairs_84 : decode cX9_pairs 84 = .ok (.aload_n 0, 1) := by decide +kernel
theorem dX9_pairs_85 : decode cX9_pairs 85 = .ok (.getfield 78, 3) := by decide +kernel
theorem dX9_pairs_88 : decode cX9_pairs 88 = .ok (.iload 7, 2) := by decide +kernel
theorem dX9_pairs_90 : decode cX9_pairs 90 = .ok (.iconst 1, 1) := by decide +kernel
theorem dX9_pairs_91 : decode cX9_pairs 91 = .ok (.bastore, 1) := by decide +kernel
theorem dX9_pairs_92 : decode cX9_pairs 92 = .ok (.aload_n 0, 1) := by decide +kernel
theorem dX9_pairs_93 : decode cX9_pairs 93 = .ok (.invokevirtual 147, 3) := by decide +kernel
theorem dX9_pairs_96 : decode cX9_pairs 96 = .ok (.iload 4, 2) := by decide +kernel
theorem dX9_pairs_98 : decode cX9_pairs 98 = .ok (.iconst 1, 1) := by decide +kernel
theorem dX9_pairs_99 : decode cX9_pairs 99 = .ok (.isub, 1) := by decide +kernel
theorem dX9_pairs_100 : decode cX9_pairs 100 = .ok (.if_icmp .ne 8, 3) := by decide +kernel
theorem dX9_pairs_103 : decode cX9_pairs 103 = .ok (.iload 7, 2) := by decide +kernel
theorem dX9_pairs_105 : decode cX9_pairs 105 = .ok (.goto 4, 3) := by decide +kernel
theorem dX9_pairs_108 : decode cX9_pairs 108 = .ok (.iconst (-1), 1) := by decide +kernel
theorem dX9_pairs_109 : decode cX9_pairs 109 = .ok (.istore 6, 2) := by decide +kernel
theorem dX9_pairs_111 : decode cX9_pairs 111 = .ok (.aload_n 0, 1) := by decide +kernel
theorem dX9_pairs_112 : decode cX9_pairs 112 = .ok (.getfield 78, 3) := by decide +kernel
theorem dX9_pairs_115 : decode cX9_pairs 115 = .ok (.iload 7, 2) := by decide +kernel
theorem dX9_pairs_117 : decode cX9_pairs 117 = .ok (.iload 6, 2) := by decide +kernel
theorem dX9_pairs_119 : decode cX9_pairs 119 = .ok (.ifCond .lt 7, 3) := by decide +kernel
theorem dX9_pairs_122 : decode cX9_pairs 122 = .ok (.iconst 1, 1) := by decide +kernel
theorem dX9_pairs_123 : decode cX9_pairs 123 = .ok (.goto 4, 3) := by decide +kernel
theorem dX9_pairs_126 : decode cX9_pairs 126 = .ok (.iconst 0, 1) := by decide +kernel
theorem dX9_pairs_127 : decode cX9_pairs 127 = .ok (.bastore, 1) := by decide +kernel
theorem dX9_pairs_128 : decode cX9_pairs 128 = .ok (.iinc 7 1, 3) := by decide +kernel
theorem dX9_pairs_131 : decode cX9_pairs 131 = .ok (.goto (-92), 3) := by decide +kernel
theorem dX9_pairs_134 : decode cX9_pairs 134 = .ok (.iload 6, 2) := by decide +kernel
theorem dX9_pairs_136 : decode cX9_pairs 136 = .ok (.ifCond .lt 44, 3) := by decide +kernel
theorem dX9_pairs_139 : decode cX9_pairs 139 = .ok (.aload_n 0, 1) := by decide +kernel
theorem dX9_pairs_140 : decode cX9_pairs 140 = .ok (.getfield 57, 3) := by decide +kernel
theorem dX9_pairs_143 : decode cX9_pairs 143 = .ok (.aload_n 0, 1) := by decide +kernel
theorem dX9_pairs_144 : decode cX9_pairs 144 = .ok (.getfield 63, 3) := by decide +kernel
theorem dX9_pairs_147 : decode cX9_pairs 147 = .ok (.iload 5, 2) := by decide +kernel
theorem dX9_pairs_149 : decode cX9_pairs 149 = .ok (.iaload, 1) := by decide +kernel
theorem dX9_pairs_150 : decode cX9_pairs 150 = .ok (.aload_n 0, 1) := by decide +kernel
theorem dX9_pairs_151 : decode cX9_pairs 151 = .ok (.getfield 66, 3) := by decide +kernel
theorem dX9_pairs_154 : decode cX9_pairs 154 = .ok (.iload 6, 2) := by decide +kernel
theorem dX9_pairs_156 : decode cX9_pairs 156 = .ok (.iaload, 1) := by decide +kernel
theorem dX9_pairs_157 : decode cX9_pairs 157 = .ok (.iastore, 1) := by decide +kernel
theorem dX9_pairs_158 : decode cX9_pairs 158 = .ok (.aload_n 0, 1) := by decide +kernel
theorem dX9_pairs_159 : decode cX9_pairs 159 = .ok (.getfield 60, 3) := by decide +kernel
theorem dX9_pairs_162 : decode cX9_pairs 162 = .ok (.aload_n 0, 1) := by decide +kernel
theorem dX9_pairs_163 : decode cX9_pairs 163 = .ok (.getfield 66, 3) := by decide +kernel
theorem dX9_pairs_166 : decode cX9_pairs 166 = .ok (.iload 6, 2) := by decide +kernel
theorem dX9_pairs_168 : decode cX9_pairs 168 = .ok (.iaload, 1) := by decide +kernel
theorem dX9_pairs_169 : decode cX9_pairs 169 = .ok (.aload_n 0, 1) := by decide +kernel
theorem dX9_pairs_170 : decode cX9_pairs 170 = .ok (.getfield 63, 3) := by decide +kernel
theorem dX9_pairs_173 : decode cX9_pairs 173 = .ok (.iload 5, 2) := by decide +kernel
theorem dX9_pairs_175 : decode cX9_pairs 175 = .ok (.iaload, 1) := by decide +kernel
theorem dX9_pairs_176 : decode cX9_pairs 176 = .ok (.iastore, 1) := by decide +kernel
theorem dX9_pairs_177 : decode cX9_pairs 177 = .ok (.iinc 4 (-1), 3) := by decide +kernel
theorem dX9_pairs_180 : decode cX9_pairs 180 = .ok (.iinc 5 1, 3) := by decide +kernel
theorem dX9_pairs_183 : decode cX9_pairs 183 = .ok (.goto (-167), 3) := by decide +kernel
theorem dX9_pairs_186 : decode cX9_pairs 186 = .ok (.return_, 1) := by decide +kernel
theorem dX9_pairsOf_0 : decode cX9_pairsOf 0 = .ok (.iconst 0, 1) := by decide +kernel
theorem dX9_pairsOf_1 : decode cX9_pairsOf 1 = .ok (.istore_n 2, 1) := by decide +kernel
theorem dX9_pairsOf_2 : decode cX9_pairsOf 2 = .ok (.iload_n 2, 1) := by decide +kernel
theorem dX9_pairsOf_3 : decode cX9_pairsOf 3 = .ok (.sipush 300, 3) := by decide +kernel
theorem dX9_pairsOf_6 : decode cX9_pairsOf 6 = .ok (.if_icmp .ge 23, 3) := by decide +kernel
theorem dX9_pairsOf_9 : decode cX9_pairsOf 9 = .ok (.aload_n 0, 1) := by decide +kernel
theorem dX9_pairsOf_10 : decode cX9_pairsOf 10 = .ok (.getfield 57, 3) := by decide +kernel
theorem dX9_pairsOf_13 : decode cX9_pairsOf 13 = .ok (.iload_n 2, 1) := by decide +kernel
theorem dX9_pairsOf_14 : decode cX9_pairsOf 14 = .ok (.iconst (-1), 1) := by decide +kernel
theorem dX9_pairsOf_15 : decode cX9_pairsOf 15 = .ok (.iastore, 1) := by decide +kernel
theorem dX9_pairsOf_16 : decode cX9_pairsOf 16 = .ok (.aload_n 0, 1) := by decide +kernel
theorem dX9_pairsOf_17 : decode cX9_pairsOf 17 = .ok (.getfield 60, 3) := by decide +kernel
theorem dX9_pairsOf_20 : decode cX9_pairsOf 20 = .ok (.iload_n 2, 1) := by decide +kernel
theorem dX9_pairsOf_21 : decode cX9_pairsOf 21 = .ok (.iconst (-1), 1) := by decide +kernel
theorem dX9_pairsOf_22 : decode cX9_pairsOf 22 = .ok (.iastore, 1) := by decide +kernel
theorem dX9_pairsOf_23 : decode cX9_pairsOf 23 = .ok (.iinc 2 1, 3) := by decide +kernel
theorem dX9_pairsOf_26 : decode cX9_pairsOf 26 = .ok (.goto (-24), 3) := by decide +kernel
theorem dX9_pairsOf_29 : decode cX9_pairsOf 29 = .ok (.iconst 0, 1) := by decide +kernel
theorem dX9_pairsOf_30 : decode cX9_pairsOf 30 = .ok (.istore_n 2, 1) := by decide +kernel
theorem dX9_pairsOf_31 : decode cX9_pairsOf 31 = .ok (.iload_n 2, 1) := by decide +kernel
theorem dX9_pairsOf_32 : decode cX9_pairsOf 32 = .ok (.bipush 30, 2) := by decide +kernel
theorem dX9_pairsOf_34 : decode cX9_pairsOf 34 = .ok (.if_icmp .ge 34, 3) := by decide +kernel
theorem dX9_pairsOf_37 : decode cX9_pairsOf 37 = .ok (.iconst 0, 1) := by decide +kernel
theorem dX9_pairsOf_38 : decode cX9_pairsOf 38 = .ok (.istore_n 3, 1) := by decide +kernel
theorem dX9_pairsOf_39 : decode cX9_pairsOf 39 = .ok (.iload_n 3, 1) := by decide +kernel
theorem dX9_pairsOf_40 : decode cX9_pairsOf 40 = .ok (.iconst 1, 1) := by decide +kernel
theorem dX9_pairsOf_41 : decode cX9_pairsOf 41 = .ok (.iadd, 1) := by decide +kernel
theorem dX9_pairsOf_42 : decode cX9_pairsOf 42 = .ok (.aload_n 0, 1) := by decide +kernel
theorem dX9_pairsOf_43 : decode cX9_pairsOf 43 = .ok (.getfield 100, 3) := by decide +kernel
theorem dX9_pairsOf_46 : decode cX9_pairsOf 46 = .ok (.if_icmp .ge 16, 3) := by decide +kernel
theorem dX9_pairsOf_49 : decode cX9_pairsOf 49 = .ok (.aload_n 0, 1) := by decide +kernel
theorem dX9_pairsOf_50 : decode cX9_pairsOf 50 = .ok (.iload_n 1, 1) := by decide +kernel
theorem dX9_pairsOf_51 : decode cX9_pairsOf 51 = .ok (.iload_n 2, 1) := by decide +kernel
theorem dX9_pairsOf_52 : decode cX9_pairsOf 52 = .ok (.iload_n 3, 1) := by decide +kernel
theorem dX9_pairsOf_53 : decode cX9_pairsOf 53 = .ok (.invokevirtual 151, 3) := by decide +kernel
theorem dX9_pairsOf_56 : decode cX9_pairsOf 56 = .ok (.iinc 3 1, 3) := by decide +kernel
theorem dX9_pairsOf_59 : decode cX9_pairsOf 59 = .ok (.goto (-20), 3) := by decide +kernel
theorem dX9_pairsOf_62 : decode cX9_pairsOf 62 = .ok (.iinc 2 1, 3) := by decide +kernel
theorem dX9_pairsOf_65 : decode cX9_pairsOf 65 = .ok (.goto (-34), 3) := by decide +kernel
theorem dX9_pairsOf_68 : decode cX9_pairsOf 68 = .ok (.return_, 1) := by decide +kernel
theorem dX9_partner_0 : decode cX9_partner 0 = .ok (.aload_n 0, 1) := by decide +kernel
theorem dX9_partner_1 : decode cX9_partner 1 = .ok (.iconst 0, 1) := by decide +kernel
theorem dX9_partner_2 : decode cX9_partner 2 = .ok (.putfield 1, 3) := by decide +kernel
theorem dX9_partner_5 : decode cX9_partner 5 = .ok (.aload_n 0, 1) := by decide +kernel
theorem dX9_partner_6 : decode cX9_partner 6 = .ok (.iload_n 1, 1) := by decide +kernel
theorem dX9_partner_7 : decode cX9_partner 7 = .ok (.invokevirtual 137, 3) := by decide +kernel
theorem dX9_partner_10 : decode cX9_partner 10 = .ok (.ifCond .ne 6, 3) := by decide +kernel
theorem dX9_partner_13 : decode cX9_partner 13 = .ok (.bipush (-2), 2) := by decide +kernel
theorem dX9_partner_15 : decode cX9_partner 15 = .ok (.ireturn, 1) := by decide +kernel
theorem dX9_partner_16 : decode cX9_partner 16 = .ok (.aload_n 0, 1) := by decide +kernel
theorem dX9_partner_17 : decode cX9_partner 17 = .ok (.aload_n 0, 1) := by decide +kernel
theorem dX9_partner_18 : decode cX9_partner 18 = .ok (.getfield 32, 3) := by decide +kernel
theorem dX9_partner_21 : decode cX9_partner 21 = .ok (.iload_n 1, 1) := by decide +kernel
theorem dX9_partner_22 : decode cX9_partner 22 = .ok (.iaload, 1) := by decide +kernel
theorem dX9_partner_23 : decode cX9_partner 23 = .ok (.invokevirtual 154, 3) := by decide +kernel
theorem dX9_partner_26 : decode cX9_partner 26 = .ok (.aload_n 0, 1) := by decide +kernel
theorem dX9_partner_27 : decode cX9_partner 27 = .ok (.getfield 57, 3) := by decide +kernel
theorem dX9_partner_30 : decode cX9_partner 30 = .ok (.iload_n 1, 1) := by decide +kernel
theorem dX9_partner_31 : decode cX9_partner 31 = .ok (.iaload, 1) := by decide +kernel
theorem dX9_partner_32 : decode cX9_partner 32 = .ok (.ireturn, 1) := by decide +kernel
theorem dX9_firstOf_0 : decode cX9_firstOf 0 = .ok (.iload_n 1, 1) := by decide +kernel
theorem dX9_firstOf_1 : decode cX9_firstOf 1 = .ok (.istore_n 2, 1) := by decide +kernel
theorem dX9_firstOf_2 : decode cX9_firstOf 2 = .ok (.aload_n 0, 1) := by decide +kernel
theorem dX9_firstOf_3 : decode cX9_firstOf 3 = .ok (.getfield 60, 3) := by decide +kernel
theorem dX9_firstOf_6 : decode cX9_firstOf 6 = .ok (.iload_n 2, 1) := by decide +kernel
theorem dX9_firstOf_7 : decode cX9_firstOf 7 = .ok (.iaload, 1) := by decide +kernel
theorem dX9_firstOf_8 : decode cX9_firstOf 8 = .ok (.ifCond .lt 13, 3) := by decide +kernel
theorem dX9_firstOf_11 : decode cX9_firstOf 11 = .ok (.aload_n 0, 1) := by decide +kernel
theorem dX9_firstOf_12 : decode cX9_firstOf 12 = .ok (.getfield 60, 3) := by decide +kernel
theorem dX9_firstOf_15 : decode cX9_firstOf 15 = .ok (.iload_n 2, 1) := by decide +kernel
theorem dX9_firstOf_16 : decode cX9_firstOf 16 = .ok (.iaload, 1) := by decide +kernel
theorem dX9_firstOf_17 : decode cX9_firstOf 17 = .ok (.istore_n 2, 1) := by decide +kernel
theorem dX9_firstOf_18 : decode cX9_firstOf 18 = .ok (.goto (-16), 3) := by decide +kernel
theorem dX9_firstOf_21 : decode cX9_firstOf 21 = .ok (.iload_n 2, 1) := by decide +kernel
theorem dX9_firstOf_22 : decode cX9_firstOf 22 = .ok (.ireturn, 1) := by decide +kernel
theorem dX9_bird_0 : decode cX9_bird 0 = .ok (.aload_n 0, 1) := by decide +kernel
theorem dX9_bird_1 : decode cX9_bird 1 = .ok (.iconst 0, 1) := by decide +kernel
theorem dX9_bird_2 : decode cX9_bird 2 = .ok (.putfield 1, 3) := by decide +kernel
theorem dX9_bird_5 : decode cX9_bird 5 = .ok (.aload_n 0, 1) := by decide +kernel
theorem dX9_bird_6 : decode cX9_bird 6 = .ok (.iload_n 1, 1) := by decide +kernel
theorem dX9_bird_7 : decode cX9_bird 7 = .ok (.invokevirtual 137, 3) := by decide +kernel
theorem dX9_bird_10 : decode cX9_bird 10 = .ok (.ifCond .ne 6, 3) := by decide +kernel
theorem dX9_bird_13 : decode cX9_bird 13 = .ok (.bipush (-2), 2) := by decide +kernel
theorem dX9_bird_15 : decode cX9_bird 15 = .ok (.ireturn, 1) := by decide +kernel
theorem dX9_bird_16 : decode cX9_bird 16 = .ok (.aload_n 0, 1) := by decide +kernel
theorem dX9_bird_17 : decode cX9_bird 17 = .ok (.aload_n 0, 1) := by decide +kernel
theorem dX9_bird_18 : decode cX9_bird 18 = .ok (.getfield 32, 3) := by decide +kernel
theorem dX9_bird_21 : decode cX9_bird 21 = .ok (.iload_n 1, 1) := by decide +kernel
theorem dX9_bird_22 : decode cX9_bird 22 = .ok (.iaload, 1) := by decide +kernel
theorem dX9_bird_23 : decode cX9_bird 23 = .ok (.invokevirtual 154, 3) := by decide +kernel
theorem dX9_bird_26 : decode cX9_bird 26 = .ok (.aload_n 0, 1) := by decide +kernel
theorem dX9_bird_27 : decode cX9_bird 27 = .ok (.iload_n 1, 1) := by decide +kernel
theorem dX9_bird_28 : decode cX9_bird 28 = .ok (.invokevirtual 158, 3) := by decide +kernel
theorem dX9_bird_31 : decode cX9_bird 31 = .ok (.ireturn, 1) := by decide +kernel
theorem dX9_isBird_0 : decode cX9_isBird 0 = .ok (.aload_n 0, 1) := by decide +kernel
theorem dX9_isBird_1 : decode cX9_isBird 1 = .ok (.iload_n 1, 1) := by decide +kernel
theorem dX9_isBird_2 : decode cX9_isBird 2 = .ok (.invokevirtual 137, 3) := by decide +kernel
theorem dX9_isBird_5 : decode cX9_isBird 5 = .ok (.ifCond .eq 26, 3) := by decide +kernel
theorem dX9_isBird_8 : decode cX9_isBird 8 = .ok (.aload_n 0, 1) := by decide +kernel
theorem dX9_isBird_9 : decode cX9_isBird 9 = .ok (.getfield 32, 3) := by decide +kernel
theorem dX9_isBird_12 : decode cX9_isBird 12 = .ok (.iload_n 1, 1) := by decide +kernel
theorem dX9_isBird_13 : decode cX9_isBird 13 = .ok (.iaload, 1) := by decide +kernel
theorem dX9_isBird_14 : decode cX9_isBird 14 = .ok (.iload_n 2, 1) := by decide +kernel
theorem dX9_isBird_15 : decode cX9_isBird 15 = .ok (.if_icmp .ne 16, 3) := by decide +kernel
theorem dX9_isBird_18 : decode cX9_isBird 18 = .ok (.aload_n 0, 1) := by decide +kernel
theorem dX9_isBird_19 : decode cX9_isBird 19 = .ok (.getfield 60, 3) := by decide +kernel
theorem dX9_isBird_22 : decode cX9_isBird 22 = .ok (.iload_n 1, 1) := by decide +kernel
theorem dX9_isBird_23 : decode cX9_isBird 23 = .ok (.iaload, 1) := by decide +kernel
theorem dX9_isBird_24 : decode cX9_isBird 24 = .ok (.ifCond .ge 7, 3) := by decide +kernel
theorem dX9_isBird_27 : decode cX9_isBird 27 = .ok (.iconst 1, 1) := by decide +kernel
theorem dX9_isBird_28 : decode cX9_isBird 28 = .ok (.goto 4, 3) := by decide +kernel
theorem dX9_isBird_31 : decode cX9_isBird 31 = .ok (.iconst 0, 1) := by decide +kernel
theorem dX9_isBird_32 : decode cX9_isBird 32 = .ok (.ireturn, 1) := by decide +kernel
theorem dX9_kindOfBird_0 : decode cX9_kindOfBird 0 = .ok (.aload_n 0, 1) := by decide +kernel
theorem dX9_kindOfBird_1 : decode cX9_kindOfBird 1 = .ok (.getfield 44, 3) := by decide +kernel
theorem dX9_kindOfBird_4 : decode cX9_kindOfBird 4 = .ok (.iload_n 1, 1) := by decide +kernel
theorem dX9_kindOfBird_5 : decode cX9_kindOfBird 5 = .ok (.iaload, 1) := by decide +kernel
theorem dX9_kindOfBird_6 : decode cX9_kindOfBird 6 = .ok (.istore_n 2, 1) := by decide +kernel
theorem dX9_kindOfBird_7 : decode cX9_kindOfBird 7 = .ok (.aload_n 0, 1) := by decide +kernel
theorem dX9_kindOfBird_8 : decode cX9_kindOfBird 8 = .ok (.getfield 57, 3) := by decide +kernel
theorem dX9_kindOfBird_11 : decode cX9_kindOfBird 11 = .ok (.iload_n 1, 1) := by decide +kernel
theorem dX9_kindOfBird_12 : decode cX9_kindOfBird 12 = .ok (.iaload, 1) := by decide +kernel
theorem dX9_kindOfBird_13 : decode cX9_kindOfBird 13 = .ok (.istore_n 3, 1) := by decide +kernel
theorem dX9_kindOfBird_14 : decode cX9_kindOfBird 14 = .ok (.iload_n 3, 1) := by decide +kernel
theorem dX9_kindOfBird_15 : decode cX9_kindOfBird 15 = .ok (.ifCond .lt 42, 3) := by decide +kernel
theorem dX9_kindOfBird_18 : decode cX9_kindOfBird 18 = .ok (.aload_n 0, 1) := by decide +kernel
theorem dX9_kindOfBird_19 : decode cX9_kindOfBird 19 = .ok (.aload_n 0, 1) := by decide +kernel
theorem dX9_kindOfBird_20 : decode cX9_kindOfBird 20 = .ok (.getfield 44, 3) := by decide +kernel
theorem dX9_kindOfBird_23 : decode cX9_kindOfBird 23 = .ok (.iload_n 3, 1) := by decide +kernel
theorem dX9_kindOfBird_24 : decode cX9_kindOfBird 24 = .ok (.iaload, 1) := by decide +kernel
theorem dX9_kindOfBird_25 : decode cX9_kindOfBird 25 = .ok (.invokevirtual 124, 3) := by decide +kernel
theorem dX9_kindOfBird_28 : decode cX9_kindOfBird 28 = .ok (.aload_n 0, 1) := by decide +kernel
theorem dX9_kindOfBird_29 : decode cX9_kindOfBird 29 = .ok (.iload_n 2, 1) := by decide +kernel
theorem dX9_kindOfBird_30 : decode cX9_kindOfBird 30 = .ok (.invokevirtual 124, 3) := by decide +kernel
theorem dX9_kindOfBird_33 : decode cX9_kindOfBird 33 = .ok (.if_icmp .le 12, 3) := by decide +kernel
theorem dX9_kindOfBird_36 : decode cX9_kindOfBird 36 = .ok (.aload_n 0, 1) := by decide +kernel
theorem dX9_kindOfBird_37 : decode cX9_kindOfBird 37 = .ok (.getfield 44, 3) := by decide +kernel
theorem dX9_kindOfBird_40 : decode cX9_kindOfBird 40 = .ok (.iload_n 3, 1) := by decide +kernel
theorem dX9_kindOfBird_41 : decode cX9_kindOfBird 41 = .ok (.iaload, 1) := by decide +kernel
theorem dX9_kindOfBird_42 : decode cX9_kindOfBird 42 = .ok (.goto 4, 3) := by decide +kernel
theorem dX9_kindOfBird_45 : decode cX9_kindOfBird 45 = .ok (.iload_n 2, 1) := by decide +kernel
theorem dX9_kindOfBird_46 : decode cX9_kindOfBird 46 = .ok (.istore_n 2, 1) := by decide +kernel
theorem dX9_kindOfBird_47 : decode cX9_kindOfBird 47 = .ok (.aload_n 0, 1) := by decide +kernel
theorem dX9_kindOfBird_48 : decode cX9_kindOfBird 48 = .ok (.getfield 57, 3) := by decide +kernel
theorem dX9_kindOfBird_51 : decode cX9_kindOfBird 51 = .ok (.iload_n 3, 1) := by decide +kernel
theorem dX9_kindOfBird_52 : decode cX9_kindOfBird 52 = .ok (.iaload, 1) := by decide +kernel
theorem dX9_kindOfBird_53 : decode cX9_kindOfBird 53 = .ok (.istore_n 3, 1) := by decide +kernel
theorem dX9_kindOfBird_54 : decode cX9_kindOfBird 54 = .ok (.goto (-40), 3) := by decide +kernel
theorem dX9_kindOfBird_57 : decode cX9_kindOfBird 57 = .ok (.iload_n 2, 1) := by decide +kernel
theorem dX9_kindOfBird_58 : decode cX9_kindOfBird 58 = .ok (.ireturn, 1) := by decide +kernel
theorem dX9_just_0 : decode cX9_just 0 = .ok (.iconst 0, 1) := by decide +kernel
theorem dX9_just_1 : decode cX9_just 1 = .ok (.istore_n 3, 1) := by decide +kernel
theorem dX9_just_2 : decode cX9_just 2 = .ok (.iconst 0, 1) := by decide +kernel
theorem dX9_just_3 : decode cX9_just 3 = .ok (.istore 4, 2) := by decide +kernel
theorem dX9_just_5 : decode cX9_just 5 = .ok (.iload 4, 2) := by decide +kernel
theorem dX9_just_7 : decode cX9_just 7 = .ok (.aload_n 0, 1) := by decide +kernel
theorem dX9_just_8 : decode cX9_just 8 = .ok (.getfield 103, 3) := by decide +kernel
theorem dX9_just_11 : decode cX9_just 11 = .ok (.if_icmp .ge 37, 3) := by decide +kernel
theorem dX9_just_14 : decode cX9_just 14 = .ok (.iload_n 3, 1) := by decide +kernel
theorem dX9_just_15 : decode cX9_just 15 = .ok (.aload_n 0, 1) := by decide +kernel
theorem dX9_just_16 : decode cX9_just 16 = .ok (.iload 4, 2) := by decide +kernel
theorem dX9_just_18 : decode cX9_just 18 = .ok (.iload_n 1, 1) := by decide +kernel
theorem dX9_just_19 : decode cX9_just 19 = .ok (.invokevirtual 161, 3) := by decide +kernel
theorem dX9_just_22 : decode cX9_just 22 = .ok (.ifCond .eq 17, 3) := by decide +kernel
theorem dX9_just_25 : decode cX9_just 25 = .ok (.aload_n 0, 1) := by decide +kernel
theorem dX9_just_26 : decode cX9_just 26 = .ok (.iload 4, 2) := by decide +kernel
theorem dX9_just_28 : decode cX9_just 28 = .ok (.invokevirtual 164, 3) := by decide +kernel
theorem dX9_just_31 : decode cX9_just 31 = .ok (.iload_n 2, 1) := by decide +kernel
theorem dX9_just_32 : decode cX9_just 32 = .ok (.if_icmp .ne 7, 3) := by decide +kernel
theorem dX9_just_35 : decode cX9_just 35 = .ok (.iconst 1, 1) := by decide +kernel
theorem dX9_just_36 : decode cX9_just 36 = .ok (.goto 4, 3) := by decide +kernel
theorem dX9_just_39 : decode cX9_just 39 = .ok (.iconst 0, 1) := by decide +kernel
theorem dX9_just_40 : decode cX9_just 40 = .ok (.iadd, 1) := by decide +kernel
theorem dX9_just_41 : decode cX9_just 41 = .ok (.istore_n 3, 1) := by decide +kernel
theorem dX9_just_42 : decode cX9_just 42 = .ok (.iinc 4 1, 3) := by decide +kernel
theorem dX9_just_45 : decode cX9_just 45 = .ok (.goto (-40), 3) := by decide +kernel
theorem dX9_just_48 : decode cX9_just 48 = .ok (.iload_n 3, 1) := by decide +kernel
theorem dX9_just_49 : decode cX9_just 49 = .ok (.ireturn, 1) := by decide +kernel
theorem dX9_numbers_0 : decode cX9_numbers 0 = .ok (.iconst 0, 1) := by decide +kernel
theorem dX9_numbers_1 : decode cX9_numbers 1 = .ok (.istore_n 2, 1) := by decide +kernel
theorem dX9_numbers_2 : decode cX9_numbers 2 = .ok (.iload_n 2, 1) := by decide +kernel
theorem dX9_numbers_3 : decode cX9_numbers 3 = .ok (.aload_n 0, 1) := by decide +kernel
theorem dX9_numbers_4 : decode cX9_numbers 4 = .ok (.getfield 17, 3) := by decide +kernel
theorem dX9_numbers_7 : decode cX9_numbers 7 = .ok (.if_icmp .ge 45, 3) := by decide +kernel
theorem dX9_numbers_10 : decode cX9_numbers 10 = .ok (.aload_n 0, 1) := by decide +kernel
theorem dX9_numbers_11 : decode cX9_numbers 11 = .ok (.getfield 87, 3) := by decide +kernel
theorem dX9_numbers_14 : decode cX9_numbers 14 = .ok (.iload_n 2, 1) := by decide +kernel
theorem dX9_numbers_15 : decode cX9_numbers 15 = .ok (.aload_n 0, 1) := by decide +kernel
theorem dX9_numbers_16 : decode cX9_numbers 16 = .ok (.iload_n 1, 1) := by decide +kernel
theorem dX9_numbers_17 : decode cX9_numbers 17 = .ok (.iload_n 2, 1) := by decide +kernel
theorem dX9_numbers_18 : decode cX9_numbers 18 = .ok (.invokevirtual 167, 3) := by decide +kernel
theorem dX9_numbers_21 : decode cX9_numbers 21 = .ok (.iastore, 1) := by decide +kernel
theorem dX9_numbers_22 : decode cX9_numbers 22 = .ok (.aload_n 0, 1) := by decide +kernel
theorem dX9_numbers_23 : decode cX9_numbers 23 = .ok (.getfield 84, 3) := by decide +kernel
theorem dX9_numbers_26 : decode cX9_numbers 26 = .ok (.iload_n 2, 1) := by decide +kernel
theorem dX9_numbers_27 : decode cX9_numbers 27 = .ok (.aload_n 0, 1) := by decide +kernel
theorem dX9_numbers_28 : decode cX9_numbers 28 = .ok (.iload_n 2, 1) := by decide +kernel
theorem dX9_numbers_29 : decode cX9_numbers 29 = .ok (.invokevirtual 171, 3) := by decide +kernel
theorem dX9_numbers_32 : decode cX9_numbers 32 = .ok (.ifCond .eq 12, 3) := by decide +kernel
theorem dX9_numbers_35 : decode cX9_numbers 35 = .ok (.aload_n 0, 1) := by decide +kernel
theorem dX9_numbers_36 : decode cX9_numbers 36 = .ok (.getfield 87, 3) := by decide +kernel
theorem dX9_numbers_39 : decode cX9_numbers 39 = .ok (.iload_n 2, 1) := by decide +kernel
theorem dX9_numbers_40 : decode cX9_numbers 40 = .ok (.iaload, 1) := by decide +kernel
theorem dX9_numbers_41 : decode cX9_numbers 41 = .ok (.goto 4, 3) := by decide +kernel
theorem dX9_numbers_44 : decode cX9_numbers 44 = .ok (.iconst 0, 1) := by decide +kernel
theorem dX9_numbers_45 : decode cX9_numbers 45 = .ok (.iastore, 1) := by decide +kernel
theorem dX9_numbers_46 : decode cX9_numbers 46 = .ok (.iinc 2 1, 3) := by decide +kernel
theorem dX9_numbers_49 : decode cX9_numbers 49 = .ok (.goto (-47), 3) := by decide +kernel
theorem dX9_numbers_52 : decode cX9_numbers 52 = .ok (.iconst 0, 1) := by decide +kernel
theorem dX9_numbers_53 : decode cX9_numbers 53 = .ok (.istore_n 2, 1) := by decide +kernel
theorem dX9_numbers_54 : decode cX9_numbers 54 = .ok (.iload_n 2, 1) := by decide +kernel
theorem dX9_numbers_55 : decode cX9_numbers 55 = .ok (.aload_n 0, 1) := by decide +kernel
theorem dX9_numbers_56 : decode cX9_numbers 56 = .ok (.getfield 17, 3) := by decide +kernel
theorem dX9_numbers_59 : decode cX9_numbers 59 = .ok (.if_icmp .ge 31, 3) := by decide +kernel
theorem dX9_numbers_62 : decode cX9_numbers 62 = .ok (.aload_n 0, 1) := by decide +kernel
theorem dX9_numbers_63 : decode cX9_numbers 63 = .ok (.iload_n 2, 1) := by decide +kernel
theorem dX9_numbers_64 : decode cX9_numbers 64 = .ok (.invokevirtual 171, 3) := by decide +kernel
theorem dX9_numbers_67 : decode cX9_numbers 67 = .ok (.ifCond .ne 17, 3) := by decide +kernel
theorem dX9_numbers_70 : decode cX9_numbers 70 = .ok (.aload_n 0, 1) := by decide +kernel
theorem dX9_numbers_71 : decode cX9_numbers 71 = .ok (.getfield 87, 3) := by decide +kernel
theorem dX9_numbers_74 : decode cX9_numbers 74 = .ok (.iload_n 2, 1) := by decide +kernel
theorem dX9_numbers_75 : decode cX9_numbers 75 = .ok (.iaload, 1) := by decide +kernel
theorem dX9_numbers_76 : decode cX9_numbers 76 = .ok (.ifCond .le 8, 3) := by decide +kernel
theorem dX9_numbers_79 : decode cX9_numbers 79 = .ok (.aload_n 0, 1) := by decide +kernel
theorem dX9_numbers_80 : decode cX9_numbers 80 = .ok (.iload_n 2, 1) := by decide +kernel
theorem dX9_numbers_81 : decode cX9_numbers 81 = .ok (.invokevirtual 174, 3) := by decide +kernel
theorem dX9_numbers_84 : decode cX9_numbers 84 = .ok (.iinc 2 1, 3) := by decide +kernel
theorem dX9_numbers_87 : decode cX9_numbers 87 = .ok (.goto (-33), 3) := by decide +kernel
theorem dX9_numbers_90 : decode cX9_numbers 90 = .ok (.return_, 1) := by decide +kernel
theorem dX9_isLeafOf_0 : decode cX9_isLeafOf 0 = .ok (.aload_n 0, 1) := by decide +kernel
theorem dX9_isLeafOf_1 : decode cX9_isLeafOf 1 = .ok (.iload_n 1, 1) := by decide +kernel
theorem dX9_isLeafOf_2 : decode cX9_isLeafOf 2 = .ok (.invokevirtual 171, 3) := by decide +kernel
theorem dX9_isLeafOf_5 : decode cX9_isLeafOf 5 = .ok (.ifCond .eq 16, 3) := by decide +kernel
theorem dX9_isLeafOf_8 : decode cX9_isLeafOf 8 = .ok (.aload_n 0, 1) := by decide +kernel
theorem dX9_isLeafOf_9 : decode cX9_isLeafOf 9 = .ok (.iload_n 1, 1) := by decide +kernel
theorem dX9_isLeafOf_10 : decode cX9_isLeafOf 10 = .ok (.iload_n 2, 1) := by decide +kernel
theorem dX9_isLeafOf_11 : decode cX9_isLeafOf 11 = .ok (.invokevirtual 121, 3) := by decide +kernel
theorem dX9_isLeafOf_14 : decode cX9_isLeafOf 14 = .ok (.ifCond .eq 7, 3) := by decide +kernel
theorem dX9_isLeafOf_17 : decode cX9_isLeafOf 17 = .ok (.iconst 1, 1) := by decide +kernel
theorem dX9_isLeafOf_18 : decode cX9_isLeafOf 18 = .ok (.goto 4, 3) := by decide +kernel
theorem dX9_isLeafOf_21 : decode cX9_isLeafOf 21 = .ok (.iconst 0, 1) := by decide +kernel
theorem dX9_isLeafOf_22 : decode cX9_isLeafOf 22 = .ok (.ireturn, 1) := by decide +kernel
theorem dX9_parts_0 : decode cX9_parts 0 = .ok (.iconst 0, 1) := by decide +kernel
theorem dX9_parts_1 : decode cX9_parts 1 = .ok (.istore_n 2, 1) := by decide +kernel
theorem dX9_parts_2 : decode cX9_parts 2 = .ok (.iconst 0, 1) := by decide +kernel
theorem dX9_parts_3 : decode cX9_parts 3 = .ok (.istore_n 3, 1) := by decide +kernel
theorem dX9_parts_4 : decode cX9_parts 4 = .ok (.iconst 0, 1) := by decide +kernel
theorem dX9_parts_5 : decode cX9_parts 5 = .ok (.istore 4, 2) := by decide +kernel
theorem dX9_parts_7 : decode cX9_parts 7 = .ok (.iload 4, 2) := by decide +kernel
theorem dX9_parts_9 : decode cX9_parts 9 = .ok (.aload_n 0, 1) := by decide +kernel
theorem dX9_parts_10 : decode cX9_parts 10 = .ok (.getfield 17, 3) := by decide +kernel
theorem dX9_parts_13 : decode cX9_parts 13 = .ok (.if_icmp .ge 51, 3) := by decide +kernel
theorem dX9_parts_16 : decode cX9_parts 16 = .ok (.iload_n 2, 1) := by decide +kernel
theorem dX9_parts_17 : decode cX9_parts 17 = .ok (.aload_n 0, 1) := by decide +kernel
theorem dX9_parts_18 : decode cX9_parts 18 = .ok (.iload 4, 2) := by decide +kernel
theorem dX9_parts_20 : decode cX9_parts 20 = .ok (.iload_n 1, 1) := by decide +kernel
theorem dX9_parts_21 : decode cX9_parts 21 = .ok (.invokevirtual 177, 3) := by decide +kernel
theorem dX9_parts_24 : decode cX9_parts 24 = .ok (.ifCond .eq 13, 3) := by decide +kernel
theorem dX9_parts_27 : decode cX9_parts 27 = .ok (.aload_n 0, 1) := by decide +kernel
theorem dX9_parts_28 : decode cX9_parts 28 = .ok (.getfield 87, 3) := by decide +kernel
theorem dX9_parts_31 : decode cX9_parts 31 = .ok (.iload 4, 2) := by decide +kernel
theorem dX9_parts_33 : decode cX9_parts 33 = .ok (.iaload, 1) := by decide +kernel
theorem dX9_parts_34 : decode cX9_parts 34 = .ok (.goto 4, 3) := by decide +kernel
theorem dX9_parts_37 : decode cX9_parts 37 = .ok (.iconst 0, 1) := by decide +kernel
theorem dX9_parts_38 : decode cX9_parts 38 = .ok (.iadd, 1) := by decide +kernel
theorem dX9_parts_39 : decode cX9_parts 39 = .ok (.istore_n 2, 1) := by decide +kernel
theorem dX9_parts_40 : decode cX9_parts 40 = .ok (.iload_n 3, 1) := by decide +kernel
theorem dX9_parts_41 : decode cX9_parts 41 = .ok (.aload_n 0, 1) := by decide +kernel
theorem dX9_parts_42 : decode cX9_parts 42 = .ok (.iload 4, 2) := by decide +kernel
theorem dX9_parts_44 : decode cX9_parts 44 = .ok (.iload_n 1, 1) := by decide +kernel
theorem dX9_parts_45 : decode cX9_parts 45 = .ok (.invokevirtual 177, 3) := by decide +kernel
theorem dX9_parts_48 : decode cX9_parts 48 = .ok (.ifCond .eq 7, 3) := by decide +kernel
theorem dX9_parts_51 : decode cX9_parts 51 = .ok (.iconst 1, 1) := by decide +kernel
theorem dX9_parts_52 : decode cX9_parts 52 = .ok (.goto 4, 3) := by decide +kernel
theorem dX9_parts_55 : decode cX9_parts 55 = .ok (.iconst 0, 1) := by decide +kernel
theorem dX9_parts_56 : decode cX9_parts 56 = .ok (.iadd, 1) := by decide +kernel
theorem dX9_parts_57 : decode cX9_parts 57 = .ok (.istore_n 3, 1) := by decide +kernel
theorem dX9_parts_58 : decode cX9_parts 58 = .ok (.iinc 4 1, 3) := by decide +kernel
theorem dX9_parts_61 : decode cX9_parts 61 = .ok (.goto (-54), 3) := by decide +kernel
theorem dX9_parts_64 : decode cX9_parts 64 = .ok (.aload_n 0, 1) := by decide +kernel
theorem dX9_parts_65 : decode cX9_parts 65 = .ok (.getfield 87, 3) := by decide +kernel
theorem dX9_parts_68 : decode cX9_parts 68 = .ok (.iload_n 1, 1) := by decide +kernel
theorem dX9_parts_69 : decode cX9_parts 69 = .ok (.iaload, 1) := by decide +kernel
theorem dX9_parts_70 : decode cX9_parts 70 = .ok (.istore 4, 2) := by decide +kernel
theorem dX9_parts_72 : decode cX9_parts 72 = .ok (.iload_n 2, 1) := by decide +kernel
theorem dX9_parts_73 : decode cX9_parts 73 = .ok (.ifCond .ne 7, 3) := by decide +kernel
theorem dX9_parts_76 : decode cX9_parts 76 = .ok (.iload_n 3, 1) := by decide +kernel
theorem dX9_parts_77 : decode cX9_parts 77 = .ok (.goto 4, 3) := by decide +kernel
theorem dX9_parts_80 : decode cX9_parts 80 = .ok (.iload_n 2, 1) := by decide +kernel
theorem dX9_parts_81 : decode cX9_parts 81 = .ok (.istore 5, 2) := by decide +kernel
theorem dX9_parts_83 : decode cX9_parts 83 = .ok (.iconst 0, 1) := by decide +kernel
theorem dX9_parts_84 : decode cX9_parts 84 = .ok (.istore 6, 2) := by decide +kernel
theorem dX9_parts_86 : decode cX9_parts 86 = .ok (.iload 6, 2) := by decide +kernel
theorem dX9_parts_88 : decode cX9_parts 88 = .ok (.aload_n 0, 1) := by decide +kernel
theorem dX9_parts_89 : decode cX9_parts 89 = .ok (.getfield 17, 3) := by decide +kernel
theorem dX9_parts_92 : decode cX9_parts 92 = .ok (.if_icmp .ge 88, 3) := by decide +kernel
theorem dX9_parts_95 : decode cX9_parts 95 = .ok (.aload_n 0, 1) := by decide +kernel
theorem dX9_parts_96 : decode cX9_parts 96 = .ok (.getfield 90, 3) := by decide +kernel
theorem dX9_parts_99 : decode cX9_parts 99 = .ok (.iload 6, 2) := by decide +kernel
theorem dX9_parts_101 : decode cX9_parts 101 = .ok (.iconst (-1), 1) := by decide +kernel
theorem dX9_parts_102 : decode cX9_parts 102 = .ok (.iastore, 1) := by decide +kernel
theorem dX9_parts_103 : decode cX9_parts 103 = .ok (.aload_n 0, 1) := by decide +kernel
theorem dX9_parts_104 : decode cX9_parts 104 = .ok (.iload 6, 2) := by decide +kernel
theorem dX9_parts_106 : decode cX9_parts 106 = .ok (.iload_n 1, 1) := by decide +kernel
theorem dX9_parts_107 : decode cX9_parts 107 = .ok (.invokevirtual 177, 3) := by decide +kernel
theorem dX9_parts_110 : decode cX9_parts 110 = .ok (.ifCond .eq 64, 3) := by decide +kernel
theorem dX9_parts_113 : decode cX9_parts 113 = .ok (.aload_n 0, 1) := by decide +kernel
theorem dX9_parts_114 : decode cX9_parts 114 = .ok (.getfield 87, 3) := by decide +kernel
theorem dX9_parts_117 : decode cX9_parts 117 = .ok (.iload_n 1, 1) := by decide +kernel
theorem dX9_parts_118 : decode cX9_parts 118 = .ok (.iaload, 1) := by decide +kernel
theorem dX9_parts_119 : decode cX9_parts 119 = .ok (.iload_n 2, 1) := by decide +kernel
theorem dX9_parts_120 : decode cX9_parts 120 = .ok (.ifCond .ne 7, 3) := by decide +kernel
theorem dX9_parts_123 : decode cX9_parts 123 = .ok (.iconst 1, 1) := by decide +kernel
theorem dX9_parts_124 : decode cX9_parts 124 = .ok (.goto 10, 3) := by decide +kernel
theorem dX9_parts_127 : decode cX9_parts 127 = .ok (.aload_n 0, 1) := by decide +kernel
theorem dX9_parts_128 : decode cX9_parts 128 = .ok (.getfield 87, 3) := by decide +kernel
theorem dX9_parts_131 : decode cX9_parts 131 = .ok (.iload 6, 2) := by decide +kernel
theorem dX9_parts_133 : decode cX9_parts 133 = .ok (.iaload, 1) := by decide +kernel
theorem dX9_parts_134 : decode cX9_parts 134 = .ok (.imul, 1) := by decide +kernel
theorem dX9_parts_135 : decode cX9_parts 135 = .ok (.istore 7, 2) := by decide +kernel
theorem dX9_parts_137 : decode cX9_parts 137 = .ok (.aload_n 0, 1) := by decide +kernel
theorem dX9_parts_138 : decode cX9_parts 138 = .ok (.getfield 84, 3) := by decide +kernel
theorem dX9_parts_141 : decode cX9_parts 141 = .ok (.iload 6, 2) := by decide +kernel
theorem dX9_parts_143 : decode cX9_parts 143 = .ok (.dup2, 1) := by decide +kernel
theorem dX9_parts_144 : decode cX9_parts 144 = .ok (.iaload, 1) := by decide +kernel
theorem dX9_parts_145 : decode cX9_parts 145 = .ok (.iload 7, 2) := by decide +kernel
theorem dX9_parts_147 : decode cX9_parts 147 = .ok (.iload 5, 2) := by decide +kernel
theorem dX9_parts_149 : decode cX9_parts 149 = .ok (.idiv, 1) := by decide +kernel
theorem dX9_parts_150 : decode cX9_parts 150 = .ok (.iadd, 1) := by decide +kernel
theorem dX9_parts_151 : decode cX9_parts 151 = .ok (.iastore, 1) := by decide +kernel
theorem dX9_parts_152 : decode cX9_parts 152 = .ok (.aload_n 0, 1) := by decide +kernel
theorem dX9_parts_153 : decode cX9_parts 153 = .ok (.getfield 90, 3) := by decide +kernel
theorem dX9_parts_156 : decode cX9_parts 156 = .ok (.iload 6, 2) := by decide +kernel
theorem dX9_parts_158 : decode cX9_parts 158 = .ok (.iload 7, 2) := by decide +kernel
theorem dX9_parts_160 : decode cX9_parts 160 = .ok (.iload 5, 2) := by decide +kernel
theorem dX9_parts_162 : decode cX9_parts 162 = .ok (.irem, 1) := by decide +kernel
theorem dX9_parts_163 : decode cX9_parts 163 = .ok (.iastore, 1) := by decide +kernel
theorem dX9_parts_164 : decode cX9_parts 164 = .ok (.iload 4, 2) := by decide +kernel
theorem dX9_parts_166 : decode cX9_parts 166 = .ok (.iload 7, 2) := by decide +kernel
theorem dX9_parts_168 : decode cX9_parts 168 = .ok (.iload 5, 2) := by decide +kernel
theorem dX9_parts_170 : decode cX9_parts 170 = .ok (.idiv, 1) := by decide +kernel
theorem dX9_parts_171 : decode cX9_parts 171 = .ok (.isub, 1) := by decide +kernel
theorem dX9_parts_172 : decode cX9_parts 172 = .ok (.istore 4, 2) := by decide +kernel
theorem dX9_parts_174 : decode cX9_parts 174 = .ok (.iinc 6 1, 3) := by decide +kernel
theorem dX9_parts_177 : decode cX9_parts 177 = .ok (.goto (-91), 3) := by decide +kernel
theorem dX9_parts_180 : decode cX9_parts 180 = .ok (.iload 4, 2) := by decide +kernel
theorem dX9_parts_182 : decode cX9_parts 182 = .ok (.ifCond .le 90, 3) := by decide +kernel
theorem dX9_parts_185 : decode cX9_parts 185 = .ok (.iconst (-1), 1) := by decide +kernel
theorem dX9_parts_186 : decode cX9_parts 186 = .ok (.istore 6, 2) := by decide +kernel
theorem dX9_parts_188 : decode cX9_parts 188 = .ok (.iconst 0, 1) := by decide +kernel
theorem dX9_parts_189 : decode cX9_parts 189 = .ok (.istore 7, 2) := by decide +kernel
theorem dX9_parts_191 : decode cX9_parts 191 = .ok (.iload 7, 2) := by decide +kernel
theorem dX9_parts_193 : decode cX9_parts 193 = .ok (.aload_n 0, 1) := by decide +kernel
theorem dX9_parts_194 : decode cX9_parts 194 = .ok (.getfield 17, 3) := by decide +kernel
theorem dX9_parts_197 : decode cX9_parts 197 = .ok (.if_icmp .ge 50, 3) := by decide +kernel
theorem dX9_parts_200 : decode cX9_parts 200 = .ok (.aload_n 0, 1) := by decide +kernel
theorem dX9_parts_201 : decode cX9_parts 201 = .ok (.getfield 90, 3) := by decide +kernel
theorem dX9_parts_204 : decode cX9_parts 204 = .ok (.iload 7, 2) := by decide +kernel
theorem dX9_parts_206 : decode cX9_parts 206 = .ok (.iaload, 1) := by decide +kernel
theorem dX9_parts_207 : decode cX9_parts 207 = .ok (.ifCond .lt 30, 3) := by decide +kernel
theorem dX9_parts_210 : decode cX9_parts 210 = .ok (.iload 6, 2) := by decide +kernel
theorem dX9_parts_212 : decode cX9_parts 212 = .ok (.ifCond .lt 20, 3) := by decide +kernel
theorem dX9_parts_215 : decode cX9_parts 215 = .ok (.aload_n 0, 1) := by decide +kernel
theorem dX9_parts_216 : decode cX9_parts 216 = .ok (.getfield 90, 3) := by decide +kernel
theorem dX9_parts_219 : decode cX9_parts 219 = .ok (.iload 7, 2) := by decide +kernel
theorem dX9_parts_221 : decode cX9_parts 221 = .ok (.iaload, 1) := by decide +kernel
theorem dX9_parts_222 : decode cX9_parts 222 = .ok (.aload_n 0, 1) := by decide +kernel
theorem dX9_parts_223 : decode cX9_parts 223 = .ok (.getfield 90, 3) := by decide +kernel
theorem dX9_parts_226 : decode cX9_parts 226 = .ok (.iload 6, 2) := by decide +kernel
theorem dX9_parts_228 : decode cX9_parts 228 = .ok (.iaload, 1) := by decide +kernel
theorem dX9_parts_229 : decode cX9_parts 229 = .ok (.if_icmp .le 8, 3) := by decide +kernel
theorem dX9_parts_232 : decode cX9_parts 232 = .ok (.iload 7, 2) := by decide +kernel
theorem dX9_parts_234 : decode cX9_parts 234 = .ok (.goto 5, 3) := by decide +kernel
theorem dX9_parts_237 : decode cX9_parts 237 = .ok (.iload 6, 2) := by decide +kernel
theorem dX9_parts_239 : decode cX9_parts 239 = .ok (.istore 6, 2) := by decide +kernel
theorem dX9_parts_241 : decode cX9_parts 241 = .ok (.iinc 7 1, 3) := by decide +kernel
theorem dX9_parts_244 : decode cX9_parts 244 = .ok (.goto (-53), 3) := by decide +kernel
theorem dX9_parts_247 : decode cX9_parts 247 = .ok (.aload_n 0, 1) := by decide +kernel
theorem dX9_parts_248 : decode cX9_parts 248 = .ok (.getfield 84, 3) := by decide +kernel
theorem dX9_parts_251 : decode cX9_parts 251 = .ok (.iload 6, 2) := by decide +kernel
theorem dX9_parts_253 : decode cX9_parts 253 = .ok (.dup2, 1) := by decide +kernel
theorem dX9_parts_254 : decode cX9_parts 254 = .ok (.iaload, 1) := by decide +kernel
theorem dX9_parts_255 : decode cX9_parts 255 = .ok (.iconst 1, 1) := by decide +kernel
theorem dX9_parts_256 : decode cX9_parts 256 = .ok (.iadd, 1) := by decide +kernel
theorem dX9_parts_257 : decode cX9_parts 257 = .ok (.iastore, 1) := by decide +kernel
theorem dX9_parts_258 : decode cX9_parts 258 = .ok (.aload_n 0, 1) := by decide +kernel
theorem dX9_parts_259 : decode cX9_parts 259 = .ok (.getfield 90, 3) := by decide +kernel
theorem dX9_parts_262 : decode cX9_parts 262 = .ok (.iload 6, 2) := by decide +kernel
theorem dX9_parts_264 : decode cX9_parts 264 = .ok (.iconst (-1), 1) := by decide +kernel
theorem dX9_parts_265 : decode cX9_parts 265 = .ok (.iastore, 1) := by decide +kernel
theorem dX9_parts_266 : decode cX9_parts 266 = .ok (.iinc 4 (-1), 3) := by decide +kernel
theorem dX9_parts_269 : decode cX9_parts 269 = .ok (.goto (-89), 3) := by decide +kernel
theorem dX9_parts_272 : decode cX9_parts 272 = .ok (.return_, 1) := by decide +kernel
theorem dX9_birds_0 : decode cX9_birds 0 = .ok (.aload_n 0, 1) := by decide +kernel
theorem dX9_birds_1 : decode cX9_birds 1 = .ok (.iload_n 1, 1) := by decide +kernel
theorem dX9_birds_2 : decode cX9_birds 2 = .ok (.ifCond .lt 30, 3) := by decide +kernel
theorem dX9_birds_5 : decode cX9_birds 5 = .ok (.iload_n 1, 1) := by decide +kernel
theorem dX9_birds_6 : decode cX9_birds 6 = .ok (.bipush 6, 2) := by decide +kernel
theorem dX9_birds_8 : decode cX9_birds 8 = .ok (.if_icmp .ge 24, 3) := by decide +kernel
theorem dX9_birds_11 : decode cX9_birds 11 = .ok (.aload_n 0, 1) := by decide +kernel
theorem dX9_birds_12 : decode cX9_birds 12 = .ok (.iload_n 2, 1) := by decide +kernel
theorem dX9_birds_13 : decode cX9_birds 13 = .ok (.invokevirtual 106, 3) := by decide +kernel
theorem dX9_birds_16 : decode cX9_birds 16 = .ok (.ifCond .eq 16, 3) := by decide +kernel
theorem dX9_birds_19 : decode cX9_birds 19 = .ok (.iload_n 3, 1) := by decide +kernel
theorem dX9_birds_20 : decode cX9_birds 20 = .ok (.ifCond .lt 12, 3) := by decide +kernel
theorem dX9_birds_23 : decode cX9_birds 23 = .ok (.iload_n 3, 1) := by decide +kernel
theorem dX9_birds_24 : decode cX9_birds 24 = .ok (.iconst 2, 1) := by decide +kernel
theorem dX9_birds_25 : decode cX9_birds 25 = .ok (.if_icmp .gt 7, 3) := by decide +kernel
theorem dX9_birds_28 : decode cX9_birds 28 = .ok (.iconst 0, 1) := by decide +kernel
theorem dX9_birds_29 : decode cX9_birds 29 = .ok (.goto 4, 3) := by decide +kernel
theorem dX9_birds_32 : decode cX9_birds 32 = .ok (.iconst 1, 1) := by decide +kernel
theorem dX9_birds_33 : decode cX9_birds 33 = .ok (.putfield 1, 3) := by decide +kernel
theorem dX9_birds_36 : decode cX9_birds 36 = .ok (.aload_n 0, 1) := by decide +kernel
theorem dX9_birds_37 : decode cX9_birds 37 = .ok (.getfield 1, 3) := by decide +kernel
theorem dX9_birds_40 : decode cX9_birds 40 = .ok (.ifCond .le 5, 3) := by decide +kernel
theorem dX9_birds_43 : decode cX9_birds 43 = .ok (.iconst 0, 1) := by decide +kernel
theorem dX9_birds_44 : decode cX9_birds 44 = .ok (.ireturn, 1) := by decide +kernel
theorem dX9_birds_45 : decode cX9_birds 45 = .ok (.aload_n 0, 1) := by decide +kernel
theorem dX9_birds_46 : decode cX9_birds 46 = .ok (.iload_n 1, 1) := by decide +kernel
theorem dX9_birds_47 : decode cX9_birds 47 = .ok (.invokevirtual 154, 3) := by decide +kernel
theorem dX9_birds_50 : decode cX9_birds 50 = .ok (.iload_n 3, 1) := by decide +kernel
theorem dX9_birds_51 : decode cX9_birds 51 = .ok (.ifCond .ne 10, 3) := by decide +kernel
theorem dX9_birds_54 : decode cX9_birds 54 = .ok (.aload_n 0, 1) := by decide +kernel
theorem dX9_birds_55 : decode cX9_birds 55 = .ok (.iload_n 1, 1) := by decide +kernel
theorem dX9_birds_56 : decode cX9_birds 56 = .ok (.iload_n 2, 1) := by decide +kernel
theorem dX9_birds_57 : decode cX9_birds 57 = .ok (.invokevirtual 167, 3) := by decide +kernel
theorem dX9_birds_60 : decode cX9_birds 60 = .ok (.ireturn, 1) := by decide +kernel
theorem dX9_birds_61 : decode cX9_birds 61 = .ok (.aload_n 0, 1) := by decide +kernel
theorem dX9_birds_62 : decode cX9_birds 62 = .ok (.iload_n 1, 1) := by decide +kernel
theorem dX9_birds_63 : decode cX9_birds 63 = .ok (.invokevirtual 180, 3) := by decide +kernel
theorem dX9_birds_66 : decode cX9_birds 66 = .ok (.iconst 0, 1) := by decide +kernel
theorem dX9_birds_67 : decode cX9_birds 67 = .ok (.istore 4, 2) := by decide +kernel
theorem dX9_birds_69 : decode cX9_birds 69 = .ok (.iconst 0, 1) := by decide +kernel
theorem dX9_birds_70 : decode cX9_birds 70 = .ok (.istore 5, 2) := by decide +kernel
theorem dX9_birds_72 : decode cX9_birds 72 = .ok (.iload 5, 2) := by decide +kernel
theorem dX9_birds_74 : decode cX9_birds 74 = .ok (.aload_n 0, 1) := by decide +kernel
theorem dX9_birds_75 : decode cX9_birds 75 = .ok (.getfield 17, 3) := by decide +kernel
theorem dX9_birds_78 : decode cX9_birds 78 = .ok (.if_icmp .ge 50, 3) := by decide +kernel
theorem dX9_birds_81 : decode cX9_birds 81 = .ok (.iload 4, 2) := by decide +kernel
theorem dX9_birds_83 : decode cX9_birds 83 = .ok (.aload_n 0, 1) := by decide +kernel
theorem dX9_birds_84 : decode cX9_birds 84 = .ok (.iload 5, 2) := by decide +kernel
theorem dX9_birds_86 : decode cX9_birds 86 = .ok (.iload_n 2, 1) := by decide +kernel
theorem dX9_birds_87 : decode cX9_birds 87 = .ok (.invokevirtual 121, 3) := by decide +kernel
theorem dX9_birds_90 : decode cX9_birds 90 = .ok (.ifCond .eq 28, 3) := by decide +kernel
theorem dX9_birds_93 : decode cX9_birds 93 = .ok (.iload_n 3, 1) := by decide +kernel
theorem dX9_birds_94 : decode cX9_birds 94 = .ok (.iconst 1, 1) := by decide +kernel
theorem dX9_birds_95 : decode cX9_birds 95 = .ok (.if_icmp .ne 13, 3) := by decide +kernel
theorem dX9_birds_98 : decode cX9_birds 98 = .ok (.aload_n 0, 1) := by decide +kernel
theorem dX9_birds_99 : decode cX9_birds 99 = .ok (.getfield 87, 3) := by decide +kernel
theorem dX9_birds_102 : decode cX9_birds 102 = .ok (.iload 5, 2) := by decide +kernel
theorem dX9_birds_104 : decode cX9_birds 104 = .ok (.iaload, 1) := by decide +kernel
theorem dX9_birds_105 : decode cX9_birds 105 = .ok (.goto 14, 3) := by decide +kernel
theorem dX9_birds_108 : decode cX9_birds 108 = .ok (.aload_n 0, 1) := by decide +kernel
theorem dX9_birds_109 : decode cX9_birds 109 = .ok (.getfield 84, 3) := by decide +kernel
theorem dX9_birds_112 : decode cX9_birds 112 = .ok (.iload 5, 2) := by decide +kernel
theorem dX9_birds_114 : decode cX9_birds 114 = .ok (.iaload, 1) := by decide +kernel
theorem dX9_birds_115 : decode cX9_birds 115 = .ok (.goto 4, 3) := by decide +kernel
theorem dX9_birds_118 : decode cX9_birds 118 = .ok (.iconst 0, 1) := by decide +kernel
theorem dX9_birds_119 : decode cX9_birds 119 = .ok (.iadd, 1) := by decide +kernel
theorem dX9_birds_120 : decode cX9_birds 120 = .ok (.istore 4, 2) := by decide +kernel
theorem dX9_birds_122 : decode cX9_birds 122 = .ok (.iinc 5 1, 3) := by decide +kernel
theorem dX9_birds_125 : decode cX9_birds 125 = .ok (.goto (-53), 3) := by decide +kernel
theorem dX9_birds_128 : decode cX9_birds 128 = .ok (.iload 4, 2) := by decide +kernel
theorem dX9_birds_130 : decode cX9_birds 130 = .ok (.ireturn, 1) := by decide +kernel
theorem dX9_birdsOf_0 : decode cX9_birdsOf 0 = .ok (.iconst 0, 1) := by decide +kernel
theorem dX9_birdsOf_1 : decode cX9_birdsOf 1 = .ok (.istore_n 3, 1) := by decide +kernel
theorem dX9_birdsOf_2 : decode cX9_birdsOf 2 = .ok (.iconst 0, 1) := by decide +kernel
theorem dX9_birdsOf_3 : decode cX9_birdsOf 3 = .ok (.istore 4, 2) := by decide +kernel
theorem dX9_birdsOf_5 : decode cX9_birdsOf 5 = .ok (.iload 4, 2) := by decide +kernel
theorem dX9_birdsOf_7 : decode cX9_birdsOf 7 = .ok (.aload_n 0, 1) := by decide +kernel
theorem dX9_birdsOf_8 : decode cX9_birdsOf 8 = .ok (.getfield 103, 3) := by decide +kernel
theorem dX9_birdsOf_11 : decode cX9_birdsOf 11 = .ok (.if_icmp .ge 52, 3) := by decide +kernel
theorem dX9_birdsOf_14 : decode cX9_birdsOf 14 = .ok (.iload_n 3, 1) := by decide +kernel
theorem dX9_birdsOf_15 : decode cX9_birdsOf 15 = .ok (.aload_n 0, 1) := by decide +kernel
theorem dX9_birdsOf_16 : decode cX9_birdsOf 16 = .ok (.iload 4, 2) := by decide +kernel
theorem dX9_birdsOf_18 : decode cX9_birdsOf 18 = .ok (.iload_n 1, 1) := by decide +kernel
theorem dX9_birdsOf_19 : decode cX9_birdsOf 19 = .ok (.invokevirtual 161, 3) := by decide +kernel
theorem dX9_birdsOf_22 : decode cX9_birdsOf 22 = .ok (.ifCond .eq 32, 3) := by decide +kernel
theorem dX9_birdsOf_25 : decode cX9_birdsOf 25 = .ok (.iload_n 2, 1) := by decide +kernel
theorem dX9_birdsOf_26 : decode cX9_birdsOf 26 = .ok (.ifCond .lt 24, 3) := by decide +kernel
theorem dX9_birdsOf_29 : decode cX9_birdsOf 29 = .ok (.aload_n 0, 1) := by decide +kernel
theorem dX9_birdsOf_30 : decode cX9_birdsOf 30 = .ok (.getfield 54, 3) := by decide +kernel
theorem dX9_birdsOf_33 : decode cX9_birdsOf 33 = .ok (.bipush 30, 2) := by decide +kernel
theorem dX9_birdsOf_35 : decode cX9_birdsOf 35 = .ok (.iload_n 1, 1) := by decide +kernel
theorem dX9_birdsOf_36 : decode cX9_birdsOf 36 = .ok (.imul, 1) := by decide +kernel
theorem dX9_birdsOf_37 : decode cX9_birdsOf 37 = .ok (.aload_n 0, 1) := by decide +kernel
theorem dX9_birdsOf_38 : decode cX9_birdsOf 38 = .ok (.getfield 35, 3) := by decide +kernel
theorem dX9_birdsOf_41 : decode cX9_birdsOf 41 = .ok (.iload 4, 2) := by decide +kernel
theorem dX9_birdsOf_43 : decode cX9_birdsOf 43 = .ok (.iaload, 1) := by decide +kernel
theorem dX9_birdsOf_44 : decode cX9_birdsOf 44 = .ok (.iadd, 1) := by decide +kernel
theorem dX9_birdsOf_45 : decode cX9_birdsOf 45 = .ok (.iaload, 1) := by decide +kernel
theorem dX9_birdsOf_46 : decode cX9_birdsOf 46 = .ok (.iload_n 2, 1) := by decide +kernel
theorem dX9_birdsOf_47 : decode cX9_birdsOf 47 = .ok (.if_icmp .ne 7, 3) := by decide +kernel
theorem dX9_birdsOf_50 : decode cX9_birdsOf 50 = .ok (.iconst 1, 1) := by decide +kernel
theorem dX9_birdsOf_51 : decode cX9_birdsOf 51 = .ok (.goto 4, 3) := by decide +kernel
theorem dX9_birdsOf_54 : decode cX9_birdsOf 54 = .ok (.iconst 0, 1) := by decide +kernel
theorem dX9_birdsOf_55 : decode cX9_birdsOf 55 = .ok (.iadd, 1) := by decide +kernel
theorem dX9_birdsOf_56 : decode cX9_birdsOf 56 = .ok (.istore_n 3, 1) := by decide +kernel
theorem dX9_birdsOf_57 : decode cX9_birdsOf 57 = .ok (.iinc 4 1, 3) := by decide +kernel
theorem dX9_birdsOf_60 : decode cX9_birdsOf 60 = .ok (.goto (-55), 3) := by decide +kernel
theorem dX9_birdsOf_63 : decode cX9_birdsOf 63 = .ok (.iload_n 3, 1) := by decide +kernel
theorem dX9_birdsOf_64 : decode cX9_birdsOf 64 = .ok (.ireturn, 1) := by decide +kernel
theorem dX9_hoursOf_0 : decode cX9_hoursOf 0 = .ok (.iconst 0, 1) := by decide +kernel
theorem dX9_hoursOf_1 : decode cX9_hoursOf 1 = .ok (.istore 4, 2) := by decide +kernel
theorem dX9_hoursOf_3 : decode cX9_hoursOf 3 = .ok (.iconst 0, 1) := by decide +kernel
theorem dX9_hoursOf_4 : decode cX9_hoursOf 4 = .ok (.istore 5, 2) := by decide +kernel
theorem dX9_hoursOf_6 : decode cX9_hoursOf 6 = .ok (.iload 5, 2) := by decide +kernel
theorem dX9_hoursOf_8 : decode cX9_hoursOf 8 = .ok (.sipush 300, 3) := by decide +kernel
theorem dX9_hoursOf_11 : decode cX9_hoursOf 11 = .ok (.if_icmp .ge 59, 3) := by decide +kernel
theorem dX9_hoursOf_14 : decode cX9_hoursOf 14 = .ok (.iload 4, 2) := by decide +kernel
theorem dX9_hoursOf_16 : decode cX9_hoursOf 16 = .ok (.aload_n 0, 1) := by decide +kernel
theorem dX9_hoursOf_17 : decode cX9_hoursOf 17 = .ok (.getfield 50, 3) := by decide +kernel
theorem dX9_hoursOf_20 : decode cX9_hoursOf 20 = .ok (.sipush 300, 3) := by decide +kernel
theorem dX9_hoursOf_23 : decode cX9_hoursOf 23 = .ok (.iload_n 1, 1) := by decide +kernel
theorem dX9_hoursOf_24 : decode cX9_hoursOf 24 = .ok (.imul, 1) := by decide +kernel
theorem dX9_hoursOf_25 : decode cX9_hoursOf 25 = .ok (.iload 5, 2) := by decide +kernel
theorem dX9_hoursOf_27 : decode cX9_hoursOf 27 = .ok (.iadd, 1) := by decide +kernel
theorem dX9_hoursOf_28 : decode cX9_hoursOf 28 = .ok (.baload, 1) := by decide +kernel
theorem dX9_hoursOf_29 : decode cX9_hoursOf 29 = .ok (.iload_n 3, 1) := by decide +kernel
theorem dX9_hoursOf_30 : decode cX9_hoursOf 30 = .ok (.if_icmp .ne 30, 3) := by decide +kernel
theorem dX9_hoursOf_33 : decode cX9_hoursOf 33 = .ok (.iload_n 2, 1) := by decide +kernel
theorem dX9_hoursOf_34 : decode cX9_hoursOf 34 = .ok (.ifCond .lt 22, 3) := by decide +kernel
theorem dX9_hoursOf_37 : decode cX9_hoursOf 37 = .ok (.aload_n 0, 1) := by decide +kernel
theorem dX9_hoursOf_38 : decode cX9_hoursOf 38 = .ok (.getfield 54, 3) := by decide +kernel
theorem dX9_hoursOf_41 : decode cX9_hoursOf 41 = .ok (.bipush 30, 2) := by decide +kernel
theorem dX9_hoursOf_43 : decode cX9_hoursOf 43 = .ok (.iload_n 1, 1) := by decide +kernel
theorem dX9_hoursOf_44 : decode cX9_hoursOf 44 = .ok (.imul, 1) := by decide +kernel
theorem dX9_hoursOf_45 : decode cX9_hoursOf 45 = .ok (.iload 5, 2) := by decide +kernel
theorem dX9_hoursOf_47 : decode cX9_hoursOf 47 = .ok (.bipush 10, 2) := by decide +kernel
theorem dX9_hoursOf_49 : decode cX9_hoursOf 49 = .ok (.idiv, 1) := by decide +kernel
theorem dX9_hoursOf_50 : decode cX9_hoursOf 50 = .ok (.iadd, 1) := by decide +kernel
theorem dX9_hoursOf_51 : decode cX9_hoursOf 51 = .ok (.iaload, 1) := by decide +kernel
theorem dX9_hoursOf_52 : decode cX9_hoursOf 52 = .ok (.iload_n 2, 1) := by decide +kernel
theorem dX9_hoursOf_53 : decode cX9_hoursOf 53 = .ok (.if_icmp .ne 7, 3) := by decide +kernel
theorem dX9_hoursOf_56 : decode cX9_hoursOf 56 = .ok (.iconst 1, 1) := by decide +kernel
theorem dX9_hoursOf_57 : decode cX9_hoursOf 57 = .ok (.goto 4, 3) := by decide +kernel
theorem dX9_hoursOf_60 : decode cX9_hoursOf 60 = .ok (.iconst 0, 1) := by decide +kernel
theorem dX9_hoursOf_61 : decode cX9_hoursOf 61 = .ok (.iadd, 1) := by decide +kernel
theorem dX9_hoursOf_62 : decode cX9_hoursOf 62 = .ok (.istore 4, 2) := by decide +kernel
theorem dX9_hoursOf_64 : decode cX9_hoursOf 64 = .ok (.iinc 5 1, 3) := by decide +kernel
theorem dX9_hoursOf_67 : decode cX9_hoursOf 67 = .ok (.goto (-61), 3) := by decide +kernel
theorem dX9_hoursOf_70 : decode cX9_hoursOf 70 = .ok (.iload 4, 2) := by decide +kernel
theorem dX9_hoursOf_72 : decode cX9_hoursOf 72 = .ok (.ireturn, 1) := by decide +kernel
theorem dX9_missed_0 : decode cX9_missed 0 = .ok (.aload_n 0, 1) := by decide +kernel
theorem dX9_missed_1 : decode cX9_missed 1 = .ok (.iload_n 1, 1) := by decide +kernel
theorem dX9_missed_2 : decode cX9_missed 2 = .ok (.iconst (-1), 1) := by decide +kernel
theorem dX9_missed_3 : decode cX9_missed 3 = .ok (.invokevirtual 183, 3) := by decide +kernel
theorem dX9_missed_6 : decode cX9_missed 6 = .ok (.i2l, 1) := by decide +kernel
theorem dX9_missed_7 : decode cX9_missed 7 = .ok (.lstore_n 2, 1) := by decide +kernel
theorem dX9_missed_8 : decode cX9_missed 8 = .ok (.aload_n 0, 1) := by decide +kernel
theorem dX9_missed_9 : decode cX9_missed 9 = .ok (.iload_n 1, 1) := by decide +kernel
theorem dX9_missed_10 : decode cX9_missed 10 = .ok (.iconst (-1), 1) := by decide +kernel
theorem dX9_missed_11 : decode cX9_missed 11 = .ok (.iconst 0, 1) := by decide +kernel
theorem dX9_missed_12 : decode cX9_missed 12 = .ok (.invokevirtual 186, 3) := by decide +kernel
theorem dX9_missed_15 : decode cX9_missed 15 = .ok (.i2l, 1) := by decide +kernel
theorem dX9_missed_16 : decode cX9_missed 16 = .ok (.lstore 4, 2) := by decide +kernel
theorem dX9_missed_18 : decode cX9_missed 18 = .ok (.iconst 0, 1) := by decide +kernel
theorem dX9_missed_19 : decode cX9_missed 19 = .ok (.istore 6, 2) := by decide +kernel
theorem dX9_missed_21 : decode cX9_missed 21 = .ok (.iload 6, 2) := by decide +kernel
theorem dX9_missed_23 : decode cX9_missed 23 = .ok (.iconst 4, 1) := by decide +kernel
theorem dX9_missed_24 : decode cX9_missed 24 = .ok (.if_icmp .ge 99, 3) := by decide +kernel
theorem dX9_missed_27 : decode cX9_missed 27 = .ok (.aload_n 0, 1) := by decide +kernel
theorem dX9_missed_28 : decode cX9_missed 28 = .ok (.iload_n 1, 1) := by decide +kernel
theorem dX9_missed_29 : decode cX9_missed 29 = .ok (.iload 6, 2) := by decide +kernel
theorem dX9_missed_31 : decode cX9_missed 31 = .ok (.iconst 0, 1) := by decide +kernel
theorem dX9_missed_32 : decode cX9_missed 32 = .ok (.invokevirtual 186, 3) := by decide +kernel
theorem dX9_missed_35 : decode cX9_missed 35 = .ok (.i2l, 1) := by decide +kernel
theorem dX9_missed_36 : decode cX9_missed 36 = .ok (.lstore 7, 2) := by decide +kernel
theorem dX9_missed_38 : decode cX9_missed 38 = .ok (.aload_n 0, 1) := by decide +kernel
theorem dX9_missed_39 : decode cX9_missed 39 = .ok (.getfield 93, 3) := by decide +kernel
theorem dX9_missed_42 : decode cX9_missed 42 = .ok (.iload 6, 2) := by decide +kernel
theorem dX9_missed_44 : decode cX9_missed 44 = .ok (.aload_n 0, 1) := by decide +kernel
theorem dX9_missed_45 : decode cX9_missed 45 = .ok (.iload_n 1, 1) := by decide +kernel
theorem dX9_missed_46 : decode cX9_missed 46 = .ok (.iload 6, 2) := by decide +kernel
theorem dX9_missed_48 : decode cX9_missed 48 = .ok (.iconst 1, 1) := by decide +kernel
theorem dX9_missed_49 : decode cX9_missed 49 = .ok (.invokevirtual 186, 3) := by decide +kernel
theorem dX9_missed_52 : decode cX9_missed 52 = .ok (.i2l, 1) := by decide +kernel
theorem dX9_missed_53 : decode cX9_missed 53 = .ok (.lload 7, 2) := by decide +kernel
theorem dX9_missed_55 : decode cX9_missed 55 = .ok (.lconst 0, 1) := by decide +kernel
theorem dX9_missed_56 : decode cX9_missed 56 = .ok (.lcmp, 1) := by decide +kernel
theorem dX9_missed_57 : decode cX9_missed 57 = .ok (.ifCond .le 14, 3) := by decide +kernel
theorem dX9_missed_60 : decode cX9_missed 60 = .ok (.aload_n 0, 1) := by decide +kernel
theorem dX9_missed_61 : decode cX9_missed 61 = .ok (.iload_n 1, 1) := by decide +kernel
theorem dX9_missed_62 : decode cX9_missed 62 = .ok (.iload 6, 2) := by decide +kernel
theorem dX9_missed_64 : decode cX9_missed 64 = .ok (.invokevirtual 183, 3) := by decide +kernel
theorem dX9_missed_67 : decode cX9_missed 67 = .ok (.i2l, 1) := by decide +kernel
theorem dX9_missed_68 : decode cX9_missed 68 = .ok (.goto 15, 3) := by decide +kernel
theorem dX9_missed_71 : decode cX9_missed 71 = .ok (.lload 4, 2) := by decide +kernel
theorem dX9_missed_73 : decode cX9_missed 73 = .ok (.lconst 0, 1) := by decide +kernel
theorem dX9_missed_74 : decode cX9_missed 74 = .ok (.lcmp, 1) := by decide +kernel
theorem dX9_missed_75 : decode cX9_missed 75 = .ok (.ifCond .le 7, 3) := by decide +kernel
theorem dX9_missed_78 : decode cX9_missed 78 = .ok (.lload_n 2, 1) := by decide +kernel
theorem dX9_missed_79 : decode cX9_missed 79 = .ok (.goto 4, 3) := by decide +kernel
theorem dX9_missed_82 : decode cX9_missed 82 = .ok (.lconst 0, 1) := by decide +kernel
theorem dX9_missed_83 : decode cX9_missed 83 = .ok (.lmul, 1) := by decide +kernel
theorem dX9_missed_84 : decode cX9_missed 84 = .ok (.lastore, 1) := by decide +kernel
theorem dX9_missed_85 : decode cX9_missed 85 = .ok (.aload_n 0, 1) := by decide +kernel
theorem dX9_missed_86 : decode cX9_missed 86 = .ok (.getfield 97, 3) := by decide +kernel
theorem dX9_missed_89 : decode cX9_missed 89 = .ok (.iload 6, 2) := by decide +kernel
theorem dX9_missed_91 : decode cX9_missed 91 = .ok (.lload 7, 2) := by decide +kernel
theorem dX9_missed_93 : decode cX9_missed 93 = .ok (.lconst 0, 1) := by decide +kernel
theorem dX9_missed_94 : decode cX9_missed 94 = .ok (.lcmp, 1) := by decide +kernel
theorem dX9_missed_95 : decode cX9_missed 95 = .ok (.ifCond .le 8, 3) := by decide +kernel
theorem dX9_missed_98 : decode cX9_missed 98 = .ok (.lload 7, 2) := by decide +kernel
theorem dX9_missed_100 : decode cX9_missed 100 = .ok (.goto 16, 3) := by decide +kernel
theorem dX9_missed_103 : decode cX9_missed 103 = .ok (.lload 4, 2) := by decide +kernel
theorem dX9_missed_105 : decode cX9_missed 105 = .ok (.lconst 0, 1) := by decide +kernel
theorem dX9_missed_106 : decode cX9_missed 106 = .ok (.lcmp, 1) := by decide +kernel
theorem dX9_missed_107 : decode cX9_missed 107 = .ok (.ifCond .le 8, 3) := by decide +kernel
theorem dX9_missed_110 : decode cX9_missed 110 = .ok (.lload 4, 2) := by decide +kernel
theorem dX9_missed_112 : decode cX9_missed 112 = .ok (.goto 4, 3) := by decide +kernel
theorem dX9_missed_115 : decode cX9_missed 115 = .ok (.lconst 1, 1) := by decide +kernel
theorem dX9_missed_116 : decode cX9_missed 116 = .ok (.lastore, 1) := by decide +kernel
theorem dX9_missed_117 : decode cX9_missed 117 = .ok (.iinc 6 1, 3) := by decide +kernel
theorem dX9_missed_120 : decode cX9_missed 120 = .ok (.goto (-99), 3) := by decide +kernel
theorem dX9_missed_123 : decode cX9_missed 123 = .ok (.lconst 0, 1) := by decide +kernel
theorem dX9_missed_124 : decode cX9_missed 124 = .ok (.lstore 6, 2) := by decide +kernel
theorem dX9_missed_126 : decode cX9_missed 126 = .ok (.lconst 1, 1) := by decide +kernel
theorem dX9_missed_127 : decode cX9_missed 127 = .ok (.lstore 8, 2) := by decide +kernel
theorem dX9_missed_129 : decode cX9_missed 129 = .ok (.iconst 0, 1) := by decide +kernel
theorem dX9_missed_130 : decode cX9_missed 130 = .ok (.istore 10, 2) := by decide +kernel
theorem dX9_missed_132 : decode cX9_missed 132 = .ok (.iload 10, 2) := by decide +kernel
theorem dX9_missed_134 : decode cX9_missed 134 = .ok (.iconst 4, 1) := by decide +kernel
theorem dX9_missed_135 : decode cX9_missed 135 = .ok (.if_icmp .ge 76, 3) := by decide +kernel
theorem dX9_missed_138 : decode cX9_missed 138 = .ok (.aload_n 0, 1) := by decide +kernel
theorem dX9_missed_139 : decode cX9_missed 139 = .ok (.getfield 93, 3) := by decide +kernel
theorem dX9_missed_142 : decode cX9_missed 142 = .ok (.iload 10, 2) := by decide +kernel
theorem dX9_missed_144 : decode cX9_missed 144 = .ok (.laload, 1) := by decide +kernel
theorem dX9_missed_145 : decode cX9_missed 145 = .ok (.lstore 11, 2) := by decide +kernel
theorem dX9_missed_147 : decode cX9_missed 147 = .ok (.iconst 0, 1) := by decide +kernel
theorem dX9_missed_148 : decode cX9_missed 148 = .ok (.istore 13, 2) := by decide +kernel
theorem dX9_missed_150 : decode cX9_missed 150 = .ok (.iload 13, 2) := by decide +kernel
theorem dX9_missed_152 : decode cX9_missed 152 = .ok (.iconst 4, 1) := by decide +kernel
theorem dX9_missed_153 : decode cX9_missed 153 = .ok (.if_icmp .ge 33, 3) := by decide +kernel
theorem dX9_missed_156 : decode cX9_missed 156 = .ok (.iload 13, 2) := by decide +kernel
theorem dX9_missed_158 : decode cX9_missed 158 = .ok (.iload 10, 2) := by decide +kernel
theorem dX9_missed_160 : decode cX9_missed 160 = .ok (.if_icmp .ne 8, 3) := by decide +kernel
theorem dX9_missed_163 : decode cX9_missed 163 = .ok (.lload 11, 2) := by decide +kernel
theorem dX9_missed_165 : decode cX9_missed 165 = .ok (.goto 13, 3) := by decide +kernel
theorem dX9_missed_168 : decode cX9_missed 168 = .ok (.lload 11, 2) := by decide +kernel
theorem dX9_missed_170 : decode cX9_missed 170 = .ok (.aload_n 0, 1) := by decide +kernel
theorem dX9_missed_171 : decode cX9_missed 171 = .ok (.getfield 97, 3) := by decide +kernel
theorem dX9_missed_174 : decode cX9_missed 174 = .ok (.iload 13, 2) := by decide +kernel
theorem dX9_missed_176 : decode cX9_missed 176 = .ok (.laload, 1) := by decide +kernel
theorem dX9_missed_177 : decode cX9_missed 177 = .ok (.lmul, 1) := by decide +kernel
theorem dX9_missed_178 : decode cX9_missed 178 = .ok (.lstore 11, 2) := by decide +kernel
theorem dX9_missed_180 : decode cX9_missed 180 = .ok (.iinc 13 1, 3) := by decide +kernel
theorem dX9_missed_183 : decode cX9_missed 183 = .ok (.goto (-33), 3) := by decide +kernel
theorem dX9_missed_186 : decode cX9_missed 186 = .ok (.lload 6, 2) := by decide +kernel
theorem dX9_missed_188 : decode cX9_missed 188 = .ok (.lload 11, 2) := by decide +kernel
theorem dX9_missed_190 : decode cX9_missed 190 = .ok (.ladd, 1) := by decide +kernel
theorem dX9_missed_191 : decode cX9_missed 191 = .ok (.lstore 6, 2) := by decide +kernel
theorem dX9_missed_193 : decode cX9_missed 193 = .ok (.lload 8, 2) := by decide +kernel
theorem dX9_missed_195 : decode cX9_missed 195 = .ok (.aload_n 0, 1) := by decide +kernel
theorem dX9_missed_196 : decode cX9_missed 196 = .ok (.getfield 97, 3) := by decide +kernel
theorem dX9_missed_199 : decode cX9_missed 199 = .ok (.iload 10, 2) := by decide +kernel
theorem dX9_missed_201 : decode cX9_missed 201 = .ok (.laload, 1) := by decide +kernel
theorem dX9_missed_202 : decode cX9_missed 202 = .ok (.lmul, 1) := by decide +kernel
theorem dX9_missed_203 : decode cX9_missed 203 = .ok (.lstore 8, 2) := by decide +kernel
theorem dX9_missed_205 : decode cX9_missed 205 = .ok (.iinc 10 1, 3) := by decide +kernel
theorem dX9_missed_208 : decode cX9_missed 208 = .ok (.goto (-76), 3) := by decide +kernel
theorem dX9_missed_211 : decode cX9_missed 211 = .ok (.lload 6, 2) := by decide +kernel
theorem dX9_missed_213 : decode cX9_missed 213 = .ok (.ldc2_w 190, 3) := by decide +kernel
theorem dX9_missed_216 : decode cX9_missed 216 = .ok (.lmul, 1) := by decide +kernel
theorem dX9_missed_217 : decode cX9_missed 217 = .ok (.lload 8, 2) := by decide +kernel
theorem dX9_missed_219 : decode cX9_missed 219 = .ok (.ldiv, 1) := by decide +kernel
theorem dX9_missed_220 : decode cX9_missed 220 = .ok (.lreturn, 1) := by decide +kernel
theorem dX9_total_0 : decode cX9_total 0 = .ok (.aload_n 0, 1) := by decide +kernel
theorem dX9_total_1 : decode cX9_total 1 = .ok (.iload_n 1, 1) := by decide +kernel
theorem dX9_total_2 : decode cX9_total 2 = .ok (.invokevirtual 154, 3) := by decide +kernel
theorem dX9_total_5 : decode cX9_total 5 = .ok (.ldc2_w 190, 3) := by decide +kernel
theorem dX9_total_8 : decode cX9_total 8 = .ok (.aload_n 0, 1) := by decide +kernel
theorem dX9_total_9 : decode cX9_total 9 = .ok (.iload_n 1, 1) := by decide +kernel
theorem dX9_total_10 : decode cX9_total 10 = .ok (.iconst (-1), 1) := by decide +kernel
theorem dX9_total_11 : decode cX9_total 11 = .ok (.invokevirtual 183, 3) := by decide +kernel
theorem dX9_total_14 : decode cX9_total 14 = .ok (.i2l, 1) := by decide +kernel
theorem dX9_total_15 : decode cX9_total 15 = .ok (.lmul, 1) := by decide +kernel
theorem dX9_total_16 : decode cX9_total 16 = .ok (.aload_n 0, 1) := by decide +kernel
theorem dX9_total_17 : decode cX9_total 17 = .ok (.iload_n 1, 1) := by decide +kernel
theorem dX9_total_18 : decode cX9_total 18 = .ok (.invokevirtual 192, 3) := by decide +kernel
theorem dX9_total_21 : decode cX9_total 21 = .ok (.ladd, 1) := by decide +kernel
theorem dX9_total_22 : decode cX9_total 22 = .ok (.lreturn, 1) := by decide +kernel
theorem dX9_year_0 : decode cX9_year 0 = .ok (.aload_n 0, 1) := by decide +kernel
theorem dX9_year_1 : decode cX9_year 1 = .ok (.iconst 0, 1) := by decide +kernel
theorem dX9_year_2 : decode cX9_year 2 = .ok (.putfield 1, 3) := by decide +kernel
theorem dX9_year_5 : decode cX9_year 5 = .ok (.iload_n 1, 1) := by decide +kernel
theorem dX9_year_6 : decode cX9_year 6 = .ok (.ifCond .lt 18, 3) := by decide +kernel
theorem dX9_year_9 : decode cX9_year 9 = .ok (.iload_n 1, 1) := by decide +kernel
theorem dX9_year_10 : decode cX9_year 10 = .ok (.bipush 6, 2) := by decide +kernel
theorem dX9_year_12 : decode cX9_year 12 = .ok (.if_icmp .ge 12, 3) := by decide +kernel
theorem dX9_year_15 : decode cX9_year 15 = .ok (.iload_n 2, 1) := by decide +kernel
theorem dX9_year_16 : decode cX9_year 16 = .ok (.ifCond .lt 8, 3) := by decide +kernel
theorem dX9_year_19 : decode cX9_year 19 = .ok (.iload_n 2, 1) := by decide +kernel
theorem dX9_year_20 : decode cX9_year 20 = .ok (.iconst 5, 1) := by decide +kernel
theorem dX9_year_21 : decode cX9_year 21 = .ok (.if_icmp .le 5, 3) := by decide +kernel
theorem dX9_year_24 : decode cX9_year 24 = .ok (.iconst (-1), 1) := by decide +kernel
theorem dX9_year_25 : decode cX9_year 25 = .ok (.ireturn, 1) := by decide +kernel
theorem dX9_year_26 : decode cX9_year 26 = .ok (.aload_n 0, 1) := by decide +kernel
theorem dX9_year_27 : decode cX9_year 27 = .ok (.iload_n 1, 1) := by decide +kernel
theorem dX9_year_28 : decode cX9_year 28 = .ok (.invokevirtual 154, 3) := by decide +kernel
theorem dX9_year_31 : decode cX9_year 31 = .ok (.iconst 0, 1) := by decide +kernel
theorem dX9_year_32 : decode cX9_year 32 = .ok (.istore_n 3, 1) := by decide +kernel
theorem dX9_year_33 : decode cX9_year 33 = .ok (.iconst 0, 1) := by decide +kernel
theorem dX9_year_34 : decode cX9_year 34 = .ok (.istore 4, 2) := by decide +kernel
theorem dX9_year_36 : decode cX9_year 36 = .ok (.iload 4, 2) := by decide +kernel
theorem dX9_year_38 : decode cX9_year 38 = .ok (.aload_n 0, 1) := by decide +kernel
theorem dX9_year_39 : decode cX9_year 39 = .ok (.getfield 103, 3) := by decide +kernel
theorem dX9_year_42 : decode cX9_year 42 = .ok (.if_icmp .ge 68, 3) := by decide +kernel
theorem dX9_year_45 : decode cX9_year 45 = .ok (.aload_n 0, 1) := by decide +kernel
theorem dX9_year_46 : decode cX9_year 46 = .ok (.iload 4, 2) := by decide +kernel
theorem dX9_year_48 : decode cX9_year 48 = .ok (.invokevirtual 137, 3) := by decide +kernel
theorem dX9_year_51 : decode cX9_year 51 = .ok (.ifCond .eq 18, 3) := by decide +kernel
theorem dX9_year_54 : decode cX9_year 54 = .ok (.aload_n 0, 1) := by decide +kernel
theorem dX9_year_55 : decode cX9_year 55 = .ok (.getfield 32, 3) := by decide +kernel
theorem dX9_year_58 : decode cX9_year 58 = .ok (.iload 4, 2) := by decide +kernel
theorem dX9_year_60 : decode cX9_year 60 = .ok (.iaload, 1) := by decide +kernel
theorem dX9_year_61 : decode cX9_year 61 = .ok (.iload_n 1, 1) := by decide +kernel
theorem dX9_year_62 : decode cX9_year 62 = .ok (.if_icmp .ne 7, 3) := by decide +kernel
theorem dX9_year_65 : decode cX9_year 65 = .ok (.iconst 1, 1) := by decide +kernel
theorem dX9_year_66 : decode cX9_year 66 = .ok (.goto 4, 3) := by decide +kernel
theorem dX9_year_69 : decode cX9_year 69 = .ok (.iconst 0, 1) := by decide +kernel
theorem dX9_year_70 : decode cX9_year 70 = .ok (.istore 5, 2) := by decide +kernel
theorem dX9_year_72 : decode cX9_year 72 = .ok (.iload_n 3, 1) := by decide +kernel
theorem dX9_year_73 : decode cX9_year 73 = .ok (.iload 5, 2) := by decide +kernel
theorem dX9_year_75 : decode cX9_year 75 = .ok (.ifCond .eq 26, 3) := by decide +kernel
theorem dX9_year_78 : decode cX9_year 78 = .ok (.iload_n 2, 1) := by decide +kernel
theorem dX9_year_79 : decode cX9_year 79 = .ok (.ifCond .eq 18, 3) := by decide +kernel
theorem dX9_year_82 : decode cX9_year 82 = .ok (.iload_n 2, 1) := by decide +kernel
theorem dX9_year_83 : decode cX9_year 83 = .ok (.iconst 1, 1) := by decide +kernel
theorem dX9_year_84 : decode cX9_year 84 = .ok (.if_icmp .ne 17, 3) := by decide +kernel
theorem dX9_year_87 : decode cX9_year 87 = .ok (.aload_n 0, 1) := by decide +kernel
theorem dX9_year_88 : decode cX9_year 88 = .ok (.getfield 57, 3) := by decide +kernel
theorem dX9_year_91 : decode cX9_year 91 = .ok (.iload 4, 2) := by decide +kernel
theorem dX9_year_93 : decode cX9_year 93 = .ok (.iaload, 1) := by decide +kernel
theorem dX9_year_94 : decode cX9_year 94 = .ok (.ifCond .lt 7, 3) := by decide +kernel
theorem dX9_year_97 : decode cX9_year 97 = .ok (.iconst 1, 1) := by decide +kernel
theorem dX9_year_98 : decode cX9_year 98 = .ok (.goto 4, 3) := by decide +kernel
theorem dX9_year_101 : decode cX9_year 101 = .ok (.iconst 0, 1) := by decide +kernel
theorem dX9_year_102 : decode cX9_year 102 = .ok (.iadd, 1) := by decide +kernel
theorem dX9_year_103 : decode cX9_year 103 = .ok (.istore_n 3, 1) := by decide +kernel
theorem dX9_year_104 : decode cX9_year 104 = .ok (.iinc 4 1, 3) := by decide +kernel
theorem dX9_year_107 : decode cX9_year 107 = .ok (.goto (-71), 3) := by decide +kernel
theorem dX9_year_110 : decode cX9_year 110 = .ok (.iload_n 2, 1) := by decide +kernel
theorem dX9_year_111 : decode cX9_year 111 = .ok (.tableswitch 57 0 4 #[33, 33, 35, 42, 50], 33) := by decide +kernel
theorem dX9_year_144 : decode cX9_year 144 = .ok (.iload_n 3, 1) := by decide +kernel
theorem dX9_year_145 : decode cX9_year 145 = .ok (.ireturn, 1) := by decide +kernel
theorem dX9_year_146 : decode cX9_year 146 = .ok (.aload_n 0, 1) := by decide +kernel
theorem dX9_year_147 : decode cX9_year 147 = .ok (.iload_n 1, 1) := by decide +kernel
theorem dX9_year_148 : decode cX9_year 148 = .ok (.iconst (-1), 1) := by decide +kernel
theorem dX9_year_149 : decode cX9_year 149 = .ok (.invokevirtual 183, 3) := by decide +kernel
theorem dX9_year_152 : decode cX9_year 152 = .ok (.ireturn, 1) := by decide +kernel
theorem dX9_year_153 : decode cX9_year 153 = .ok (.aload_n 0, 1) := by decide +kernel
theorem dX9_year_154 : decode cX9_year 154 = .ok (.iload_n 1, 1) := by decide +kernel
theorem dX9_year_155 : decode cX9_year 155 = .ok (.iconst (-1), 1) := by decide +kernel
theorem dX9_year_156 : decode cX9_year 156 = .ok (.iconst 1, 1) := by decide +kernel
theorem dX9_year_157 : decode cX9_year 157 = .ok (.invokevirtual 186, 3) := by decide +kernel
theorem dX9_year_160 : decode cX9_year 160 = .ok (.ireturn, 1) := by decide +kernel
theorem dX9_year_161 : decode cX9_year 161 = .ok (.aload_n 0, 1) := by decide +kernel
theorem dX9_year_162 : decode cX9_year 162 = .ok (.iload_n 1, 1) := by decide +kernel
theorem dX9_year_163 : decode cX9_year 163 = .ok (.invokevirtual 192, 3) := by decide +kernel
theorem dX9_year_166 : decode cX9_year 166 = .ok (.l2i, 1) := by decide +kernel
theorem dX9_year_167 : decode cX9_year 167 = .ok (.ireturn, 1) := by decide +kernel
theorem dX9_year_168 : decode cX9_year 168 = .ok (.aload_n 0, 1) := by decide +kernel
theorem dX9_year_169 : decode cX9_year 169 = .ok (.iload_n 1, 1) := by decide +kernel
theorem dX9_year_170 : decode cX9_year 170 = .ok (.invokevirtual 196, 3) := by decide +kernel
theorem dX9_year_173 : decode cX9_year 173 = .ok (.l2i, 1) := by decide +kernel
theorem dX9_year_174 : decode cX9_year 174 = .ok (.ireturn, 1) := by decide +kernel
theorem dX9_comeBy_0 : decode cX9_comeBy 0 = .ok (.iconst 0, 1) := by decide +kernel
theorem dX9_comeBy_1 : decode cX9_comeBy 1 = .ok (.istore 4, 2) := by decide +kernel
theorem dX9_comeBy_3 : decode cX9_comeBy 3 = .ok (.iconst 0, 1) := by decide +kernel
theorem dX9_comeBy_4 : decode cX9_comeBy 4 = .ok (.istore 5, 2) := by decide +kernel
theorem dX9_comeBy_6 : decode cX9_comeBy 6 = .ok (.iload 5, 2) := by decide +kernel
theorem dX9_comeBy_8 : decode cX9_comeBy 8 = .ok (.aload_n 0, 1) := by decide +kernel
theorem dX9_comeBy_9 : decode cX9_comeBy 9 = .ok (.getfield 103, 3) := by decide +kernel
theorem dX9_comeBy_12 : decode cX9_comeBy 12 = .ok (.if_icmp .ge 68, 3) := by decide +kernel
theorem dX9_comeBy_15 : decode cX9_comeBy 15 = .ok (.iload 4, 2) := by decide +kernel
theorem dX9_comeBy_17 : decode cX9_comeBy 17 = .ok (.aload_n 0, 1) := by decide +kernel
theorem dX9_comeBy_18 : decode cX9_comeBy 18 = .ok (.iload 5, 2) := by decide +kernel
theorem dX9_comeBy_20 : decode cX9_comeBy 20 = .ok (.iload_n 1, 1) := by decide +kernel
theorem dX9_comeBy_21 : decode cX9_comeBy 21 = .ok (.invokevirtual 161, 3) := by decide +kernel
theorem dX9_comeBy_24 : decode cX9_comeBy 24 = .ok (.ifCond .eq 46, 3) := by decide +kernel
theorem dX9_comeBy_27 : decode cX9_comeBy 27 = .ok (.bipush 10, 2) := by decide +kernel
theorem dX9_comeBy_29 : decode cX9_comeBy 29 = .ok (.aload_n 0, 1) := by decide +kernel
theorem dX9_comeBy_30 : decode cX9_comeBy 30 = .ok (.getfield 35, 3) := by decide +kernel
theorem dX9_comeBy_33 : decode cX9_comeBy 33 = .ok (.iload 5, 2) := by decide +kernel
theorem dX9_comeBy_35 : decode cX9_comeBy 35 = .ok (.iaload, 1) := by decide +kernel
theorem dX9_comeBy_36 : decode cX9_comeBy 36 = .ok (.imul, 1) := by decide +kernel
theorem dX9_comeBy_37 : decode cX9_comeBy 37 = .ok (.aload_n 0, 1) := by decide +kernel
theorem dX9_comeBy_38 : decode cX9_comeBy 38 = .ok (.getfield 38, 3) := by decide +kernel
theorem dX9_comeBy_41 : decode cX9_comeBy 41 = .ok (.iload 5, 2) := by decide +kernel
theorem dX9_comeBy_43 : decode cX9_comeBy 43 = .ok (.iaload, 1) := by decide +kernel
theorem dX9_comeBy_44 : decode cX9_comeBy 44 = .ok (.bipush 60, 2) := by decide +kernel
theorem dX9_comeBy_46 : decode cX9_comeBy 46 = .ok (.idiv, 1) := by decide +kernel
theorem dX9_comeBy_47 : decode cX9_comeBy 47 = .ok (.iadd, 1) := by decide +kernel
theorem dX9_comeBy_48 : decode cX9_comeBy 48 = .ok (.iload_n 3, 1) := by decide +kernel
theorem dX9_comeBy_49 : decode cX9_comeBy 49 = .ok (.if_icmp .gt 21, 3) := by decide +kernel
theorem dX9_comeBy_52 : decode cX9_comeBy 52 = .ok (.aload_n 0, 1) := by decide +kernel
theorem dX9_comeBy_53 : decode cX9_comeBy 53 = .ok (.aload_n 0, 1) := by decide +kernel
theorem dX9_comeBy_54 : decode cX9_comeBy 54 = .ok (.iload 5, 2) := by decide +kernel
theorem dX9_comeBy_56 : decode cX9_comeBy 56 = .ok (.invokevirtual 164, 3) := by decide +kernel
theorem dX9_comeBy_59 : decode cX9_comeBy 59 = .ok (.iload_n 2, 1) := by decide +kernel
theorem dX9_comeBy_60 : decode cX9_comeBy 60 = .ok (.invokevirtual 121, 3) := by decide +kernel
theorem dX9_comeBy_63 : decode cX9_comeBy 63 = .ok (.ifCond .eq 7, 3) := by decide +kernel
theorem dX9_comeBy_66 : decode cX9_comeBy 66 = .ok (.iconst 1, 1) := by decide +kernel
theorem dX9_comeBy_67 : decode cX9_comeBy 67 = .ok (.goto 4, 3) := by decide +kernel
theorem dX9_comeBy_70 : decode cX9_comeBy 70 = .ok (.iconst 0, 1) := by decide +kernel
theorem dX9_comeBy_71 : decode cX9_comeBy 71 = .ok (.iadd, 1) := by decide +kernel
theorem dX9_comeBy_72 : decode cX9_comeBy 72 = .ok (.istore 4, 2) := by decide +kernel
theorem dX9_comeBy_74 : decode cX9_comeBy 74 = .ok (.iinc 5 1, 3) := by decide +kernel
theorem dX9_comeBy_77 : decode cX9_comeBy 77 = .ok (.goto (-71), 3) := by decide +kernel
theorem dX9_comeBy_80 : decode cX9_comeBy 80 = .ok (.iload 4, 2) := by decide +kernel
theorem dX9_comeBy_82 : decode cX9_comeBy 82 = .ok (.ireturn, 1) := by decide +kernel
theorem dX9_passage_0 : decode cX9_passage 0 = .ok (.aload_n 0, 1) := by decide +kernel
theorem dX9_passage_1 : decode cX9_passage 1 = .ok (.iconst 0, 1) := by decide +kernel
theorem dX9_passage_2 : decode cX9_passage 2 = .ok (.putfield 1, 3) := by decide +kernel
theorem dX9_passage_5 : decode cX9_passage 5 = .ok (.iload_n 1, 1) := by decide +kernel
theorem dX9_passage_6 : decode cX9_passage 6 = .ok (.ifCond .lt 26, 3) := by decide +kernel
theorem dX9_passage_9 : decode cX9_passage 9 = .ok (.iload_n 1, 1) := by decide +kernel
theorem dX9_passage_10 : decode cX9_passage 10 = .ok (.bipush 6, 2) := by decide +kernel
theorem dX9_passage_12 : decode cX9_passage 12 = .ok (.if_icmp .ge 20, 3) := by decide +kernel
theorem dX9_passage_15 : decode cX9_passage 15 = .ok (.aload_n 0, 1) := by decide +kernel
theorem dX9_passage_16 : decode cX9_passage 16 = .ok (.iload_n 2, 1) := by decide +kernel
theorem dX9_passage_17 : decode cX9_passage 17 = .ok (.invokevirtual 106, 3) := by decide +kernel
theorem dX9_passage_20 : decode cX9_passage 20 = .ok (.ifCond .eq 12, 3) := by decide +kernel
theorem dX9_passage_23 : decode cX9_passage 23 = .ok (.iload_n 3, 1) := by decide +kernel
theorem dX9_passage_24 : decode cX9_passage 24 = .ok (.ifCond .lt 8, 3) := by decide +kernel
theorem dX9_passage_27 : decode cX9_passage 27 = .ok (.iload_n 3, 1) := by decide +kernel
theorem dX9_passage_28 : decode cX9_passage 28 = .ok (.iconst 2, 1) := by decide +kernel
theorem dX9_passage_29 : decode cX9_passage 29 = .ok (.if_icmp .le 5, 3) := by decide +kernel
theorem dX9_passage_32 : decode cX9_passage 32 = .ok (.iconst (-1), 1) := by decide +kernel
theorem dX9_passage_33 : decode cX9_passage 33 = .ok (.ireturn, 1) := by decide +kernel
theorem dX9_passage_34 : decode cX9_passage 34 = .ok (.aload_n 0, 1) := by decide +kernel
theorem dX9_passage_35 : decode cX9_passage 35 = .ok (.iload_n 1, 1) := by decide +kernel
theorem dX9_passage_36 : decode cX9_passage 36 = .ok (.invokevirtual 154, 3) := by decide +kernel
theorem dX9_passage_39 : decode cX9_passage 39 = .ok (.aload_n 0, 1) := by decide +kernel
theorem dX9_passage_40 : decode cX9_passage 40 = .ok (.iload_n 1, 1) := by decide +kernel
theorem dX9_passage_41 : decode cX9_passage 41 = .ok (.iload_n 2, 1) := by decide +kernel
theorem dX9_passage_42 : decode cX9_passage 42 = .ok (.sipush 300, 3) := by decide +kernel
theorem dX9_passage_45 : decode cX9_passage 45 = .ok (.invokevirtual 199, 3) := by decide +kernel
theorem dX9_passage_48 : decode cX9_passage 48 = .ok (.istore 4, 2) := by decide +kernel
theorem dX9_passage_50 : decode cX9_passage 50 = .ok (.iload 4, 2) := by decide +kernel
theorem dX9_passage_52 : decode cX9_passage 52 = .ok (.ifCond .ne 5, 3) := by decide +kernel
theorem dX9_passage_55 : decode cX9_passage 55 = .ok (.iconst (-1), 1) := by decide +kernel
theorem dX9_passage_56 : decode cX9_passage 56 = .ok (.ireturn, 1) := by decide +kernel
theorem dX9_passage_57 : decode cX9_passage 57 = .ok (.iconst 0, 1) := by decide +kernel
theorem dX9_passage_58 : decode cX9_passage 58 = .ok (.istore 5, 2) := by decide +kernel
theorem dX9_passage_60 : decode cX9_passage 60 = .ok (.iconst 0, 1) := by decide +kernel
theorem dX9_passage_61 : decode cX9_passage 61 = .ok (.istore 6, 2) := by decide +kernel
theorem dX9_passage_63 : decode cX9_passage 63 = .ok (.iload 6, 2) := by decide +kernel
theorem dX9_passage_65 : decode cX9_passage 65 = .ok (.ifCond .ne 72, 3) := by decide +kernel
theorem dX9_passage_68 : decode cX9_passage 68 = .ok (.aload_n 0, 1) := by decide +kernel
theorem dX9_passage_69 : decode cX9_passage 69 = .ok (.iload_n 1, 1) := by decide +kernel
theorem dX9_passage_70 : decode cX9_passage 70 = .ok (.iload_n 2, 1) := by decide +kernel
theorem dX9_passage_71 : decode cX9_passage 71 = .ok (.iload 5, 2) := by decide +kernel
theorem dX9_passage_73 : decode cX9_passage 73 = .ok (.invokevirtual 199, 3) := by decide +kernel
theorem dX9_passage_76 : decode cX9_passage 76 = .ok (.istore 7, 2) := by decide +kernel
theorem dX9_passage_78 : decode cX9_passage 78 = .ok (.iload_n 3, 1) := by decide +kernel
theorem dX9_passage_79 : decode cX9_passage 79 = .ok (.ifCond .ne 16, 3) := by decide +kernel
theorem dX9_passage_82 : decode cX9_passage 82 = .ok (.iload 7, 2) := by decide +kernel
theorem dX9_passage_84 : decode cX9_passage 84 = .ok (.ifCond .le 7, 3) := by decide +kernel
theorem dX9_passage_87 : decode cX9_passage 87 = .ok (.iconst 1, 1) := by decide +kernel
theorem dX9_passage_88 : decode cX9_passage 88 = .ok (.goto 41, 3) := by decide +kernel
theorem dX9_passage_91 : decode cX9_passage 91 = .ok (.iconst 0, 1) := by decide +kernel
theorem dX9_passage_92 : decode cX9_passage 92 = .ok (.goto 37, 3) := by decide +kernel
theorem dX9_passage_95 : decode cX9_passage 95 = .ok (.iload_n 3, 1) := by decide +kernel
theorem dX9_passage_96 : decode cX9_passage 96 = .ok (.iconst 1, 1) := by decide +kernel
theorem dX9_passage_97 : decode cX9_passage 97 = .ok (.if_icmp .ne 20, 3) := by decide +kernel
theorem dX9_passage_100 : decode cX9_passage 100 = .ok (.iconst 2, 1) := by decide +kernel
theorem dX9_passage_101 : decode cX9_passage 101 = .ok (.iload 7, 2) := by decide +kernel
theorem dX9_passage_103 : decode cX9_passage 103 = .ok (.imul, 1) := by decide +kernel
theorem dX9_passage_104 : decode cX9_passage 104 = .ok (.iload 4, 2) := by decide +kernel
theorem dX9_passage_106 : decode cX9_passage 106 = .ok (.if_icmp .lt 7, 3) := by decide +kernel
theorem dX9_passage_109 : decode cX9_passage 109 = .ok (.iconst 1, 1) := by decide +kernel
theorem dX9_passage_110 : decode cX9_passage 110 = .ok (.goto 19, 3) := by decide +kernel
theorem dX9_passage_113 : decode cX9_passage 113 = .ok (.iconst 0, 1) := by decide +kernel
theorem dX9_passage_114 : decode cX9_passage 114 = .ok (.goto 15, 3) := by decide +kernel
theorem dX9_passage_117 : decode cX9_passage 117 = .ok (.iload 7, 2) := by decide +kernel
theorem dX9_passage_119 : decode cX9_passage 119 = .ok (.iload 4, 2) := by decide +kernel
theorem dX9_passage_121 : decode cX9_passage 121 = .ok (.if_icmp .ne 7, 3) := by decide +kernel
theorem dX9_passage_124 : decode cX9_passage 124 = .ok (.iconst 1, 1) := by decide +kernel
theorem dX9_passage_125 : decode cX9_passage 125 = .ok (.goto 4, 3) := by decide +kernel
theorem dX9_passage_128 : decode cX9_passage 128 = .ok (.iconst 0, 1) := by decide +kernel
theorem dX9_passage_129 : decode cX9_passage 129 = .ok (.istore 6, 2) := by decide +kernel
theorem dX9_passage_131 : decode cX9_passage 131 = .ok (.iinc 5 1, 3) := by decide +kernel
theorem dX9_passage_134 : decode cX9_passage 134 = .ok (.goto (-71), 3) := by decide +kernel
theorem dX9_passage_137 : decode cX9_passage 137 = .ok (.iload 5, 2) := by decide +kernel
theorem dX9_passage_139 : decode cX9_passage 139 = .ok (.iconst 1, 1) := by decide +kernel
theorem dX9_passage_140 : decode cX9_passage 140 = .ok (.isub, 1) := by decide +kernel
theorem dX9_passage_141 : decode cX9_passage 141 = .ok (.ireturn, 1) := by decide +kernel
theorem dX9_change_0 : decode cX9_change 0 = .ok (.aload_n 0, 1) := by decide +kernel
theorem dX9_change_1 : decode cX9_change 1 = .ok (.iconst 0, 1) := by decide +kernel
theorem dX9_change_2 : decode cX9_change 2 = .ok (.putfield 1, 3) := by decide +kernel
theorem dX9_change_5 : decode cX9_change 5 = .ok (.iload_n 1, 1) := by decide +kernel
theorem dX9_change_6 : decode cX9_change 6 = .ok (.ifCond .lt 19, 3) := by decide +kernel
theorem dX9_change_9 : decode cX9_change 9 = .ok (.iload_n 1, 1) := by decide +kernel
theorem dX9_change_10 : decode cX9_change 10 = .ok (.bipush 6, 2) := by decide +kernel
theorem dX9_change_12 : decode cX9_change 12 = .ok (.if_icmp .ge 13, 3) := by decide +kernel
theorem dX9_change_15 : decode cX9_change 15 = .ok (.iload_n 2, 1) := by decide +kernel
theorem dX9_change_16 : decode cX9_change 16 = .ok (.ifCond .lt 9, 3) := by decide +kernel
theorem dX9_change_19 : decode cX9_change 19 = .ok (.iload_n 2, 1) := by decide +kernel
theorem dX9_change_20 : decode cX9_change 20 = .ok (.bipush 6, 2) := by decide +kernel
theorem dX9_change_22 : decode cX9_change 22 = .ok (.if_icmp .lt 6, 3) := by decide +kernel
theorem dX9_change_25 : decode cX9_change 25 = .ok (.bipush (-2), 2) := by decide +kernel
theorem dX9_change_27 : decode cX9_change 27 = .ok (.ireturn, 1) := by decide +kernel
theorem dX9_change_28 : decode cX9_change 28 = .ok (.aload_n 0, 1) := by decide +kernel
theorem dX9_change_29 : decode cX9_change 29 = .ok (.iload_n 1, 1) := by decide +kernel
theorem dX9_change_30 : decode cX9_change 30 = .ok (.invokevirtual 196, 3) := by decide +kernel
theorem dX9_change_33 : decode cX9_change 33 = .ok (.lstore_n 3, 1) := by decide +kernel
theorem dX9_change_34 : decode cX9_change 34 = .ok (.ldc2_w 190, 3) := by decide +kernel
theorem dX9_change_37 : decode cX9_change 37 = .ok (.aload_n 0, 1) := by decide +kernel
theorem dX9_change_38 : decode cX9_change 38 = .ok (.iload_n 1, 1) := by decide +kernel
theorem dX9_change_39 : decode cX9_change 39 = .ok (.iconst (-1), 1) := by decide +kernel
theorem dX9_change_40 : decode cX9_change 40 = .ok (.invokevirtual 183, 3) := by decide +kernel
theorem dX9_change_43 : decode cX9_change 43 = .ok (.i2l, 1) := by decide +kernel
theorem dX9_change_44 : decode cX9_change 44 = .ok (.lmul, 1) := by decide +kernel
theorem dX9_change_45 : decode cX9_change 45 = .ok (.lstore 5, 2) := by decide +kernel
theorem dX9_change_47 : decode cX9_change 47 = .ok (.aload_n 0, 1) := by decide +kernel
theorem dX9_change_48 : decode cX9_change 48 = .ok (.iload_n 2, 1) := by decide +kernel
theorem dX9_change_49 : decode cX9_change 49 = .ok (.invokevirtual 196, 3) := by decide +kernel
theorem dX9_change_52 : decode cX9_change 52 = .ok (.lstore 7, 2) := by decide +kernel
theorem dX9_change_54 : decode cX9_change 54 = .ok (.ldc2_w 190, 3) := by decide +kernel
theorem dX9_change_57 : decode cX9_change 57 = .ok (.aload_n 0, 1) := by decide +kernel
theorem dX9_change_58 : decode cX9_change 58 = .ok (.iload_n 2, 1) := by decide +kernel
theorem dX9_change_59 : decode cX9_change 59 = .ok (.iconst (-1), 1) := by decide +kernel
theorem dX9_change_60 : decode cX9_change 60 = .ok (.invokevirtual 183, 3) := by decide +kernel
theorem dX9_change_63 : decode cX9_change 63 = .ok (.i2l, 1) := by decide +kernel
theorem dX9_change_64 : decode cX9_change 64 = .ok (.lmul, 1) := by decide +kernel
theorem dX9_change_65 : decode cX9_change 65 = .ok (.lstore 9, 2) := by decide +kernel
theorem dX9_change_67 : decode cX9_change 67 = .ok (.lload 9, 2) := by decide +kernel
theorem dX9_change_69 : decode cX9_change 69 = .ok (.lload_n 3, 1) := by decide +kernel
theorem dX9_change_70 : decode cX9_change 70 = .ok (.lcmp, 1) := by decide +kernel
theorem dX9_change_71 : decode cX9_change 71 = .ok (.ifCond .le 7, 3) := by decide +kernel
theorem dX9_change_74 : decode cX9_change 74 = .ok (.iconst 1, 1) := by decide +kernel
theorem dX9_change_75 : decode cX9_change 75 = .ok (.goto 16, 3) := by decide +kernel
theorem dX9_change_78 : decode cX9_change 78 = .ok (.lload 7, 2) := by decide +kernel
theorem dX9_change_80 : decode cX9_change 80 = .ok (.lload 5, 2) := by decide +kernel
theorem dX9_change_82 : decode cX9_change 82 = .ok (.lcmp, 1) := by decide +kernel
theorem dX9_change_83 : decode cX9_change 83 = .ok (.ifCond .ge 7, 3) := by decide +kernel
theorem dX9_change_86 : decode cX9_change 86 = .ok (.iconst (-1), 1) := by decide +kernel
theorem dX9_change_87 : decode cX9_change 87 = .ok (.goto 4, 3) := by decide +kernel
theorem dX9_change_90 : decode cX9_change 90 = .ok (.iconst 0, 1) := by decide +kernel
theorem dX9_change_91 : decode cX9_change 91 = .ok (.ireturn, 1) := by decide +kernel
theorem dX9_look_0 : decode cX9_look 0 = .ok (.aload_n 0, 1) := by decide +kernel
theorem dX9_look_1 : decode cX9_look 1 = .ok (.iload_n 1, 1) := by decide +kernel
theorem dX9_look_2 : decode cX9_look 2 = .ok (.ifCond .lt 24, 3) := by decide +kernel
theorem dX9_look_5 : decode cX9_look 5 = .ok (.iload_n 1, 1) := by decide +kernel
theorem dX9_look_6 : decode cX9_look 6 = .ok (.aload_n 0, 1) := by decide +kernel
theorem dX9_look_7 : decode cX9_look 7 = .ok (.getfield 103, 3) := by decide +kernel
theorem dX9_look_10 : decode cX9_look 10 = .ok (.if_icmp .ge 16, 3) := by decide +kernel
theorem dX9_look_13 : decode cX9_look 13 = .ok (.iload_n 2, 1) := by decide +kernel
theorem dX9_look_14 : decode cX9_look 14 = .ok (.ifCond .lt 12, 3) := by decide +kernel
theorem dX9_look_17 : decode cX9_look 17 = .ok (.iload_n 2, 1) := by decide +kernel
theorem dX9_look_18 : decode cX9_look 18 = .ok (.iconst 5, 1) := by decide +kernel
theorem dX9_look_19 : decode cX9_look 19 = .ok (.if_icmp .gt 7, 3) := by decide +kernel
theorem dX9_look_22 : decode cX9_look 22 = .ok (.iconst 0, 1) := by decide +kernel
theorem dX9_look_23 : decode cX9_look 23 = .ok (.goto 4, 3) := by decide +kernel
theorem dX9_look_26 : decode cX9_look 26 = .ok (.iconst 1, 1) := by decide +kernel
theorem dX9_look_27 : decode cX9_look 27 = .ok (.putfield 1, 3) := by decide +kernel
theorem dX9_look_30 : decode cX9_look 30 = .ok (.aload_n 0, 1) := by decide +kernel
theorem dX9_look_31 : decode cX9_look 31 = .ok (.getfield 1, 3) := by decide +kernel
theorem dX9_look_34 : decode cX9_look 34 = .ok (.ifCond .le 5, 3) := by decide +kernel
theorem dX9_look_37 : decode cX9_look 37 = .ok (.iconst 0, 1) := by decide +kernel
theorem dX9_look_38 : decode cX9_look 38 = .ok (.ireturn, 1) := by decide +kernel
theorem dX9_look_39 : decode cX9_look 39 = .ok (.iload_n 2, 1) := by decide +kernel
theorem dX9_look_40 : decode cX9_look 40 = .ok (.ifCond .ne 12, 3) := by decide +kernel
theorem dX9_look_43 : decode cX9_look 43 = .ok (.aload_n 0, 1) := by decide +kernel
theorem dX9_look_44 : decode cX9_look 44 = .ok (.getfield 32, 3) := by decide +kernel
theorem dX9_look_47 : decode cX9_look 47 = .ok (.iload_n 1, 1) := by decide +kernel
theorem dX9_look_48 : decode cX9_look 48 = .ok (.iaload, 1) := by decide +kernel
theorem dX9_look_49 : decode cX9_look 49 = .ok (.goto 65, 3) := by decide +kernel
theorem dX9_look_52 : decode cX9_look 52 = .ok (.iload_n 2, 1) := by decide +kernel
theorem dX9_look_53 : decode cX9_look 53 = .ok (.iconst 1, 1) := by decide +kernel
theorem dX9_look_54 : decode cX9_look 54 = .ok (.if_icmp .ne 12, 3) := by decide +kernel
theorem dX9_look_57 : decode cX9_look 57 = .ok (.aload_n 0, 1) := by decide +kernel
theorem dX9_look_58 : decode cX9_look 58 = .ok (.getfield 35, 3) := by decide +kernel
theorem dX9_look_61 : decode cX9_look 61 = .ok (.iload_n 1, 1) := by decide +kernel
theorem dX9_look_62 : decode cX9_look 62 = .ok (.iaload, 1) := by decide +kernel
theorem dX9_look_63 : decode cX9_look 63 = .ok (.goto 51, 3) := by decide +kernel
theorem dX9_look_66 : decode cX9_look 66 = .ok (.iload_n 2, 1) := by decide +kernel
theorem dX9_look_67 : decode cX9_look 67 = .ok (.iconst 2, 1) := by decide +kernel
theorem dX9_look_68 : decode cX9_look 68 = .ok (.if_icmp .ne 12, 3) := by decide +kernel
theorem dX9_look_71 : decode cX9_look 71 = .ok (.aload_n 0, 1) := by decide +kernel
theorem dX9_look_72 : decode cX9_look 72 = .ok (.getfield 38, 3) := by decide +kernel
theorem dX9_look_75 : decode cX9_look 75 = .ok (.iload_n 1, 1) := by decide +kernel
theorem dX9_look_76 : decode cX9_look 76 = .ok (.iaload, 1) := by decide +kernel
theorem dX9_look_77 : decode cX9_look 77 = .ok (.goto 37, 3) := by decide +kernel
theorem dX9_look_80 : decode cX9_look 80 = .ok (.iload_n 2, 1) := by decide +kernel
theorem dX9_look_81 : decode cX9_look 81 = .ok (.iconst 3, 1) := by decide +kernel
theorem dX9_look_82 : decode cX9_look 82 = .ok (.if_icmp .ne 12, 3) := by decide +kernel
theorem dX9_look_85 : decode cX9_look 85 = .ok (.aload_n 0, 1) := by decide +kernel
theorem dX9_look_86 : decode cX9_look 86 = .ok (.getfield 41, 3) := by decide +kernel
theorem dX9_look_89 : decode cX9_look 89 = .ok (.iload_n 1, 1) := by decide +kernel
theorem dX9_look_90 : decode cX9_look 90 = .ok (.iaload, 1) := by decide +kernel
theorem dX9_look_91 : decode cX9_look 91 = .ok (.goto 23, 3) := by decide +kernel
theorem dX9_look_94 : decode cX9_look 94 = .ok (.iload_n 2, 1) := by decide +kernel
theorem dX9_look_95 : decode cX9_look 95 = .ok (.iconst 4, 1) := by decide +kernel
theorem dX9_look_96 : decode cX9_look 96 = .ok (.if_icmp .ne 12, 3) := by decide +kernel
theorem dX9_look_99 : decode cX9_look 99 = .ok (.aload_n 0, 1) := by decide +kernel
theorem dX9_look_100 : decode cX9_look 100 = .ok (.getfield 44, 3) := by decide +kernel
theorem dX9_look_103 : decode cX9_look 103 = .ok (.iload_n 1, 1) := by decide +kernel
theorem dX9_look_104 : decode cX9_look 104 = .ok (.iaload, 1) := by decide +kernel
theorem dX9_look_105 : decode cX9_look 105 = .ok (.goto 9, 3) := by decide +kernel
theorem dX9_look_108 : decode cX9_look 108 = .ok (.aload_n 0, 1) := by decide +kernel
theorem dX9_look_109 : decode cX9_look 109 = .ok (.getfield 47, 3) := by decide +kernel
theorem dX9_look_112 : decode cX9_look 112 = .ok (.iload_n 1, 1) := by decide +kernel
theorem dX9_look_113 : decode cX9_look 113 = .ok (.iaload, 1) := by decide +kernel
theorem dX9_look_114 : decode cX9_look 114 = .ok (.ireturn, 1) := by decide +kernel
theorem dX9_count_0 : decode cX9_count 0 = .ok (.aload_n 0, 1) := by decide +kernel
theorem dX9_count_1 : decode cX9_count 1 = .ok (.iconst 0, 1) := by decide +kernel
theorem dX9_count_2 : decode cX9_count 2 = .ok (.putfield 1, 3) := by decide +kernel
theorem dX9_count_5 : decode cX9_count 5 = .ok (.iconst 0, 1) := by decide +kernel
theorem dX9_count_6 : decode cX9_count 6 = .ok (.istore_n 2, 1) := by decide +kernel
theorem dX9_count_7 : decode cX9_count 7 = .ok (.iconst 0, 1) := by decide +kernel
theorem dX9_count_8 : decode cX9_count 8 = .ok (.istore_n 3, 1) := by decide +kernel
theorem dX9_count_9 : decode cX9_count 9 = .ok (.iload_n 3, 1) := by decide +kernel
theorem dX9_count_10 : decode cX9_count 10 = .ok (.aload_n 0, 1) := by decide +kernel
theorem dX9_count_11 : decode cX9_count 11 = .ok (.getfield 17, 3) := by decide +kernel
theorem dX9_count_14 : decode cX9_count 14 = .ok (.if_icmp .ge 25, 3) := by decide +kernel
theorem dX9_count_17 : decode cX9_count 17 = .ok (.iload_n 2, 1) := by decide +kernel
theorem dX9_count_18 : decode cX9_count 18 = .ok (.aload_n 0, 1) := by decide +kernel
theorem dX9_count_19 : decode cX9_count 19 = .ok (.iload_n 3, 1) := by decide +kernel
theorem dX9_count_20 : decode cX9_count 20 = .ok (.invokevirtual 171, 3) := by decide +kernel
theorem dX9_count_23 : decode cX9_count 23 = .ok (.ifCond .eq 7, 3) := by decide +kernel
theorem dX9_count_26 : decode cX9_count 26 = .ok (.iconst 1, 1) := by decide +kernel
theorem dX9_count_27 : decode cX9_count 27 = .ok (.goto 4, 3) := by decide +kernel
theorem dX9_count_30 : decode cX9_count 30 = .ok (.iconst 0, 1) := by decide +kernel
theorem dX9_count_31 : decode cX9_count 31 = .ok (.iadd, 1) := by decide +kernel
theorem dX9_count_32 : decode cX9_count 32 = .ok (.istore_n 2, 1) := by decide +kernel
theorem dX9_count_33 : decode cX9_count 33 = .ok (.iinc 3 1, 3) := by decide +kernel
theorem dX9_count_36 : decode cX9_count 36 = .ok (.goto (-27), 3) := by decide +kernel
theorem dX9_count_39 : decode cX9_count 39 = .ok (.iload_n 1, 1) := by decide +kernel
theorem dX9_count_40 : decode cX9_count 40 = .ok (.ifCond .ne 10, 3) := by decide +kernel
theorem dX9_count_43 : decode cX9_count 43 = .ok (.aload_n 0, 1) := by decide +kernel
theorem dX9_count_44 : decode cX9_count 44 = .ok (.getfield 100, 3) := by decide +kernel
theorem dX9_count_47 : decode cX9_count 47 = .ok (.goto 61, 3) := by decide +kernel
theorem dX9_count_50 : decode cX9_count 50 = .ok (.iload_n 1, 1) := by decide +kernel
theorem dX9_count_51 : decode cX9_count 51 = .ok (.iconst 1, 1) := by decide +kernel
theorem dX9_count_52 : decode cX9_count 52 = .ok (.if_icmp .ne 10, 3) := by decide +kernel
theorem dX9_count_55 : decode cX9_count 55 = .ok (.aload_n 0, 1) := by decide +kernel
theorem dX9_count_56 : decode cX9_count 56 = .ok (.getfield 17, 3) := by decide +kernel
theorem dX9_count_59 : decode cX9_count 59 = .ok (.goto 49, 3) := by decide +kernel
theorem dX9_count_62 : decode cX9_count 62 = .ok (.iload_n 1, 1) := by decide +kernel
theorem dX9_count_63 : decode cX9_count 63 = .ok (.iconst 2, 1) := by decide +kernel
theorem dX9_count_64 : decode cX9_count 64 = .ok (.if_icmp .ne 10, 3) := by decide +kernel
theorem dX9_count_67 : decode cX9_count 67 = .ok (.aload_n 0, 1) := by decide +kernel
theorem dX9_count_68 : decode cX9_count 68 = .ok (.getfield 110, 3) := by decide +kernel
theorem dX9_count_71 : decode cX9_count 71 = .ok (.goto 37, 3) := by decide +kernel
theorem dX9_count_74 : decode cX9_count 74 = .ok (.iload_n 1, 1) := by decide +kernel
theorem dX9_count_75 : decode cX9_count 75 = .ok (.iconst 3, 1) := by decide +kernel
theorem dX9_count_76 : decode cX9_count 76 = .ok (.if_icmp .ne 10, 3) := by decide +kernel
theorem dX9_count_79 : decode cX9_count 79 = .ok (.aload_n 0, 1) := by decide +kernel
theorem dX9_count_80 : decode cX9_count 80 = .ok (.getfield 103, 3) := by decide +kernel
theorem dX9_count_83 : decode cX9_count 83 = .ok (.goto 25, 3) := by decide +kernel
theorem dX9_count_86 : decode cX9_count 86 = .ok (.iload_n 1, 1) := by decide +kernel
theorem dX9_count_87 : decode cX9_count 87 = .ok (.iconst 4, 1) := by decide +kernel
theorem dX9_count_88 : decode cX9_count 88 = .ok (.if_icmp .ne 7, 3) := by decide +kernel
theorem dX9_count_91 : decode cX9_count 91 = .ok (.iload_n 2, 1) := by decide +kernel
theorem dX9_count_92 : decode cX9_count 92 = .ok (.goto 16, 3) := by decide +kernel
theorem dX9_count_95 : decode cX9_count 95 = .ok (.iload_n 1, 1) := by decide +kernel
theorem dX9_count_96 : decode cX9_count 96 = .ok (.iconst 5, 1) := by decide +kernel
theorem dX9_count_97 : decode cX9_count 97 = .ok (.if_icmp .ne 10, 3) := by decide +kernel
theorem dX9_count_100 : decode cX9_count 100 = .ok (.aload_n 0, 1) := by decide +kernel
theorem dX9_count_101 : decode cX9_count 101 = .ok (.getfield 29, 3) := by decide +kernel
theorem dX9_count_104 : decode cX9_count 104 = .ok (.goto 4, 3) := by decide +kernel
theorem dX9_count_107 : decode cX9_count 107 = .ok (.iconst (-1), 1) := by decide +kernel
theorem dX9_count_108 : decode cX9_count 108 = .ok (.ireturn, 1) := by decide +kernel
end
section
theorem dL_birds_0 : decode cL_birds 0 = .ok (.aload 4, 2) := by decide +kernel
theorem dL_birds_2 : decode cL_birds 2 = .ok (.iconst 0, 1) := by decide +kernel
theorem dL_birds_3 : decode cL_birds 3 = .ok (.aload_n 0, 1) := by decide +kernel
theorem dL_birds_4 : decode cL_birds 4 = .ok (.iload_n 1, 1) := by decide +kernel
theorem dL_birds_5 : decode cL_birds 5 = .ok (.iload_n 2, 1) := by decide +kernel
theorem dL_birds_6 : decode cL_birds 6 = .ok (.iload_n 3, 1) := by decide +kernel
theorem dL_birds_7 : decode cL_birds 7 = .ok (.invokevirtual 7, 3) := by decide +kernel
theorem dL_birds_10 : decode cL_birds 10 = .ok (.i2l, 1) := by decide +kernel
theorem dL_birds_11 : decode cL_birds 11 = .ok (.lastore, 1) := by decide +kernel
theorem dL_birds_12 : decode cL_birds 12 = .ok (.goto 7, 3) := by decide +kernel
theorem dL_birds_15 : decode cL_birds 15 = .ok (.astore 5, 2) := by decide +kernel
theorem dL_birds_17 : decode cL_birds 17 = .ok (.iconst 1, 1) := by decide +kernel
theorem dL_birds_18 : decode cL_birds 18 = .ok (.ireturn, 1) := by decide +kernel
theorem dL_birds_19 : decode cL_birds 19 = .ok (.iconst 0, 1) := by decide +kernel
theorem dL_birds_20 : decode cL_birds 20 = .ok (.ireturn, 1) := by decide +kernel
theorem dL_look_0 : decode cL_look 0 = .ok (.aload_n 3, 1) := by decide +kernel
theorem dL_look_1 : decode cL_look 1 = .ok (.iconst 0, 1) := by decide +kernel
theorem dL_look_2 : decode cL_look 2 = .ok (.aload_n 0, 1) := by decide +kernel
theorem dL_look_3 : decode cL_look 3 = .ok (.iload_n 1, 1) := by decide +kernel
theorem dL_look_4 : decode cL_look 4 = .ok (.iload_n 2, 1) := by decide +kernel
theorem dL_look_5 : decode cL_look 5 = .ok (.invokevirtual 15, 3) := by decide +kernel
theorem dL_look_8 : decode cL_look 8 = .ok (.i2l, 1) := by decide +kernel
theorem dL_look_9 : decode cL_look 9 = .ok (.lastore, 1) := by decide +kernel
theorem dL_look_10 : decode cL_look 10 = .ok (.goto 7, 3) := by decide +kernel
theorem dL_look_13 : decode cL_look 13 = .ok (.astore 4, 2) := by decide +kernel
theorem dL_look_15 : decode cL_look 15 = .ok (.iconst 1, 1) := by decide +kernel
theorem dL_look_16 : decode cL_look 16 = .ok (.ireturn, 1) := by decide +kernel
theorem dL_look_17 : decode cL_look 17 = .ok (.iconst 0, 1) := by decide +kernel
theorem dL_look_18 : decode cL_look 18 = .ok (.ireturn, 1) := by decide +kernel
theorem dL_law_0 : decode cL_law 0 = .ok (.new 8, 3) := by decide +kernel
theorem dL_law_3 : decode cL_law 3 = .ok (.dup, 1) := by decide +kernel
theorem dL_law_4 : decode cL_law 4 = .ok (.invokespecial 19, 3) := by decide +kernel
theorem dL_law_7 : decode cL_law 7 = .ok (.astore_n 1, 1) := by decide +kernel
theorem dL_law_8 : decode cL_law 8 = .ok (.new 20, 3) := by decide +kernel
theorem dL_law_11 : decode cL_law 11 = .ok (.dup, 1) := by decide +kernel
theorem dL_law_12 : decode cL_law 12 = .ok (.invokespecial 22, 3) := by decide +kernel
theorem dL_law_15 : decode cL_law 15 = .ok (.astore_n 2, 1) := by decide +kernel
theorem dL_law_16 : decode cL_law 16 = .ok (.iconst 1, 1) := by decide +kernel
theorem dL_law_17 : decode cL_law 17 = .ok (.newarray .long, 2) := by decide +kernel
theorem dL_law_19 : decode cL_law 19 = .ok (.astore_n 3, 1) := by decide +kernel
theorem dL_law_20 : decode cL_law 20 = .ok (.iconst 0, 1) := by decide +kernel
theorem dL_law_21 : decode cL_law 21 = .ok (.istore 4, 2) := by decide +kernel
theorem dL_law_23 : decode cL_law 23 = .ok (.iload 4, 2) := by decide +kernel
theorem dL_law_25 : decode cL_law 25 = .ok (.aload_n 0, 1) := by decide +kernel
theorem dL_law_26 : decode cL_law 26 = .ok (.arraylength, 1) := by decide +kernel
theorem dL_law_27 : decode cL_law 27 = .ok (.bipush 6, 2) := by decide +kernel
theorem dL_law_29 : decode cL_law 29 = .ok (.isub, 1) := by decide +kernel
theorem dL_law_30 : decode cL_law 30 = .ok (.if_icmp .gt 749, 3) := by decide +kernel
theorem dL_law_33 : decode cL_law 33 = .ok (.aload_n 0, 1) := by decide +kernel
theorem dL_law_34 : decode cL_law 34 = .ok (.iload 4, 2) := by decide +kernel
theorem dL_law_36 : decode cL_law 36 = .ok (.iaload, 1) := by decide +kernel
theorem dL_law_37 : decode cL_law 37 = .ok (.bipush 15, 2) := by decide +kernel
theorem dL_law_39 : decode cL_law 39 = .ok (.iand, 1) := by decide +kernel
theorem dL_law_40 : decode cL_law 40 = .ok (.tableswitch 733 0 14 #[76, 101, 150, 163, 236, 313, 362, 387, 412, 437, 517, 554, 603, 640, 708], 76) := by decide +kernel
theorem dL_law_116 : decode cL_law 116 = .ok (.aload_n 1, 1) := by decide +kernel
theorem dL_law_117 : decode cL_law 117 = .ok (.aload_n 0, 1) := by decide +kernel
theorem dL_law_118 : decode cL_law 118 = .ok (.iload 4, 2) := by decide +kernel
theorem dL_law_120 : decode cL_law 120 = .ok (.iconst 1, 1) := by decide +kernel
theorem dL_law_121 : decode cL_law 121 = .ok (.iadd, 1) := by decide +kernel
theorem dL_law_122 : decode cL_law 122 = .ok (.iaload, 1) := by decide +kernel
theorem dL_law_123 : decode cL_law 123 = .ok (.invokevirtual 23, 3) := by decide +kernel
theorem dL_law_126 : decode cL_law 126 = .ok (.aload_n 2, 1) := by decide +kernel
theorem dL_law_127 : decode cL_law 127 = .ok (.aload_n 0, 1) := by decide +kernel
theorem dL_law_128 : decode cL_law 128 = .ok (.iload 4, 2) := by decide +kernel
theorem dL_law_130 : decode cL_law 130 = .ok (.iconst 1, 1) := by decide +kernel
theorem dL_law_131 : decode cL_law 131 = .ok (.iadd, 1) := by decide +kernel
theorem dL_law_132 : decode cL_law 132 = .ok (.iaload, 1) := by decide +kernel
theorem dL_law_133 : decode cL_law 133 = .ok (.invokevirtual 27, 3) := by decide +kernel
theorem dL_law_136 : decode cL_law 136 = .ok (.if_icmp .eq 637, 3) := by decide +kernel
theorem dL_law_139 : decode cL_law 139 = .ok (.iconst 0, 1) := by decide +kernel
theorem dL_law_140 : decode cL_law 140 = .ok (.ireturn, 1) := by decide +kernel
theorem dL_law_141 : decode cL_law 141 = .ok (.aload_n 1, 1) := by decide +kernel
theorem dL_law_142 : decode cL_law 142 = .ok (.aload_n 0, 1) := by decide +kernel
theorem dL_law_143 : decode cL_law 143 = .ok (.iload 4, 2) := by decide +kernel
theorem dL_law_145 : decode cL_law 145 = .ok (.iconst 1, 1) := by decide +kernel
theorem dL_law_146 : decode cL_law 146 = .ok (.iadd, 1) := by decide +kernel
theorem dL_law_147 : decode cL_law 147 = .ok (.iaload, 1) := by decide +kernel
theorem dL_law_148 : decode cL_law 148 = .ok (.aload_n 0, 1) := by decide +kernel
theorem dL_law_149 : decode cL_law 149 = .ok (.iload 4, 2) := by decide +kernel
theorem dL_law_151 : decode cL_law 151 = .ok (.iconst 2, 1) := by decide +kernel
theorem dL_law_152 : decode cL_law 152 = .ok (.iadd, 1) := by decide +kernel
theorem dL_law_153 : decode cL_law 153 = .ok (.iaload, 1) := by decide +kernel
theorem dL_law_154 : decode cL_law 154 = .ok (.aload_n 0, 1) := by decide +kernel
theorem dL_law_155 : decode cL_law 155 = .ok (.iload 4, 2) := by decide +kernel
theorem dL_law_157 : decode cL_law 157 = .ok (.iconst 3, 1) := by decide +kernel
theorem dL_law_158 : decode cL_law 158 = .ok (.iadd, 1) := by decide +kernel
theorem dL_law_159 : decode cL_law 159 = .ok (.iaload, 1) := by decide +kernel
theorem dL_law_160 : decode cL_law 160 = .ok (.invokevirtual 28, 3) := by decide +kernel
theorem dL_law_163 : decode cL_law 163 = .ok (.aload_n 2, 1) := by decide +kernel
theorem dL_law_164 : decode cL_law 164 = .ok (.aload_n 0, 1) := by decide +kernel
theorem dL_law_165 : decode cL_law 165 = .ok (.iload 4, 2) := by decide +kernel
theorem dL_law_167 : decode cL_law 167 = .ok (.iconst 1, 1) := by decide +kernel
theorem dL_law_168 : decode cL_law 168 = .ok (.iadd, 1) := by decide +kernel
theorem dL_law_169 : decode cL_law 169 = .ok (.iaload, 1) := by decide +kernel
theorem dL_law_170 : decode cL_law 170 = .ok (.aload_n 0, 1) := by decide +kernel
theorem dL_law_171 : decode cL_law 171 = .ok (.iload 4, 2) := by decide +kernel
theorem dL_law_173 : decode cL_law 173 = .ok (.iconst 2, 1) := by decide +kernel
theorem dL_law_174 : decode cL_law 174 = .ok (.iadd, 1) := by decide +kernel
theorem dL_law_175 : decode cL_law 175 = .ok (.iaload, 1) := by decide +kernel
theorem dL_law_176 : decode cL_law 176 = .ok (.aload_n 0, 1) := by decide +kernel
theorem dL_law_177 : decode cL_law 177 = .ok (.iload 4, 2) := by decide +kernel
theorem dL_law_179 : decode cL_law 179 = .ok (.iconst 3, 1) := by decide +kernel
theorem dL_law_180 : decode cL_law 180 = .ok (.iadd, 1) := by decide +kernel
theorem dL_law_181 : decode cL_law 181 = .ok (.iaload, 1) := by decide +kernel
theorem dL_law_182 : decode cL_law 182 = .ok (.invokevirtual 31, 3) := by decide +kernel
theorem dL_law_185 : decode cL_law 185 = .ok (.if_icmp .eq 588, 3) := by decide +kernel
theorem dL_law_188 : decode cL_law 188 = .ok (.iconst 0, 1) := by decide +kernel
theorem dL_law_189 : decode cL_law 189 = .ok (.ireturn, 1) := by decide +kernel
theorem dL_law_190 : decode cL_law 190 = .ok (.aload_n 1, 1) := by decide +kernel
theorem dL_law_191 : decode cL_law 191 = .ok (.invokevirtual 32, 3) := by decide +kernel
theorem dL_law_194 : decode cL_law 194 = .ok (.aload_n 2, 1) := by decide +kernel
theorem dL_law_195 : decode cL_law 195 = .ok (.invokevirtual 36, 3) := by decide +kernel
theorem dL_law_198 : decode cL_law 198 = .ok (.if_icmp .eq 575, 3) := by decide +kernel
theorem dL_law_201 : decode cL_law 201 = .ok (.iconst 0, 1) := by decide +kernel
theorem dL_law_202 : decode cL_law 202 = .ok (.ireturn, 1) := by decide +kernel
theorem dL_law_203 : decode cL_law 203 = .ok (.aload_n 1, 1) := by decide +kernel
theorem dL_law_204 : decode cL_law 204 = .ok (.aload_n 0, 1) := by decide +kernel
theorem dL_law_205 : decode cL_law 205 = .ok (.iload 4, 2) := by decide +kernel
theorem dL_law_207 : decode cL_law 207 = .ok (.iconst 1, 1) := by decide +kernel
theorem dL_law_208 : decode cL_law 208 = .ok (.iadd, 1) := by decide +kernel
theorem dL_law_209 : decode cL_law 209 = .ok (.iaload, 1) := by decide +kernel
theorem dL_law_210 : decode cL_law 210 = .ok (.aload_n 0, 1) := by decide +kernel
theorem dL_law_211 : decode cL_law 211 = .ok (.iload 4, 2) := by decide +kernel
theorem dL_law_213 : decode cL_law 213 = .ok (.iconst 2, 1) := by decide +kernel
theorem dL_law_214 : decode cL_law 214 = .ok (.iadd, 1) := by decide +kernel
theorem dL_law_215 : decode cL_law 215 = .ok (.iaload, 1) := by decide +kernel
theorem dL_law_216 : decode cL_law 216 = .ok (.aload_n 0, 1) := by decide +kernel
theorem dL_law_217 : decode cL_law 217 = .ok (.iload 4, 2) := by decide +kernel
theorem dL_law_219 : decode cL_law 219 = .ok (.iconst 3, 1) := by decide +kernel
theorem dL_law_220 : decode cL_law 220 = .ok (.iadd, 1) := by decide +kernel
theorem dL_law_221 : decode cL_law 221 = .ok (.iaload, 1) := by decide +kernel
theorem dL_law_222 : decode cL_law 222 = .ok (.aload_n 0, 1) := by decide +kernel
theorem dL_law_223 : decode cL_law 223 = .ok (.iload 4, 2) := by decide +kernel
theorem dL_law_225 : decode cL_law 225 = .ok (.iconst 4, 1) := by decide +kernel
theorem dL_law_226 : decode cL_law 226 = .ok (.iadd, 1) := by decide +kernel
theorem dL_law_227 : decode cL_law 227 = .ok (.iaload, 1) := by decide +kernel
theorem dL_law_228 : decode cL_law 228 = .ok (.aload_n 0, 1) := by decide +kernel
theorem dL_law_229 : decode cL_law 229 = .ok (.iload 4, 2) := by decide +kernel
theorem dL_law_231 : decode cL_law 231 = .ok (.iconst 5, 1) := by decide +kernel
theorem dL_law_232 : decode cL_law 232 = .ok (.iadd, 1) := by decide +kernel
theorem dL_law_233 : decode cL_law 233 = .ok (.iaload, 1) := by decide +kernel
theorem dL_law_234 : decode cL_law 234 = .ok (.invokevirtual 37, 3) := by decide +kernel
theorem dL_law_237 : decode cL_law 237 = .ok (.aload_n 2, 1) := by decide +kernel
theorem dL_law_238 : decode cL_law 238 = .ok (.aload_n 0, 1) := by decide +kernel
theorem dL_law_239 : decode cL_law 239 = .ok (.iload 4, 2) := by decide +kernel
theorem dL_law_241 : decode cL_law 241 = .ok (.iconst 1, 1) := by decide +kernel
theorem dL_law_242 : decode cL_law 242 = .ok (.iadd, 1) := by decide +kernel
theorem dL_law_243 : decode cL_law 243 = .ok (.iaload, 1) := by decide +kernel
theorem dL_law_244 : decode cL_law 244 = .ok (.aload_n 0, 1) := by decide +kernel
theorem dL_law_245 : decode cL_law 245 = .ok (.iload 4, 2) := by decide +kernel
theorem dL_law_247 : decode cL_law 247 = .ok (.iconst 2, 1) := by decide +kernel
theorem dL_law_248 : decode cL_law 248 = .ok (.iadd, 1) := by decide +kernel
theorem dL_law_249 : decode cL_law 249 = .ok (.iaload, 1) := by decide +kernel
theorem dL_law_250 : decode cL_law 250 = .ok (.aload_n 0, 1) := by decide +kernel
theorem dL_law_251 : decode cL_law 251 = .ok (.iload 4, 2) := by decide +kernel
theorem dL_law_253 : decode cL_law 253 = .ok (.iconst 3, 1) := by decide +kernel
theorem dL_law_254 : decode cL_law 254 = .ok (.iadd, 1) := by decide +kernel
theorem dL_law_255 : decode cL_law 255 = .ok (.iaload, 1) := by decide +kernel
theorem dL_law_256 : decode cL_law 256 = .ok (.aload_n 0, 1) := by decide +kernel
theorem dL_law_257 : decode cL_law 257 = .ok (.iload 4, 2) := by decide +kernel
theorem dL_law_259 : decode cL_law 259 = .ok (.iconst 4, 1) := by decide +kernel
theorem dL_law_260 : decode cL_law 260 = .ok (.iadd, 1) := by decide +kernel
theorem dL_law_261 : decode cL_law 261 = .ok (.iaload, 1) := by decide +kernel
theorem dL_law_262 : decode cL_law 262 = .ok (.aload_n 0, 1) := by decide +kernel
theorem dL_law_263 : decode cL_law 263 = .ok (.iload 4, 2) := by decide +kernel
theorem dL_law_265 : decode cL_law 265 = .ok (.iconst 5, 1) := by decide +kernel
theorem dL_law_266 : decode cL_law 266 = .ok (.iadd, 1) := by decide +kernel
theorem dL_law_267 : decode cL_law 267 = .ok (.iaload, 1) := by decide +kernel
theorem dL_law_268 : decode cL_law 268 = .ok (.invokevirtual 41, 3) := by decide +kernel
theorem dL_law_271 : decode cL_law 271 = .ok (.if_icmp .eq 502, 3) := by decide +kernel
theorem dL_law_274 : decode cL_law 274 = .ok (.iconst 0, 1) := by decide +kernel
theorem dL_law_275 : decode cL_law 275 = .ok (.ireturn, 1) := by decide +kernel
theorem dL_law_276 : decode cL_law 276 = .ok (.aload_n 1, 1) := by decide +kernel
theorem dL_law_277 : decode cL_law 277 = .ok (.aload_n 0, 1) := by decide +kernel
theorem dL_law_278 : decode cL_law 278 = .ok (.iload 4, 2) := by decide +kernel
theorem dL_law_280 : decode cL_law 280 = .ok (.iconst 1, 1) := by decide +kernel
theorem dL_law_281 : decode cL_law 281 = .ok (.iadd, 1) := by decide +kernel
theorem dL_law_282 : decode cL_law 282 = .ok (.iaload, 1) := by decide +kernel
theorem dL_law_283 : decode cL_law 283 = .ok (.aload_n 0, 1) := by decide +kernel
theorem dL_law_284 : decode cL_law 284 = .ok (.iload 4, 2) := by decide +kernel
theorem dL_law_286 : decode cL_law 286 = .ok (.iconst 2, 1) := by decide +kernel
theorem dL_law_287 : decode cL_law 287 = .ok (.iadd, 1) := by decide +kernel
theorem dL_law_288 : decode cL_law 288 = .ok (.iaload, 1) := by decide +kernel
theorem dL_law_289 : decode cL_law 289 = .ok (.aload_n 0, 1) := by decide +kernel
theorem dL_law_290 : decode cL_law 290 = .ok (.iload 4, 2) := by decide +kernel
theorem dL_law_292 : decode cL_law 292 = .ok (.iconst 3, 1) := by decide +kernel
theorem dL_law_293 : decode cL_law 293 = .ok (.iadd, 1) := by decide +kernel
theorem dL_law_294 : decode cL_law 294 = .ok (.iaload, 1) := by decide +kernel
theorem dL_law_295 : decode cL_law 295 = .ok (.aload_n 0, 1) := by decide +kernel
theorem dL_law_296 : decode cL_law 296 = .ok (.iload 4, 2) := by decide +kernel
theorem dL_law_298 : decode cL_law 298 = .ok (.iconst 4, 1) := by decide +kernel
theorem dL_law_299 : decode cL_law 299 = .ok (.iadd, 1) := by decide +kernel
theorem dL_law_300 : decode cL_law 300 = .ok (.iaload, 1) := by decide +kernel
theorem dL_law_301 : decode cL_law 301 = .ok (.ifCond .eq 7, 3) := by decide +kernel
theorem dL_law_304 : decode cL_law 304 = .ok (.iconst 1, 1) := by decide +kernel
theorem dL_law_305 : decode cL_law 305 = .ok (.goto 4, 3) := by decide +kernel
theorem dL_law_308 : decode cL_law 308 = .ok (.iconst 0, 1) := by decide +kernel
theorem dL_law_309 : decode cL_law 309 = .ok (.invokevirtual 42, 3) := by decide +kernel
theorem dL_law_312 : decode cL_law 312 = .ok (.aload_n 2, 1) := by decide +kernel
theorem dL_law_313 : decode cL_law 313 = .ok (.aload_n 0, 1) := by decide +kernel
theorem dL_law_314 : decode cL_law 314 = .ok (.iload 4, 2) := by decide +kernel
theorem dL_law_316 : decode cL_law 316 = .ok (.iconst 1, 1) := by decide +kernel
theorem dL_law_317 : decode cL_law 317 = .ok (.iadd, 1) := by decide +kernel
theorem dL_law_318 : decode cL_law 318 = .ok (.iaload, 1) := by decide +kernel
theorem dL_law_319 : decode cL_law 319 = .ok (.aload_n 0, 1) := by decide +kernel
theorem dL_law_320 : decode cL_law 320 = .ok (.iload 4, 2) := by decide +kernel
theorem dL_law_322 : decode cL_law 322 = .ok (.iconst 2, 1) := by decide +kernel
theorem dL_law_323 : decode cL_law 323 = .ok (.iadd, 1) := by decide +kernel
theorem dL_law_324 : decode cL_law 324 = .ok (.iaload, 1) := by decide +kernel
theorem dL_law_325 : decode cL_law 325 = .ok (.aload_n 0, 1) := by decide +kernel
theorem dL_law_326 : decode cL_law 326 = .ok (.iload 4, 2) := by decide +kernel
theorem dL_law_328 : decode cL_law 328 = .ok (.iconst 3, 1) := by decide +kernel
theorem dL_law_329 : decode cL_law 329 = .ok (.iadd, 1) := by decide +kernel
theorem dL_law_330 : decode cL_law 330 = .ok (.iaload, 1) := by decide +kernel
theorem dL_law_331 : decode cL_law 331 = .ok (.aload_n 0, 1) := by decide +kernel
theorem dL_law_332 : decode cL_law 332 = .ok (.iload 4, 2) := by decide +kernel
theorem dL_law_334 : decode cL_law 334 = .ok (.iconst 4, 1) := by decide +kernel
theorem dL_law_335 : decode cL_law 335 = .ok (.iadd, 1) := by decide +kernel
theorem dL_law_336 : decode cL_law 336 = .ok (.iaload, 1) := by decide +kernel
theorem dL_law_337 : decode cL_law 337 = .ok (.ifCond .eq 7, 3) := by decide +kernel
theorem dL_law_340 : decode cL_law 340 = .ok (.iconst 1, 1) := by decide +kernel
theorem dL_law_341 : decode cL_law 341 = .ok (.goto 4, 3) := by decide +kernel
theorem dL_law_344 : decode cL_law 344 = .ok (.iconst 0, 1) := by decide +kernel
theorem dL_law_345 : decode cL_law 345 = .ok (.invokevirtual 46, 3) := by decide +kernel
theorem dL_law_348 : decode cL_law 348 = .ok (.if_icmp .eq 425, 3) := by decide +kernel
theorem dL_law_351 : decode cL_law 351 = .ok (.iconst 0, 1) := by decide +kernel
theorem dL_law_352 : decode cL_law 352 = .ok (.ireturn, 1) := by decide +kernel
theorem dL_law_353 : decode cL_law 353 = .ok (.aload_n 1, 1) := by decide +kernel
theorem dL_law_354 : decode cL_law 354 = .ok (.aload_n 0, 1) := by decide +kernel
theorem dL_law_355 : decode cL_law 355 = .ok (.iload 4, 2) := by decide +kernel
theorem dL_law_357 : decode cL_law 357 = .ok (.iconst 1, 1) := by decide +kernel
theorem dL_law_358 : decode cL_law 358 = .ok (.iadd, 1) := by decide +kernel
theorem dL_law_359 : decode cL_law 359 = .ok (.iaload, 1) := by decide +kernel
theorem dL_law_360 : decode cL_law 360 = .ok (.aload_n 0, 1) := by decide +kernel
theorem dL_law_361 : decode cL_law 361 = .ok (.iload 4, 2) := by decide +kernel
theorem dL_law_363 : decode cL_law 363 = .ok (.iconst 2, 1) := by decide +kernel
theorem dL_law_364 : decode cL_law 364 = .ok (.iadd, 1) := by decide +kernel
theorem dL_law_365 : decode cL_law 365 = .ok (.iaload, 1) := by decide +kernel
theorem dL_law_366 : decode cL_law 366 = .ok (.aload_n 0, 1) := by decide +kernel
theorem dL_law_367 : decode cL_law 367 = .ok (.iload 4, 2) := by decide +kernel
theorem dL_law_369 : decode cL_law 369 = .ok (.iconst 3, 1) := by decide +kernel
theorem dL_law_370 : decode cL_law 370 = .ok (.iadd, 1) := by decide +kernel
theorem dL_law_371 : decode cL_law 371 = .ok (.iaload, 1) := by decide +kernel
theorem dL_law_372 : decode cL_law 372 = .ok (.invokevirtual 47, 3) := by decide +kernel
theorem dL_law_375 : decode cL_law 375 = .ok (.aload_n 2, 1) := by decide +kernel
theorem dL_law_376 : decode cL_law 376 = .ok (.aload_n 0, 1) := by decide +kernel
theorem dL_law_377 : decode cL_law 377 = .ok (.iload 4, 2) := by decide +kernel
theorem dL_law_379 : decode cL_law 379 = .ok (.iconst 1, 1) := by decide +kernel
theorem dL_law_380 : decode cL_law 380 = .ok (.iadd, 1) := by decide +kernel
theorem dL_law_381 : decode cL_law 381 = .ok (.iaload, 1) := by decide +kernel
theorem dL_law_382 : decode cL_law 382 = .ok (.aload_n 0, 1) := by decide +kernel
theorem dL_law_383 : decode cL_law 383 = .ok (.iload 4, 2) := by decide +kernel
theorem dL_law_385 : decode cL_law 385 = .ok (.iconst 2, 1) := by decide +kernel
theorem dL_law_386 : decode cL_law 386 = .ok (.iadd, 1) := by decide +kernel
theorem dL_law_387 : decode cL_law 387 = .ok (.iaload, 1) := by decide +kernel
theorem dL_law_388 : decode cL_law 388 = .ok (.aload_n 0, 1) := by decide +kernel
theorem dL_law_389 : decode cL_law 389 = .ok (.iload 4, 2) := by decide +kernel
theorem dL_law_391 : decode cL_law 391 = .ok (.iconst 3, 1) := by decide +kernel
theorem dL_law_392 : decode cL_law 392 = .ok (.iadd, 1) := by decide +kernel
theorem dL_law_393 : decode cL_law 393 = .ok (.iaload, 1) := by decide +kernel
theorem dL_law_394 : decode cL_law 394 = .ok (.invokevirtual 51, 3) := by decide +kernel
theorem dL_law_397 : decode cL_law 397 = .ok (.if_icmp .eq 376, 3) := by decide +kernel
theorem dL_law_400 : decode cL_law 400 = .ok (.iconst 0, 1) := by decide +kernel
theorem dL_law_401 : decode cL_law 401 = .ok (.ireturn, 1) := by decide +kernel
theorem dL_law_402 : decode cL_law 402 = .ok (.aload_n 1, 1) := by decide +kernel
theorem dL_law_403 : decode cL_law 403 = .ok (.aload_n 0, 1) := by decide +kernel
theorem dL_law_404 : decode cL_law 404 = .ok (.iload 4, 2) := by decide +kernel
theorem dL_law_406 : decode cL_law 406 = .ok (.iconst 1, 1) := by decide +kernel
theorem dL_law_407 : decode cL_law 407 = .ok (.iadd, 1) := by decide +kernel
theorem dL_law_408 : decode cL_law 408 = .ok (.iaload, 1) := by decide +kernel
theorem dL_law_409 : decode cL_law 409 = .ok (.invokevirtual 52, 3) := by decide +kernel
theorem dL_law_412 : decode cL_law 412 = .ok (.aload_n 2, 1) := by decide +kernel
theorem dL_law_413 : decode cL_law 413 = .ok (.aload_n 0, 1) := by decide +kernel
theorem dL_law_414 : decode cL_law 414 = .ok (.iload 4, 2) := by decide +kernel
theorem dL_law_416 : decode cL_law 416 = .ok (.iconst 1, 1) := by decide +kernel
theorem dL_law_417 : decode cL_law 417 = .ok (.iadd, 1) := by decide +kernel
theorem dL_law_418 : decode cL_law 418 = .ok (.iaload, 1) := by decide +kernel
theorem dL_law_419 : decode cL_law 419 = .ok (.invokevirtual 56, 3) := by decide +kernel
theorem dL_law_422 : decode cL_law 422 = .ok (.if_icmp .eq 351, 3) := by decide +kernel
theorem dL_law_425 : decode cL_law 425 = .ok (.iconst 0, 1) := by decide +kernel
theorem dL_law_426 : decode cL_law 426 = .ok (.ireturn, 1) := by decide +kernel
theorem dL_law_427 : decode cL_law 427 = .ok (.aload_n 1, 1) := by decide +kernel
theorem dL_law_428 : decode cL_law 428 = .ok (.aload_n 0, 1) := by decide +kernel
theorem dL_law_429 : decode cL_law 429 = .ok (.iload 4, 2) := by decide +kernel
theorem dL_law_431 : decode cL_law 431 = .ok (.iconst 1, 1) := by decide +kernel
theorem dL_law_432 : decode cL_law 432 = .ok (.iadd, 1) := by decide +kernel
theorem dL_law_433 : decode cL_law 433 = .ok (.iaload, 1) := by decide +kernel
theorem dL_law_434 : decode cL_law 434 = .ok (.invokevirtual 57, 3) := by decide +kernel
theorem dL_law_437 : decode cL_law 437 = .ok (.aload_n 2, 1) := by decide +kernel
theorem dL_law_438 : decode cL_law 438 = .ok (.aload_n 0, 1) := by decide +kernel
theorem dL_law_439 : decode cL_law 439 = .ok (.iload 4, 2) := by decide +kernel
theorem dL_law_441 : decode cL_law 441 = .ok (.iconst 1, 1) := by decide +kernel
theorem dL_law_442 : decode cL_law 442 = .ok (.iadd, 1) := by decide +kernel
theorem dL_law_443 : decode cL_law 443 = .ok (.iaload, 1) := by decide +kernel
theorem dL_law_444 : decode cL_law 444 = .ok (.invokevirtual 60, 3) := by decide +kernel
theorem dL_law_447 : decode cL_law 447 = .ok (.if_icmp .eq 326, 3) := by decide +kernel
theorem dL_law_450 : decode cL_law 450 = .ok (.iconst 0, 1) := by decide +kernel
theorem dL_law_451 : decode cL_law 451 = .ok (.ireturn, 1) := by decide +kernel
theorem dL_law_452 : decode cL_law 452 = .ok (.aload_n 1, 1) := by decide +kernel
theorem dL_law_453 : decode cL_law 453 = .ok (.aload_n 0, 1) := by decide +kernel
theorem dL_law_454 : decode cL_law 454 = .ok (.iload 4, 2) := by decide +kernel
theorem dL_law_456 : decode cL_law 456 = .ok (.iconst 1, 1) := by decide +kernel
theorem dL_law_457 : decode cL_law 457 = .ok (.iadd, 1) := by decide +kernel
theorem dL_law_458 : decode cL_law 458 = .ok (.iaload, 1) := by decide +kernel
theorem dL_law_459 : decode cL_law 459 = .ok (.invokevirtual 61, 3) := by decide +kernel
theorem dL_law_462 : decode cL_law 462 = .ok (.aload_n 2, 1) := by decide +kernel
theorem dL_law_463 : decode cL_law 463 = .ok (.aload_n 0, 1) := by decide +kernel
theorem dL_law_464 : decode cL_law 464 = .ok (.iload 4, 2) := by decide +kernel
theorem dL_law_466 : decode cL_law 466 = .ok (.iconst 1, 1) := by decide +kernel
theorem dL_law_467 : decode cL_law 467 = .ok (.iadd, 1) := by decide +kernel
theorem dL_law_468 : decode cL_law 468 = .ok (.iaload, 1) := by decide +kernel
theorem dL_law_469 : decode cL_law 469 = .ok (.invokevirtual 64, 3) := by decide +kernel
theorem dL_law_472 : decode cL_law 472 = .ok (.if_icmp .eq 301, 3) := by decide +kernel
theorem dL_law_475 : decode cL_law 475 = .ok (.iconst 0, 1) := by decide +kernel
theorem dL_law_476 : decode cL_law 476 = .ok (.ireturn, 1) := by decide +kernel
theorem dL_law_477 : decode cL_law 477 = .ok (.aload_n 1, 1) := by decide +kernel
theorem dL_law_478 : decode cL_law 478 = .ok (.aload_n 0, 1) := by decide +kernel
theorem dL_law_479 : decode cL_law 479 = .ok (.iload 4, 2) := by decide +kernel
theorem dL_law_481 : decode cL_law 481 = .ok (.iconst 1, 1) := by decide +kernel
theorem dL_law_482 : decode cL_law 482 = .ok (.iadd, 1) := by decide +kernel
theorem dL_law_483 : decode cL_law 483 = .ok (.iaload, 1) := by decide +kernel
theorem dL_law_484 : decode cL_law 484 = .ok (.aload_n 0, 1) := by decide +kernel
theorem dL_law_485 : decode cL_law 485 = .ok (.iload 4, 2) := by decide +kernel
theorem dL_law_487 : decode cL_law 487 = .ok (.iconst 2, 1) := by decide +kernel
theorem dL_law_488 : decode cL_law 488 = .ok (.iadd, 1) := by decide +kernel
theorem dL_law_489 : decode cL_law 489 = .ok (.iaload, 1) := by decide +kernel
theorem dL_law_490 : decode cL_law 490 = .ok (.aload_n 0, 1) := by decide +kernel
theorem dL_law_491 : decode cL_law 491 = .ok (.iload 4, 2) := by decide +kernel
theorem dL_law_493 : decode cL_law 493 = .ok (.iconst 3, 1) := by decide +kernel
theorem dL_law_494 : decode cL_law 494 = .ok (.iadd, 1) := by decide +kernel
theorem dL_law_495 : decode cL_law 495 = .ok (.iaload, 1) := by decide +kernel
theorem dL_law_496 : decode cL_law 496 = .ok (.aload_n 3, 1) := by decide +kernel
theorem dL_law_497 : decode cL_law 497 = .ok (.invokestatic 65, 3) := by decide +kernel
theorem dL_law_500 : decode cL_law 500 = .ok (.istore 5, 2) := by decide +kernel
theorem dL_law_502 : decode cL_law 502 = .ok (.aload_n 2, 1) := by decide +kernel
theorem dL_law_503 : decode cL_law 503 = .ok (.aload_n 0, 1) := by decide +kernel
theorem dL_law_504 : decode cL_law 504 = .ok (.iload 4, 2) := by decide +kernel
theorem dL_law_506 : decode cL_law 506 = .ok (.iconst 1, 1) := by decide +kernel
theorem dL_law_507 : decode cL_law 507 = .ok (.iadd, 1) := by decide +kernel
theorem dL_law_508 : decode cL_law 508 = .ok (.iaload, 1) := by decide +kernel
theorem dL_law_509 : decode cL_law 509 = .ok (.aload_n 0, 1) := by decide +kernel
theorem dL_law_510 : decode cL_law 510 = .ok (.iload 4, 2) := by decide +kernel
theorem dL_law_512 : decode cL_law 512 = .ok (.iconst 2, 1) := by decide +kernel
theorem dL_law_513 : decode cL_law 513 = .ok (.iadd, 1) := by decide +kernel
theorem dL_law_514 : decode cL_law 514 = .ok (.iaload, 1) := by decide +kernel
theorem dL_law_515 : decode cL_law 515 = .ok (.aload_n 0, 1) := by decide +kernel
theorem dL_law_516 : decode cL_law 516 = .ok (.iload 4, 2) := by decide +kernel
theorem dL_law_518 : decode cL_law 518 = .ok (.iconst 3, 1) := by decide +kernel
theorem dL_law_519 : decode cL_law 519 = .ok (.iadd, 1) := by decide +kernel
theorem dL_law_520 : decode cL_law 520 = .ok (.iaload, 1) := by decide +kernel
theorem dL_law_521 : decode cL_law 521 = .ok (.invokevirtual 70, 3) := by decide +kernel
theorem dL_law_524 : decode cL_law 524 = .ok (.istore 6, 2) := by decide +kernel
theorem dL_law_526 : decode cL_law 526 = .ok (.aload_n 2, 1) := by decide +kernel
theorem dL_law_527 : decode cL_law 527 = .ok (.invokevirtual 71, 3) := by decide +kernel
theorem dL_law_530 : decode cL_law 530 = .ok (.iload 5, 2) := by decide +kernel
theorem dL_law_532 : decode cL_law 532 = .ok (.if_icmp .eq 5, 3) := by decide +kernel
theorem dL_law_535 : decode cL_law 535 = .ok (.iconst 0, 1) := by decide +kernel
theorem dL_law_536 : decode cL_law 536 = .ok (.ireturn, 1) := by decide +kernel
theorem dL_law_537 : decode cL_law 537 = .ok (.iload 5, 2) := by decide +kernel
theorem dL_law_539 : decode cL_law 539 = .ok (.ifCond .ne 15, 3) := by decide +kernel
theorem dL_law_542 : decode cL_law 542 = .ok (.aload_n 3, 1) := by decide +kernel
theorem dL_law_543 : decode cL_law 543 = .ok (.iconst 0, 1) := by decide +kernel
theorem dL_law_544 : decode cL_law 544 = .ok (.laload, 1) := by decide +kernel
theorem dL_law_545 : decode cL_law 545 = .ok (.iload 6, 2) := by decide +kernel
theorem dL_law_547 : decode cL_law 547 = .ok (.i2l, 1) := by decide +kernel
theorem dL_law_548 : decode cL_law 548 = .ok (.lcmp, 1) := by decide +kernel
theorem dL_law_549 : decode cL_law 549 = .ok (.ifCond .eq 5, 3) := by decide +kernel
theorem dL_law_552 : decode cL_law 552 = .ok (.iconst 0, 1) := by decide +kernel
theorem dL_law_553 : decode cL_law 553 = .ok (.ireturn, 1) := by decide +kernel
theorem dL_law_554 : decode cL_law 554 = .ok (.goto 219, 3) := by decide +kernel
theorem dL_law_557 : decode cL_law 557 = .ok (.aload_n 1, 1) := by decide +kernel
theorem dL_law_558 : decode cL_law 558 = .ok (.aload_n 0, 1) := by decide +kernel
theorem dL_law_559 : decode cL_law 559 = .ok (.iload 4, 2) := by decide +kernel
theorem dL_law_561 : decode cL_law 561 = .ok (.iconst 1, 1) := by decide +kernel
theorem dL_law_562 : decode cL_law 562 = .ok (.iadd, 1) := by decide +kernel
theorem dL_law_563 : decode cL_law 563 = .ok (.iaload, 1) := by decide +kernel
theorem dL_law_564 : decode cL_law 564 = .ok (.aload_n 0, 1) := by decide +kernel
theorem dL_law_565 : decode cL_law 565 = .ok (.iload 4, 2) := by decide +kernel
theorem dL_law_567 : decode cL_law 567 = .ok (.iconst 2, 1) := by decide +kernel
theorem dL_law_568 : decode cL_law 568 = .ok (.iadd, 1) := by decide +kernel
theorem dL_law_569 : decode cL_law 569 = .ok (.iaload, 1) := by decide +kernel
theorem dL_law_570 : decode cL_law 570 = .ok (.invokevirtual 74, 3) := by decide +kernel
theorem dL_law_573 : decode cL_law 573 = .ok (.aload_n 2, 1) := by decide +kernel
theorem dL_law_574 : decode cL_law 574 = .ok (.aload_n 0, 1) := by decide +kernel
theorem dL_law_575 : decode cL_law 575 = .ok (.iload 4, 2) := by decide +kernel
theorem dL_law_577 : decode cL_law 577 = .ok (.iconst 1, 1) := by decide +kernel
theorem dL_law_578 : decode cL_law 578 = .ok (.iadd, 1) := by decide +kernel
theorem dL_law_579 : decode cL_law 579 = .ok (.iaload, 1) := by decide +kernel
theorem dL_law_580 : decode cL_law 580 = .ok (.aload_n 0, 1) := by decide +kernel
theorem dL_law_581 : decode cL_law 581 = .ok (.iload 4, 2) := by decide +kernel
theorem dL_law_583 : decode cL_law 583 = .ok (.iconst 2, 1) := by decide +kernel
theorem dL_law_584 : decode cL_law 584 = .ok (.iadd, 1) := by decide +kernel
theorem dL_law_585 : decode cL_law 585 = .ok (.iaload, 1) := by decide +kernel
theorem dL_law_586 : decode cL_law 586 = .ok (.invokevirtual 77, 3) := by decide +kernel
theorem dL_law_589 : decode cL_law 589 = .ok (.if_icmp .eq 184, 3) := by decide +kernel
theorem dL_law_592 : decode cL_law 592 = .ok (.iconst 0, 1) := by decide +kernel
theorem dL_law_593 : decode cL_law 593 = .ok (.ireturn, 1) := by decide +kernel
theorem dL_law_594 : decode cL_law 594 = .ok (.aload_n 1, 1) := by decide +kernel
theorem dL_law_595 : decode cL_law 595 = .ok (.aload_n 0, 1) := by decide +kernel
theorem dL_law_596 : decode cL_law 596 = .ok (.iload 4, 2) := by decide +kernel
theorem dL_law_598 : decode cL_law 598 = .ok (.iconst 1, 1) := by decide +kernel
theorem dL_law_599 : decode cL_law 599 = .ok (.iadd, 1) := by decide +kernel
theorem dL_law_600 : decode cL_law 600 = .ok (.iaload, 1) := by decide +kernel
theorem dL_law_601 : decode cL_law 601 = .ok (.aload_n 0, 1) := by decide +kernel
theorem dL_law_602 : decode cL_law 602 = .ok (.iload 4, 2) := by decide +kernel
theorem dL_law_604 : decode cL_law 604 = .ok (.iconst 2, 1) := by decide +kernel
theorem dL_law_605 : decode cL_law 605 = .ok (.iadd, 1) := by decide +kernel
theorem dL_law_606 : decode cL_law 606 = .ok (.iaload, 1) := by decide +kernel
theorem dL_law_607 : decode cL_law 607 = .ok (.aload_n 0, 1) := by decide +kernel
theorem dL_law_608 : decode cL_law 608 = .ok (.iload 4, 2) := by decide +kernel
theorem dL_law_610 : decode cL_law 610 = .ok (.iconst 3, 1) := by decide +kernel
theorem dL_law_611 : decode cL_law 611 = .ok (.iadd, 1) := by decide +kernel
theorem dL_law_612 : decode cL_law 612 = .ok (.iaload, 1) := by decide +kernel
theorem dL_law_613 : decode cL_law 613 = .ok (.invokevirtual 78, 3) := by decide +kernel
theorem dL_law_616 : decode cL_law 616 = .ok (.aload_n 2, 1) := by decide +kernel
theorem dL_law_617 : decode cL_law 617 = .ok (.aload_n 0, 1) := by decide +kernel
theorem dL_law_618 : decode cL_law 618 = .ok (.iload 4, 2) := by decide +kernel
theorem dL_law_620 : decode cL_law 620 = .ok (.iconst 1, 1) := by decide +kernel
theorem dL_law_621 : decode cL_law 621 = .ok (.iadd, 1) := by decide +kernel
theorem dL_law_622 : decode cL_law 622 = .ok (.iaload, 1) := by decide +kernel
theorem dL_law_623 : decode cL_law 623 = .ok (.aload_n 0, 1) := by decide +kernel
theorem dL_law_624 : decode cL_law 624 = .ok (.iload 4, 2) := by decide +kernel
theorem dL_law_626 : decode cL_law 626 = .ok (.iconst 2, 1) := by decide +kernel
theorem dL_law_627 : decode cL_law 627 = .ok (.iadd, 1) := by decide +kernel
theorem dL_law_628 : decode cL_law 628 = .ok (.iaload, 1) := by decide +kernel
theorem dL_law_629 : decode cL_law 629 = .ok (.aload_n 0, 1) := by decide +kernel
theorem dL_law_630 : decode cL_law 630 = .ok (.iload 4, 2) := by decide +kernel
theorem dL_law_632 : decode cL_law 632 = .ok (.iconst 3, 1) := by decide +kernel
theorem dL_law_633 : decode cL_law 633 = .ok (.iadd, 1) := by decide +kernel
theorem dL_law_634 : decode cL_law 634 = .ok (.iaload, 1) := by decide +kernel
theorem dL_law_635 : decode cL_law 635 = .ok (.invokevirtual 81, 3) := by decide +kernel
theorem dL_law_638 : decode cL_law 638 = .ok (.if_icmp .eq 135, 3) := by decide +kernel
theorem dL_law_641 : decode cL_law 641 = .ok (.iconst 0, 1) := by decide +kernel
theorem dL_law_642 : decode cL_law 642 = .ok (.ireturn, 1) := by decide +kernel
theorem dL_law_643 : decode cL_law 643 = .ok (.aload_n 1, 1) := by decide +kernel
theorem dL_law_644 : decode cL_law 644 = .ok (.aload_n 0, 1) := by decide +kernel
theorem dL_law_645 : decode cL_law 645 = .ok (.iload 4, 2) := by decide +kernel
theorem dL_law_647 : decode cL_law 647 = .ok (.iconst 1, 1) := by decide +kernel
theorem dL_law_648 : decode cL_law 648 = .ok (.iadd, 1) := by decide +kernel
theorem dL_law_649 : decode cL_law 649 = .ok (.iaload, 1) := by decide +kernel
theorem dL_law_650 : decode cL_law 650 = .ok (.aload_n 0, 1) := by decide +kernel
theorem dL_law_651 : decode cL_law 651 = .ok (.iload 4, 2) := by decide +kernel
theorem dL_law_653 : decode cL_law 653 = .ok (.iconst 2, 1) := by decide +kernel
theorem dL_law_654 : decode cL_law 654 = .ok (.iadd, 1) := by decide +kernel
theorem dL_law_655 : decode cL_law 655 = .ok (.iaload, 1) := by decide +kernel
theorem dL_law_656 : decode cL_law 656 = .ok (.invokevirtual 82, 3) := by decide +kernel
theorem dL_law_659 : decode cL_law 659 = .ok (.aload_n 2, 1) := by decide +kernel
theorem dL_law_660 : decode cL_law 660 = .ok (.aload_n 0, 1) := by decide +kernel
theorem dL_law_661 : decode cL_law 661 = .ok (.iload 4, 2) := by decide +kernel
theorem dL_law_663 : decode cL_law 663 = .ok (.iconst 1, 1) := by decide +kernel
theorem dL_law_664 : decode cL_law 664 = .ok (.iadd, 1) := by decide +kernel
theorem dL_law_665 : decode cL_law 665 = .ok (.iaload, 1) := by decide +kernel
theorem dL_law_666 : decode cL_law 666 = .ok (.aload_n 0, 1) := by decide +kernel
theorem dL_law_667 : decode cL_law 667 = .ok (.iload 4, 2) := by decide +kernel
theorem dL_law_669 : decode cL_law 669 = .ok (.iconst 2, 1) := by decide +kernel
theorem dL_law_670 : decode cL_law 670 = .ok (.iadd, 1) := by decide +kernel
theorem dL_law_671 : decode cL_law 671 = .ok (.iaload, 1) := by decide +kernel
theorem dL_law_672 : decode cL_law 672 = .ok (.invokevirtual 85, 3) := by decide +kernel
theorem dL_law_675 : decode cL_law 675 = .ok (.if_icmp .eq 98, 3) := by decide +kernel
theorem dL_law_678 : decode cL_law 678 = .ok (.iconst 0, 1) := by decide +kernel
theorem dL_law_679 : decode cL_law 679 = .ok (.ireturn, 1) := by decide +kernel
theorem dL_law_680 : decode cL_law 680 = .ok (.aload_n 1, 1) := by decide +kernel
theorem dL_law_681 : decode cL_law 681 = .ok (.aload_n 0, 1) := by decide +kernel
theorem dL_law_682 : decode cL_law 682 = .ok (.iload 4, 2) := by decide +kernel
theorem dL_law_684 : decode cL_law 684 = .ok (.iconst 1, 1) := by decide +kernel
theorem dL_law_685 : decode cL_law 685 = .ok (.iadd, 1) := by decide +kernel
theorem dL_law_686 : decode cL_law 686 = .ok (.iaload, 1) := by decide +kernel
theorem dL_law_687 : decode cL_law 687 = .ok (.aload_n 0, 1) := by decide +kernel
theorem dL_law_688 : decode cL_law 688 = .ok (.iload 4, 2) := by decide +kernel
theorem dL_law_690 : decode cL_law 690 = .ok (.iconst 2, 1) := by decide +kernel
theorem dL_law_691 : decode cL_law 691 = .ok (.iadd, 1) := by decide +kernel
theorem dL_law_692 : decode cL_law 692 = .ok (.iaload, 1) := by decide +kernel
theorem dL_law_693 : decode cL_law 693 = .ok (.aload_n 3, 1) := by decide +kernel
theorem dL_law_694 : decode cL_law 694 = .ok (.invokestatic 86, 3) := by decide +kernel
theorem dL_law_697 : decode cL_law 697 = .ok (.istore 5, 2) := by decide +kernel
theorem dL_law_699 : decode cL_law 699 = .ok (.aload_n 2, 1) := by decide +kernel
theorem dL_law_700 : decode cL_law 700 = .ok (.aload_n 0, 1) := by decide +kernel
theorem dL_law_701 : decode cL_law 701 = .ok (.iload 4, 2) := by decide +kernel
theorem dL_law_703 : decode cL_law 703 = .ok (.iconst 1, 1) := by decide +kernel
theorem dL_law_704 : decode cL_law 704 = .ok (.iadd, 1) := by decide +kernel
theorem dL_law_705 : decode cL_law 705 = .ok (.iaload, 1) := by decide +kernel
theorem dL_law_706 : decode cL_law 706 = .ok (.aload_n 0, 1) := by decide +kernel
theorem dL_law_707 : decode cL_law 707 = .ok (.iload 4, 2) := by decide +kernel
theorem dL_law_709 : decode cL_law 709 = .ok (.iconst 2, 1) := by decide +kernel
theorem dL_law_710 : decode cL_law 710 = .ok (.iadd, 1) := by decide +kernel
theorem dL_law_711 : decode cL_law 711 = .ok (.iaload, 1) := by decide +kernel
theorem dL_law_712 : decode cL_law 712 = .ok (.invokevirtual 89, 3) := by decide +kernel
theorem dL_law_715 : decode cL_law 715 = .ok (.istore 6, 2) := by decide +kernel
theorem dL_law_717 : decode cL_law 717 = .ok (.aload_n 2, 1) := by decide +kernel
theorem dL_law_718 : decode cL_law 718 = .ok (.invokevirtual 71, 3) := by decide +kernel
theorem dL_law_721 : decode cL_law 721 = .ok (.iload 5, 2) := by decide +kernel
theorem dL_law_723 : decode cL_law 723 = .ok (.if_icmp .eq 5, 3) := by decide +kernel
theorem dL_law_726 : decode cL_law 726 = .ok (.iconst 0, 1) := by decide +kernel
theorem dL_law_727 : decode cL_law 727 = .ok (.ireturn, 1) := by decide +kernel
theorem dL_law_728 : decode cL_law 728 = .ok (.iload 5, 2) := by decide +kernel
theorem dL_law_730 : decode cL_law 730 = .ok (.ifCond .ne 15, 3) := by decide +kernel
theorem dL_law_733 : decode cL_law 733 = .ok (.aload_n 3, 1) := by decide +kernel
theorem dL_law_734 : decode cL_law 734 = .ok (.iconst 0, 1) := by decide +kernel
theorem dL_law_735 : decode cL_law 735 = .ok (.laload, 1) := by decide +kernel
theorem dL_law_736 : decode cL_law 736 = .ok (.iload 6, 2) := by decide +kernel
theorem dL_law_738 : decode cL_law 738 = .ok (.i2l, 1) := by decide +kernel
theorem dL_law_739 : decode cL_law 739 = .ok (.lcmp, 1) := by decide +kernel
theorem dL_law_740 : decode cL_law 740 = .ok (.ifCond .eq 5, 3) := by decide +kernel
theorem dL_law_743 : decode cL_law 743 = .ok (.iconst 0, 1) := by decide +kernel
theorem dL_law_744 : decode cL_law 744 = .ok (.ireturn, 1) := by decide +kernel
theorem dL_law_745 : decode cL_law 745 = .ok (.goto 28, 3) := by decide +kernel
theorem dL_law_748 : decode cL_law 748 = .ok (.aload_n 1, 1) := by decide +kernel
theorem dL_law_749 : decode cL_law 749 = .ok (.aload_n 0, 1) := by decide +kernel
theorem dL_law_750 : decode cL_law 750 = .ok (.iload 4, 2) := by decide +kernel
theorem dL_law_752 : decode cL_law 752 = .ok (.iconst 1, 1) := by decide +kernel
theorem dL_law_753 : decode cL_law 753 = .ok (.iadd, 1) := by decide +kernel
theorem dL_law_754 : decode cL_law 754 = .ok (.iaload, 1) := by decide +kernel
theorem dL_law_755 : decode cL_law 755 = .ok (.invokevirtual 90, 3) := by decide +kernel
theorem dL_law_758 : decode cL_law 758 = .ok (.aload_n 2, 1) := by decide +kernel
theorem dL_law_759 : decode cL_law 759 = .ok (.aload_n 0, 1) := by decide +kernel
theorem dL_law_760 : decode cL_law 760 = .ok (.iload 4, 2) := by decide +kernel
theorem dL_law_762 : decode cL_law 762 = .ok (.iconst 1, 1) := by decide +kernel
theorem dL_law_763 : decode cL_law 763 = .ok (.iadd, 1) := by decide +kernel
theorem dL_law_764 : decode cL_law 764 = .ok (.iaload, 1) := by decide +kernel
theorem dL_law_765 : decode cL_law 765 = .ok (.invokevirtual 93, 3) := by decide +kernel
theorem dL_law_768 : decode cL_law 768 = .ok (.if_icmp .eq 5, 3) := by decide +kernel
theorem dL_law_771 : decode cL_law 771 = .ok (.iconst 0, 1) := by decide +kernel
theorem dL_law_772 : decode cL_law 772 = .ok (.ireturn, 1) := by decide +kernel
theorem dL_law_773 : decode cL_law 773 = .ok (.iinc 4 6, 3) := by decide +kernel
theorem dL_law_776 : decode cL_law 776 = .ok (.goto (-753), 3) := by decide +kernel
theorem dL_law_779 : decode cL_law 779 = .ok (.iconst 1, 1) := by decide +kernel
theorem dL_law_780 : decode cL_law 780 = .ok (.ireturn, 1) := by decide +kernel
end
section
/-! THE WALK'S OWN JUDGEMENT: 'At X nL w pc lv st': from the frame at pc with the locals lv and the stack st, over a heap that holds the world w, the machine comes to X's end. X: all that stays the same in a walk. -/
abbrev XT : Type := Program × Launch × Env × Room × State × MethodId × Array Value × List Frame × Method × Code × (State → Prop) × va_G × (Nat → Prop) × Nat × Nat
def At (X : XT) (nL : Nat) (w : va_W) (pc : Nat) (lv : List (Nat × Value)) (st : List Value) : Prop := match X with
  | (p, l, e, R, s, m, args, below, meth, c, Q, D, A, cs, ss) => ∀ (H : Heap) (locs : List Loc) (ls : Array Slot), lv_has ls nL lv → va_P D vwCl w H → va_S A s.heap H locs → W p l e R s m args below meth c H locs cs ss Q (F0 m pc ls st)
def isNest (w : Cond) : Bool := match w with
  | .fieldLinkNest _ _ _ _ _ _ => true
  | .methodLinkNest _ _ _ _ => true
  | _ => false
def gW : List Cond := lw_tbl.filter goodWord
def nW : List Cond := lw_tbl.filter isNest
theorem gW_in {w : Cond} (i : Nat) (h : lw_tbl[i]? = some w) (hg : goodWord w = true) : w ∈ gW := List.mem_filter.mpr ⟨List.mem_of_getElem? h, hg⟩
theorem nW_in {w : Cond} (i : Nat) (h : lw_tbl[i]? = some w) (hg : isNest w = true) : w ∈ nW := List.mem_filter.mpr ⟨List.mem_of_getElem? h, hg⟩
theorem gW_good {w : Cond} (h : w ∈ gW) : (w.onTables && w.keeps) = true ∨ ∃ ty, w = .arrayClass ty := good_of_word (List.mem_filter.mp h).2
abbrev TT : Type := ClassId × ClassId × ClassId
abbrev tyL (T : TT) : List (ClassId × FieldType) := [(T.1, .int), (T.2.1, .boolean), (T.2.2, .long)]
abbrev KT : Type := Launch × va_G × (Nat → Prop) × TT
def Cx (X : XT) (K : KT) (cc : ByteArray) (own : String) (nL fr lo : Nat) : Prop := match X with
  | (p, l, _, R, s, m, args, _, _, c, _, D, A, cs, ss) => p.tables.exec = Jvm.exec ∧ c.code = cc ∧ c.maxLocals = nL ∧ s.vm.findClass own = some m.cls ∧ (∀ w ∈ gW, w.before args s = true) ∧ va_K D vwCl (tyL K.2.2.2) s ∧ (∀ w ∈ nW, va_Nw w s) ∧ R.frames = fr ∧ R.locals = lo ∧ cs ≤ R.cells ∧ ss ≤ R.slots ∧ l = K.1 ∧ D = K.2.1 ∧ A = K.2.2.1
def DX (X : XT) (w : va_W) : Prop := match X with
  | (_, _, _, _, _, _, _, _, _, _, _, _, A, _, _) => va_D A w
section ATR
variable {X : XT} {K : KT} {cc : ByteArray} {own : String} {nL fr lo : Nat} {w : va_W} {pc : Nat} {lv lv' : List (Nat × Value)} {st : List Value}
theorem at_iconst {n : Int} {v : Int32} (C : Cx X K cc own nL fr lo) (d : decode cc pc = .ok (.iconst n, 1)) (hv : Int32.ofInt n = v) (k : At X nL w (pc + 1) lv (.int v :: st)) : At X nL w pc lv st := by
  obtain ⟨p, l, e, R, s, m, args, below, meth, c, Q, D, A, cs, ss⟩ := X
  obtain ⟨hx, hb, hml, hown, hts, hK, hN, hRf, hRl, hcs, hss, hl0, hD0, hA0⟩ := C
  intro H locs ls hl hP hS
  exact lv_iconst hx hb d hv (k H locs ls hl hP hS)
theorem at_bipush {n : Int} {v : Int32} (C : Cx X K cc own nL fr lo) (d : decode cc pc = .ok (.bipush n, 2)) (hv : (Int8.ofInt n).toInt32 = v) (k : At X nL w (pc + 2) lv (.int v :: st)) : At X nL w pc lv st := by
  obtain ⟨p, l, e, R, s, m, args, below, meth, c, Q, D, A, cs, ss⟩ := X
  obtain ⟨hx, hb, hml, hown, hts, hK, hN, hRf, hRl, hcs, hss, hl0, hD0, hA0⟩ := C
  intro H locs ls hl hP hS
  exact lv_bipush hx hb d hv (k H locs ls hl hP hS)
theorem at_sipush {n : Int} {v : Int32} (C : Cx X K cc own nL fr lo) (d : decode cc pc = .ok (.sipush n, 3)) (hv : (Int16.ofInt n).toInt32 = v) (k : At X nL w (pc + 3) lv (.int v :: st)) : At X nL w pc lv st := by
  obtain ⟨p, l, e, R, s, m, args, below, meth, c, Q, D, A, cs, ss⟩ := X
  obtain ⟨hx, hb, hml, hown, hts, hK, hN, hRf, hRl, hcs, hss, hl0, hD0, hA0⟩ := C
  intro H locs ls hl hP hS
  exact lv_sipush hx hb d hv (k H locs ls hl hP hS)
theorem at_lconst {n : Fin 2} {v : Int64} (C : Cx X K cc own nL fr lo) (d : decode cc pc = .ok (.lconst n, 1)) (hv : Int64.ofNat (n : Nat) = v) (k : At X nL w (pc + 1) lv (.long v :: st)) : At X nL w pc lv st := by
  obtain ⟨p, l, e, R, s, m, args, below, meth, c, Q, D, A, cs, ss⟩ := X
  obtain ⟨hx, hb, hml, hown, hts, hK, hN, hRf, hRl, hcs, hss, hl0, hD0, hA0⟩ := C
  intro H locs ls hl hP hS
  exact lv_lconst hx hb d hv (k H locs ls hl hP hS)
theorem at_ldcw {index : Nat} {v : Int32} (C : Cx X K cc own nL fr lo) (hc : Cond.constant own index v ∈ gW) (d : decode cc pc = .ok (.ldc_w index, 3)) (k : At X nL w (pc + 3) lv (.int v :: st)) : At X nL w pc lv st := by
  obtain ⟨p, l, e, R, s, m, args, below, meth, c, Q, D, A, cs, ss⟩ := X
  obtain ⟨hx, hb, hml, hown, hts, hK, hN, hRf, hRl, hcs, hss, hl0, hD0, hA0⟩ := C
  intro H locs ls hl hP hS
  exact lv_ldcw hx hb hown (hts _ hc) d (k H locs ls hl hP hS)
theorem at_ldc2 {index : Nat} {v : Int64} (C : Cx X K cc own nL fr lo) (hc : Cond.constantLong own index v ∈ gW) (d : decode cc pc = .ok (.ldc2_w index, 3)) (k : At X nL w (pc + 3) lv (.long v :: st)) : At X nL w pc lv st := by
  obtain ⟨p, l, e, R, s, m, args, below, meth, c, Q, D, A, cs, ss⟩ := X
  obtain ⟨hx, hb, hml, hown, hts, hK, hN, hRf, hRl, hcs, hss, hl0, hD0, hA0⟩ := C
  intro H locs ls hl hP hS
  exact lv_ldc2 hx hb hown (hts _ hc) d (k H locs ls hl hP hS)
theorem at_iload_n {j : Fin 4} {x : Int32} (C : Cx X K cc own nL fr lo) (d : decode cc pc = .ok (.iload_n j, 1)) (i : Nat) (h : lv[i]? = some ((j : Nat), .int x)) (k : At X nL w (pc + 1) lv (.int x :: st)) : At X nL w pc lv st := by
  obtain ⟨p, l, e, R, s, m, args, below, meth, c, Q, D, A, cs, ss⟩ := X
  obtain ⟨hx, hb, hml, hown, hts, hK, hN, hRf, hRl, hcs, hss, hl0, hD0, hA0⟩ := C
  intro H locs ls hl hP hS
  exact lv_iload_n hx hb d rfl (lv_at hl i h) (k H locs ls hl hP hS)
theorem at_iload {j : Nat} {x : Int32} (C : Cx X K cc own nL fr lo) (d : decode cc pc = .ok (.iload j, 2)) (i : Nat) (h : lv[i]? = some (j, .int x)) (k : At X nL w (pc + 2) lv (.int x :: st)) : At X nL w pc lv st := by
  obtain ⟨p, l, e, R, s, m, args, below, meth, c, Q, D, A, cs, ss⟩ := X
  obtain ⟨hx, hb, hml, hown, hts, hK, hN, hRf, hRl, hcs, hss, hl0, hD0, hA0⟩ := C
  intro H locs ls hl hP hS
  exact lv_iload hx hb d (lv_at hl i h) (k H locs ls hl hP hS)
theorem at_lload_n {j : Fin 4} {x : Int64} (C : Cx X K cc own nL fr lo) (d : decode cc pc = .ok (.lload_n j, 1)) (i : Nat) (h : lv[i]? = some ((j : Nat), .long x)) (k : At X nL w (pc + 1) lv (.long x :: st)) : At X nL w pc lv st := by
  obtain ⟨p, l, e, R, s, m, args, below, meth, c, Q, D, A, cs, ss⟩ := X
  obtain ⟨hx, hb, hml, hown, hts, hK, hN, hRf, hRl, hcs, hss, hl0, hD0, hA0⟩ := C
  intro H locs ls hl hP hS
  exact lv_lload_n hx hb d rfl (lv_at hl i h) (k H locs ls hl hP hS)
theorem at_lload {j : Nat} {x : Int64} (C : Cx X K cc own nL fr lo) (d : decode cc pc = .ok (.lload j, 2)) (i : Nat) (h : lv[i]? = some (j, .long x)) (k : At X nL w (pc + 2) lv (.long x :: st)) : At X nL w pc lv st := by
  obtain ⟨p, l, e, R, s, m, args, below, meth, c, Q, D, A, cs, ss⟩ := X
  obtain ⟨hx, hb, hml, hown, hts, hK, hN, hRf, hRl, hcs, hss, hl0, hD0, hA0⟩ := C
  intro H locs ls hl hP hS
  exact lv_lload hx hb d (lv_at hl i h) (k H locs ls hl hP hS)
theorem at_aload_n {j : Fin 4} {x : Nat} (C : Cx X K cc own nL fr lo) (d : decode cc pc = .ok (.aload_n j, 1)) (i : Nat) (h : lv[i]? = some ((j : Nat), .ref x)) (k : At X nL w (pc + 1) lv (.ref x :: st)) : At X nL w pc lv st := by
  obtain ⟨p, l, e, R, s, m, args, below, meth, c, Q, D, A, cs, ss⟩ := X
  obtain ⟨hx, hb, hml, hown, hts, hK, hN, hRf, hRl, hcs, hss, hl0, hD0, hA0⟩ := C
  intro H locs ls hl hP hS
  exact lv_aload_n hx hb d rfl (lv_at hl i h) (k H locs ls hl hP hS)
theorem at_aload {j : Nat} {x : Nat} (C : Cx X K cc own nL fr lo) (d : decode cc pc = .ok (.aload j, 2)) (i : Nat) (h : lv[i]? = some (j, .ref x)) (k : At X nL w (pc + 2) lv (.ref x :: st)) : At X nL w pc lv st := by
  obtain ⟨p, l, e, R, s, m, args, below, meth, c, Q, D, A, cs, ss⟩ := X
  obtain ⟨hx, hb, hml, hown, hts, hK, hN, hRf, hRl, hcs, hss, hl0, hD0, hA0⟩ := C
  intro H locs ls hl hP hS
  exact lv_aload hx hb d (lv_at hl i h) (k H locs ls hl hP hS)
theorem at_istore {j : Nat} {x : Int32} (C : Cx X K cc own nL fr lo) (d : decode cc pc = .ok (.istore j, 2)) (hn : j < nL) (ks : List Nat) (hs : lv_pick ((j, Value.int x) :: lv.filter (fun q => !(q.1 == j) && !(q.1 + 1 == j && q.2.category == 2))) ks = lv') (k : At X nL w (pc + 2) lv' st) : At X nL w pc lv (.int x :: st) := by
  obtain ⟨p, l, e, R, s, m, args, below, meth, c, Q, D, A, cs, ss⟩ := X
  obtain ⟨hx, hb, hml, hown, hts, hK, hN, hRf, hRl, hcs, hss, hl0, hD0, hA0⟩ := C
  intro H locs ls hl hP hS
  exact lv_istore hx hb d hl hn rfl (fun ls hl => k H locs ls (lv_sub hl ks hs) hP hS)
theorem at_istore_n {j : Fin 4} {x : Int32} (C : Cx X K cc own nL fr lo) (d : decode cc pc = .ok (.istore_n j, 1)) (hn : (j : Nat) < nL) (ks : List Nat) (hs : lv_pick (((j : Nat), Value.int x) :: lv.filter (fun q => !(q.1 == (j : Nat)) && !(q.1 + 1 == (j : Nat) && q.2.category == 2))) ks = lv') (k : At X nL w (pc + 1) lv' st) : At X nL w pc lv (.int x :: st) := by
  obtain ⟨p, l, e, R, s, m, args, below, meth, c, Q, D, A, cs, ss⟩ := X
  obtain ⟨hx, hb, hml, hown, hts, hK, hN, hRf, hRl, hcs, hss, hl0, hD0, hA0⟩ := C
  intro H locs ls hl hP hS
  exact lv_istore_n hx hb d rfl hl hn rfl (fun ls hl => k H locs ls (lv_sub hl ks hs) hP hS)
theorem at_lstore {j : Nat} {x : Int64} (C : Cx X K cc own nL fr lo) (d : decode cc pc = .ok (.lstore j, 2)) (hn : j + 1 < nL) (ks : List Nat) (hs : lv_pick ((j, Value.long x) :: lv.filter (fun q => !(q.1 == j) && (!(q.1 == j + 1) && !(q.1 + 1 == j && q.2.category == 2)))) ks = lv') (k : At X nL w (pc + 2) lv' st) : At X nL w pc lv (.long x :: st) := by
  obtain ⟨p, l, e, R, s, m, args, below, meth, c, Q, D, A, cs, ss⟩ := X
  obtain ⟨hx, hb, hml, hown, hts, hK, hN, hRf, hRl, hcs, hss, hl0, hD0, hA0⟩ := C
  intro H locs ls hl hP hS
  exact lv_lstore hx hb d hl hn rfl (fun ls hl => k H locs ls (lv_sub hl ks hs) hP hS)
theorem at_lstore_n {j : Fin 4} {x : Int64} (C : Cx X K cc own nL fr lo) (d : decode cc pc = .ok (.lstore_n j, 1)) (hn : (j : Nat) + 1 < nL) (ks : List Nat) (hs : lv_pick (((j : Nat), Value.long x) :: lv.filter (fun q => !(q.1 == (j : Nat)) && (!(q.1 == (j : Nat) + 1) && !(q.1 + 1 == (j : Nat) && q.2.category == 2)))) ks = lv') (k : At X nL w (pc + 1) lv' st) : At X nL w pc lv (.long x :: st) := by
  obtain ⟨p, l, e, R, s, m, args, below, meth, c, Q, D, A, cs, ss⟩ := X
  obtain ⟨hx, hb, hml, hown, hts, hK, hN, hRf, hRl, hcs, hss, hl0, hD0, hA0⟩ := C
  intro H locs ls hl hP hS
  exact lv_lstore_n hx hb d rfl hl hn rfl (fun ls hl => k H locs ls (lv_sub hl ks hs) hP hS)
theorem at_iinc {j : Nat} {n : Int} {x v : Int32} (C : Cx X K cc own nL fr lo) (d : decode cc pc = .ok (.iinc j n, 3)) (i : Nat) (h : lv[i]? = some (j, .int x)) (hv : x + Int32.ofInt n = v) (hn : j < nL) (ks : List Nat) (hs : lv_pick ((j, Value.int v) :: lv.filter (fun q => !(q.1 == j) && !(q.1 + 1 == j && q.2.category == 2))) ks = lv') (k : At X nL w (pc + 3) lv' st) : At X nL w pc lv st := by
  obtain ⟨p, l, e, R, s, m, args, below, meth, c, Q, D, A, cs, ss⟩ := X
  obtain ⟨hx, hb, hml, hown, hts, hK, hN, hRf, hRl, hcs, hss, hl0, hD0, hA0⟩ := C
  intro H locs ls hl hP hS
  exact lv_iinc hx hb d hl h hv hn rfl (fun ls hl => k H locs ls (lv_sub hl ks hs) hP hS)
theorem at_sub (ks : List Nat) (hs : lv_pick lv ks = lv') (k : At X nL w pc lv' st) : At X nL w pc lv st := by
  obtain ⟨p, l, e, R, s, m, args, below, meth, c, Q, D, A, cs, ss⟩ := X
  intro H locs ls hl hP hS
  exact k H locs ls (lv_sub hl ks hs) hP hS
theorem at_iadd {x y : Int32} (C : Cx X K cc own nL fr lo) (d : decode cc pc = .ok (.iadd, 1)) (k : At X nL w (pc + 1) lv (.int (x + y) :: st)) : At X nL w pc lv (.int y :: .int x :: st) := by
  obtain ⟨p, l, e, R, s, m, args, below, meth, c, Q, D, A, cs, ss⟩ := X
  obtain ⟨hx, hb, hml, hown, hts, hK, hN, hRf, hRl, hcs, hss, hl0, hD0, hA0⟩ := C
  intro H locs ls hl hP hS
  exact lv_iadd hx hb d (k H locs ls hl hP hS)
theorem at_isub {x y : Int32} (C : Cx X K cc own nL fr lo) (d : decode cc pc = .ok (.isub, 1)) (k : At X nL w (pc + 1) lv (.int (x - y) :: st)) : At X nL w pc lv (.int y :: .int x :: st) := by
  obtain ⟨p, l, e, R, s, m, args, below, meth, c, Q, D, A, cs, ss⟩ := X
  obtain ⟨hx, hb, hml, hown, hts, hK, hN, hRf, hRl, hcs, hss, hl0, hD0, hA0⟩ := C
  intro H locs ls hl hP hS
  exact lv_isub hx hb d (k H locs ls hl hP hS)
theorem at_imul {x y : Int32} (C : Cx X K cc own nL fr lo) (d : decode cc pc = .ok (.imul, 1)) (k : At X nL w (pc + 1) lv (.int (x * y) :: st)) : At X nL w pc lv (.int y :: .int x :: st) := by
  obtain ⟨p, l, e, R, s, m, args, below, meth, c, Q, D, A, cs, ss⟩ := X
  obtain ⟨hx, hb, hml, hown, hts, hK, hN, hRf, hRl, hcs, hss, hl0, hD0, hA0⟩ := C
  intro H locs ls hl hP hS
  exact lv_imul hx hb d (k H locs ls hl hP hS)
theorem at_iand {x y : Int32} (C : Cx X K cc own nL fr lo) (d : decode cc pc = .ok (.iand, 1)) (k : At X nL w (pc + 1) lv (.int (x &&& y) :: st)) : At X nL w pc lv (.int y :: .int x :: st) := by
  obtain ⟨p, l, e, R, s, m, args, below, meth, c, Q, D, A, cs, ss⟩ := X
  obtain ⟨hx, hb, hml, hown, hts, hK, hN, hRf, hRl, hcs, hss, hl0, hD0, hA0⟩ := C
  intro H locs ls hl hP hS
  exact lv_iand hx hb d (k H locs ls hl hP hS)
theorem at_ior {x y : Int32} (C : Cx X K cc own nL fr lo) (d : decode cc pc = .ok (.ior, 1)) (k : At X nL w (pc + 1) lv (.int (x ||| y) :: st)) : At X nL w pc lv (.int y :: .int x :: st) := by
  obtain ⟨p, l, e, R, s, m, args, below, meth, c, Q, D, A, cs, ss⟩ := X
  obtain ⟨hx, hb, hml, hown, hts, hK, hN, hRf, hRl, hcs, hss, hl0, hD0, hA0⟩ := C
  intro H locs ls hl hP hS
  exact lv_ior hx hb d (k H locs ls hl hP hS)
theorem at_ixor {x y : Int32} (C : Cx X K cc own nL fr lo) (d : decode cc pc = .ok (.ixor, 1)) (k : At X nL w (pc + 1) lv (.int (x ^^^ y) :: st)) : At X nL w pc lv (.int y :: .int x :: st) := by
  obtain ⟨p, l, e, R, s, m, args, below, meth, c, Q, D, A, cs, ss⟩ := X
  obtain ⟨hx, hb, hml, hown, hts, hK, hN, hRf, hRl, hcs, hss, hl0, hD0, hA0⟩ := C
  intro H locs ls hl hP hS
  exact lv_ixor hx hb d (k H locs ls hl hP hS)
theorem at_ishl {x y : Int32} (C : Cx X K cc own nL fr lo) (d : decode cc pc = .ok (.ishl, 1)) (k : At X nL w (pc + 1) lv (.int (x <<< (y &&& 31)) :: st)) : At X nL w pc lv (.int y :: .int x :: st) := by
  obtain ⟨p, l, e, R, s, m, args, below, meth, c, Q, D, A, cs, ss⟩ := X
  obtain ⟨hx, hb, hml, hown, hts, hK, hN, hRf, hRl, hcs, hss, hl0, hD0, hA0⟩ := C
  intro H locs ls hl hP hS
  exact lv_ishl hx hb d (k H locs ls hl hP hS)
theorem at_iushr {x y : Int32} (C : Cx X K cc own nL fr lo) (d : decode cc pc = .ok (.iushr, 1)) (k : At X nL w (pc + 1) lv (.int (x.toUInt32 >>> (y.toUInt32 &&& Int32.toUInt32 31)).toInt32 :: st)) : At X nL w pc lv (.int y :: .int x :: st) := by
  obtain ⟨p, l, e, R, s, m, args, below, meth, c, Q, D, A, cs, ss⟩ := X
  obtain ⟨hx, hb, hml, hown, hts, hK, hN, hRf, hRl, hcs, hss, hl0, hD0, hA0⟩ := C
  intro H locs ls hl hP hS
  exact lv_iushr hx hb d rfl (k H locs ls hl hP hS)
theorem at_idiv {x y : Int32} (C : Cx X K cc own nL fr lo) (d : decode cc pc = .ok (.idiv, 1)) (hne : ¬ y = 0) (k : At X nL w (pc + 1) lv (.int (x / y) :: st)) : At X nL w pc lv (.int y :: .int x :: st) := by
  obtain ⟨p, l, e, R, s, m, args, below, meth, c, Q, D, A, cs, ss⟩ := X
  obtain ⟨hx, hb, hml, hown, hts, hK, hN, hRf, hRl, hcs, hss, hl0, hD0, hA0⟩ := C
  intro H locs ls hl hP hS
  exact lv_idiv hx hb d hne (k H locs ls hl hP hS)
theorem at_irem {x y : Int32} (C : Cx X K cc own nL fr lo) (d : decode cc pc = .ok (.irem, 1)) (hne : ¬ y = 0) (k : At X nL w (pc + 1) lv (.int (x - x / y * y) :: st)) : At X nL w pc lv (.int y :: .int x :: st) := by
  obtain ⟨p, l, e, R, s, m, args, below, meth, c, Q, D, A, cs, ss⟩ := X
  obtain ⟨hx, hb, hml, hown, hts, hK, hN, hRf, hRl, hcs, hss, hl0, hD0, hA0⟩ := C
  intro H locs ls hl hP hS
  exact lv_irem hx hb d hne (k H locs ls hl hP hS)
theorem at_ladd {x y : Int64} (C : Cx X K cc own nL fr lo) (d : decode cc pc = .ok (.ladd, 1)) (k : At X nL w (pc + 1) lv (.long (x + y) :: st)) : At X nL w pc lv (.long y :: .long x :: st) := by
  obtain ⟨p, l, e, R, s, m, args, below, meth, c, Q, D, A, cs, ss⟩ := X
  obtain ⟨hx, hb, hml, hown, hts, hK, hN, hRf, hRl, hcs, hss, hl0, hD0, hA0⟩ := C
  intro H locs ls hl hP hS
  exact lv_ladd hx hb d (k H locs ls hl hP hS)
theorem at_lmul {x y : Int64} (C : Cx X K cc own nL fr lo) (d : decode cc pc = .ok (.lmul, 1)) (k : At X nL w (pc + 1) lv (.long (x * y) :: st)) : At X nL w pc lv (.long y :: .long x :: st) := by
  obtain ⟨p, l, e, R, s, m, args, below, meth, c, Q, D, A, cs, ss⟩ := X
  obtain ⟨hx, hb, hml, hown, hts, hK, hN, hRf, hRl, hcs, hss, hl0, hD0, hA0⟩ := C
  intro H locs ls hl hP hS
  exact lv_lmul hx hb d (k H locs ls hl hP hS)
theorem at_ldiv {x y : Int64} (C : Cx X K cc own nL fr lo) (d : decode cc pc = .ok (.ldiv, 1)) (hne : ¬ y = 0) (k : At X nL w (pc + 1) lv (.long (x / y) :: st)) : At X nL w pc lv (.long y :: .long x :: st) := by
  obtain ⟨p, l, e, R, s, m, args, below, meth, c, Q, D, A, cs, ss⟩ := X
  obtain ⟨hx, hb, hml, hown, hts, hK, hN, hRf, hRl, hcs, hss, hl0, hD0, hA0⟩ := C
  intro H locs ls hl hP hS
  exact lv_ldiv hx hb d hne (k H locs ls hl hP hS)
theorem at_lcmp {x y : Int64} (C : Cx X K cc own nL fr lo) (d : decode cc pc = .ok (.lcmp, 1)) (k : At X nL w (pc + 1) lv (.int (lg_cmp x y) :: st)) : At X nL w pc lv (.long y :: .long x :: st) := by
  obtain ⟨p, l, e, R, s, m, args, below, meth, c, Q, D, A, cs, ss⟩ := X
  obtain ⟨hx, hb, hml, hown, hts, hK, hN, hRf, hRl, hcs, hss, hl0, hD0, hA0⟩ := C
  intro H locs ls hl hP hS
  exact W.lcmp hx hb d (k H locs ls hl hP hS)
theorem at_i2l {x : Int32} (C : Cx X K cc own nL fr lo) (d : decode cc pc = .ok (.i2l, 1)) (k : At X nL w (pc + 1) lv (.long x.toInt64 :: st)) : At X nL w pc lv (.int x :: st) := by
  obtain ⟨p, l, e, R, s, m, args, below, meth, c, Q, D, A, cs, ss⟩ := X
  obtain ⟨hx, hb, hml, hown, hts, hK, hN, hRf, hRl, hcs, hss, hl0, hD0, hA0⟩ := C
  intro H locs ls hl hP hS
  exact lv_i2l hx hb d rfl (k H locs ls hl hP hS)
theorem at_l2i {x : Int64} (C : Cx X K cc own nL fr lo) (d : decode cc pc = .ok (.l2i, 1)) (k : At X nL w (pc + 1) lv (.int x.toInt32 :: st)) : At X nL w pc lv (.long x :: st) := by
  obtain ⟨p, l, e, R, s, m, args, below, meth, c, Q, D, A, cs, ss⟩ := X
  obtain ⟨hx, hb, hml, hown, hts, hK, hN, hRf, hRl, hcs, hss, hl0, hD0, hA0⟩ := C
  intro H locs ls hl hP hS
  exact lv_l2i hx hb d rfl (k H locs ls hl hP hS)
theorem at_dup {v : Value} (C : Cx X K cc own nL fr lo) (d : decode cc pc = .ok (.dup, 1)) (hv : v.category = 1) (k : At X nL w (pc + 1) lv (v :: v :: st)) : At X nL w pc lv (v :: st) := by
  obtain ⟨p, l, e, R, s, m, args, below, meth, c, Q, D, A, cs, ss⟩ := X
  obtain ⟨hx, hb, hml, hown, hts, hK, hN, hRf, hRl, hcs, hss, hl0, hD0, hA0⟩ := C
  intro H locs ls hl hP hS
  exact lv_dup hx hb d hv (k H locs ls hl hP hS)
theorem at_dup2 {v u : Value} (C : Cx X K cc own nL fr lo) (d : decode cc pc = .ok (.dup2, 1)) (hv : v.category = 1) (hu : u.category = 1) (k : At X nL w (pc + 1) lv (v :: u :: v :: u :: st)) : At X nL w pc lv (v :: u :: st) := by
  obtain ⟨p, l, e, R, s, m, args, below, meth, c, Q, D, A, cs, ss⟩ := X
  obtain ⟨hx, hb, hml, hown, hts, hK, hN, hRf, hRl, hcs, hss, hl0, hD0, hA0⟩ := C
  intro H locs ls hl hP hS
  exact lv_dup2_11 hx hb d hv hu (k H locs ls hl hP hS)
theorem at_pop {v : Value} (C : Cx X K cc own nL fr lo) (d : decode cc pc = .ok (.pop, 1)) (hv : v.category = 1) (k : At X nL w (pc + 1) lv st) : At X nL w pc lv (v :: st) := by
  obtain ⟨p, l, e, R, s, m, args, below, meth, c, Q, D, A, cs, ss⟩ := X
  obtain ⟨hx, hb, hml, hown, hts, hK, hN, hRf, hRl, hcs, hss, hl0, hD0, hA0⟩ := C
  intro H locs ls hl hP hS
  exact lv_pop hx hb d hv (k H locs ls hl hP hS)
theorem at_if_eq {x : Int32} {off : Int} {tgt : Nat} (C : Cx X K cc own nL fr lo) (d : decode cc pc = .ok (.ifCond .eq off, 3)) (ht : (pc : Int) + off = (tgt : Int)) (kt : x = 0 → At X nL w tgt lv st) (kf : ¬ x = 0 → At X nL w (pc + 3) lv st) : At X nL w pc lv (.int x :: st) := by
  obtain ⟨p, l, e, R, s, m, args, below, meth, c, Q, D, A, cs, ss⟩ := X
  obtain ⟨hx, hb, hml, hown, hts, hK, hN, hRf, hRl, hcs, hss, hl0, hD0, hA0⟩ := C
  intro H locs ls hl hP hS
  exact lv_if_eq hx hb d ht (fun h => kt h H locs ls hl hP hS) (fun h => kf h H locs ls hl hP hS)
theorem at_if_ne {x : Int32} {off : Int} {tgt : Nat} (C : Cx X K cc own nL fr lo) (d : decode cc pc = .ok (.ifCond .ne off, 3)) (ht : (pc : Int) + off = (tgt : Int)) (kt : ¬ x = 0 → At X nL w tgt lv st) (kf : x = 0 → At X nL w (pc + 3) lv st) : At X nL w pc lv (.int x :: st) := by
  obtain ⟨p, l, e, R, s, m, args, below, meth, c, Q, D, A, cs, ss⟩ := X
  obtain ⟨hx, hb, hml, hown, hts, hK, hN, hRf, hRl, hcs, hss, hl0, hD0, hA0⟩ := C
  intro H locs ls hl hP hS
  exact lv_if_ne hx hb d ht (fun h => kt h H locs ls hl hP hS) (fun h => kf h H locs ls hl hP hS)
theorem at_if_lt {x : Int32} {off : Int} {tgt : Nat} (C : Cx X K cc own nL fr lo) (d : decode cc pc = .ok (.ifCond .lt off, 3)) (ht : (pc : Int) + off = (tgt : Int)) (kt : x < 0 → At X nL w tgt lv st) (kf : ¬ x < 0 → At X nL w (pc + 3) lv st) : At X nL w pc lv (.int x :: st) := by
  obtain ⟨p, l, e, R, s, m, args, below, meth, c, Q, D, A, cs, ss⟩ := X
  obtain ⟨hx, hb, hml, hown, hts, hK, hN, hRf, hRl, hcs, hss, hl0, hD0, hA0⟩ := C
  intro H locs ls hl hP hS
  exact lv_if_lt hx hb d ht (fun h => kt h H locs ls hl hP hS) (fun h => kf h H locs ls hl hP hS)
theorem at_if_ge {x : Int32} {off : Int} {tgt : Nat} (C : Cx X K cc own nL fr lo) (d : decode cc pc = .ok (.ifCond .ge off, 3)) (ht : (pc : Int) + off = (tgt : Int)) (kt : 0 ≤ x → At X nL w tgt lv st) (kf : ¬ 0 ≤ x → At X nL w (pc + 3) lv st) : At X nL w pc lv (.int x :: st) := by
  obtain ⟨p, l, e, R, s, m, args, below, meth, c, Q, D, A, cs, ss⟩ := X
  obtain ⟨hx, hb, hml, hown, hts, hK, hN, hRf, hRl, hcs, hss, hl0, hD0, hA0⟩ := C
  intro H locs ls hl hP hS
  exact lv_if_ge hx hb d ht (fun h => kt h H locs ls hl hP hS) (fun h => kf h H locs ls hl hP hS)
theorem at_if_gt {x : Int32} {off : Int} {tgt : Nat} (C : Cx X K cc own nL fr lo) (d : decode cc pc = .ok (.ifCond .gt off, 3)) (ht : (pc : Int) + off = (tgt : Int)) (kt : 0 < x → At X nL w tgt lv st) (kf : ¬ 0 < x → At X nL w (pc + 3) lv st) : At X nL w pc lv (.int x :: st) := by
  obtain ⟨p, l, e, R, s, m, args, below, meth, c, Q, D, A, cs, ss⟩ := X
  obtain ⟨hx, hb, hml, hown, hts, hK, hN, hRf, hRl, hcs, hss, hl0, hD0, hA0⟩ := C
  intro H locs ls hl hP hS
  exact lv_if_gt hx hb d ht (fun h => kt h H locs ls hl hP hS) (fun h => kf h H locs ls hl hP hS)
theorem at_if_le {x : Int32} {off : Int} {tgt : Nat} (C : Cx X K cc own nL fr lo) (d : decode cc pc = .ok (.ifCond .le off, 3)) (ht : (pc : Int) + off = (tgt : Int)) (kt : x ≤ 0 → At X nL w tgt lv st) (kf : ¬ x ≤ 0 → At X nL w (pc + 3) lv st) : At X nL w pc lv (.int x :: st) := by
  obtain ⟨p, l, e, R, s, m, args, below, meth, c, Q, D, A, cs, ss⟩ := X
  obtain ⟨hx, hb, hml, hown, hts, hK, hN, hRf, hRl, hcs, hss, hl0, hD0, hA0⟩ := C
  intro H locs ls hl hP hS
  exact lv_if_le hx hb d ht (fun h => kt h H locs ls hl hP hS) (fun h => kf h H locs ls hl hP hS)
theorem at_icmp_eq {x y : Int32} {off : Int} {tgt : Nat} (C : Cx X K cc own nL fr lo) (d : decode cc pc = .ok (.if_icmp .eq off, 3)) (ht : (pc : Int) + off = (tgt : Int)) (kt : x = y → At X nL w tgt lv st) (kf : ¬ x = y → At X nL w (pc + 3) lv st) : At X nL w pc lv (.int y :: .int x :: st) := by
  obtain ⟨p, l, e, R, s, m, args, below, meth, c, Q, D, A, cs, ss⟩ := X
  obtain ⟨hx, hb, hml, hown, hts, hK, hN, hRf, hRl, hcs, hss, hl0, hD0, hA0⟩ := C
  intro H locs ls hl hP hS
  exact lv_icmp_eq hx hb d ht (fun h => kt h H locs ls hl hP hS) (fun h => kf h H locs ls hl hP hS)
theorem at_icmp_ne {x y : Int32} {off : Int} {tgt : Nat} (C : Cx X K cc own nL fr lo) (d : decode cc pc = .ok (.if_icmp .ne off, 3)) (ht : (pc : Int) + off = (tgt : Int)) (kt : ¬ x = y → At X nL w tgt lv st) (kf : x = y → At X nL w (pc + 3) lv st) : At X nL w pc lv (.int y :: .int x :: st) := by
  obtain ⟨p, l, e, R, s, m, args, below, meth, c, Q, D, A, cs, ss⟩ := X
  obtain ⟨hx, hb, hml, hown, hts, hK, hN, hRf, hRl, hcs, hss, hl0, hD0, hA0⟩ := C
  intro H locs ls hl hP hS
  exact lv_icmp_ne hx hb d ht (fun h => kt h H locs ls hl hP hS) (fun h => kf h H locs ls hl hP hS)
theorem at_icmp_lt {x y : Int32} {off : Int} {tgt : Nat} (C : Cx X K cc own nL fr lo) (d : decode cc pc = .ok (.if_icmp .lt off, 3)) (ht : (pc : Int) + off = (tgt : Int)) (kt : x < y → At X nL w tgt lv st) (kf : ¬ x < y → At X nL w (pc + 3) lv st) : At X nL w pc lv (.int y :: .int x :: st) := by
  obtain ⟨p, l, e, R, s, m, args, below, meth, c, Q, D, A, cs, ss⟩ := X
  obtain ⟨hx, hb, hml, hown, hts, hK, hN, hRf, hRl, hcs, hss, hl0, hD0, hA0⟩ := C
  intro H locs ls hl hP hS
  exact lv_icmp_lt hx hb d ht (fun h => kt h H locs ls hl hP hS) (fun h => kf h H locs ls hl hP hS)
theorem at_icmp_ge {x y : Int32} {off : Int} {tgt : Nat} (C : Cx X K cc own nL fr lo) (d : decode cc pc = .ok (.if_icmp .ge off, 3)) (ht : (pc : Int) + off = (tgt : Int)) (kt : y ≤ x → At X nL w tgt lv st) (kf : ¬ y ≤ x → At X nL w (pc + 3) lv st) : At X nL w pc lv (.int y :: .int x :: st) := by
  obtain ⟨p, l, e, R, s, m, args, below, meth, c, Q, D, A, cs, ss⟩ := X
  obtain ⟨hx, hb, hml, hown, hts, hK, hN, hRf, hRl, hcs, hss, hl0, hD0, hA0⟩ := C
  intro H locs ls hl hP hS
  exact lv_icmp_ge hx hb d ht (fun h => kt h H locs ls hl hP hS) (fun h => kf h H locs ls hl hP hS)
theorem at_icmp_gt {x y : Int32} {off : Int} {tgt : Nat} (C : Cx X K cc own nL fr lo) (d : decode cc pc = .ok (.if_icmp .gt off, 3)) (ht : (pc : Int) + off = (tgt : Int)) (kt : y < x → At X nL w tgt lv st) (kf : ¬ y < x → At X nL w (pc + 3) lv st) : At X nL w pc lv (.int y :: .int x :: st) := by
  obtain ⟨p, l, e, R, s, m, args, below, meth, c, Q, D, A, cs, ss⟩ := X
  obtain ⟨hx, hb, hml, hown, hts, hK, hN, hRf, hRl, hcs, hss, hl0, hD0, hA0⟩ := C
  intro H locs ls hl hP hS
  exact lv_icmp_gt hx hb d ht (fun h => kt h H locs ls hl hP hS) (fun h => kf h H locs ls hl hP hS)
theorem at_icmp_le {x y : Int32} {off : Int} {tgt : Nat} (C : Cx X K cc own nL fr lo) (d : decode cc pc = .ok (.if_icmp .le off, 3)) (ht : (pc : Int) + off = (tgt : Int)) (kt : x ≤ y → At X nL w tgt lv st) (kf : ¬ x ≤ y → At X nL w (pc + 3) lv st) : At X nL w pc lv (.int y :: .int x :: st) := by
  obtain ⟨p, l, e, R, s, m, args, below, meth, c, Q, D, A, cs, ss⟩ := X
  obtain ⟨hx, hb, hml, hown, hts, hK, hN, hRf, hRl, hcs, hss, hl0, hD0, hA0⟩ := C
  intro H locs ls hl hP hS
  exact lv_icmp_le hx hb d ht (fun h => kt h H locs ls hl hP hS) (fun h => kf h H locs ls hl hP hS)
theorem at_goto {off : Int} {tgt : Nat} (C : Cx X K cc own nL fr lo) (d : decode cc pc = .ok (.goto off, 3)) (ht : (pc : Int) + off = (tgt : Int)) (k : At X nL w tgt lv st) : At X nL w pc lv st := by
  obtain ⟨p, l, e, R, s, m, args, below, meth, c, Q, D, A, cs, ss⟩ := X
  obtain ⟨hx, hb, hml, hown, hts, hK, hN, hRf, hRl, hcs, hss, hl0, hD0, hA0⟩ := C
  intro H locs ls hl hP hS
  exact lv_goto hx hb d ht (k H locs ls hl hP hS)
theorem at_tabOut {dflt lw hg : Int} {offs : Array Int} {len : Nat} {x : Int32} {tgt : Nat} (C : Cx X K cc own nL fr lo) (d : decode cc pc = .ok (.tableswitch dflt lw hg offs, len)) (h : x.toInt < lw ∨ hg < x.toInt) (ht : (pc : Int) + dflt = (tgt : Int)) (k : At X nL w tgt lv st) : At X nL w pc lv (.int x :: st) := by
  obtain ⟨p, l, e, R, s, m, args, below, meth, c, Q, D, A, cs, ss⟩ := X
  obtain ⟨hx, hb, hml, hown, hts, hK, hN, hRf, hRl, hcs, hss, hl0, hD0, hA0⟩ := C
  intro H locs ls hl hP hS
  exact lv_tableOut hx hb d h ht (k H locs ls hl hP hS)
theorem at_tabIn {dflt lw hg : Int} {offs : Array Int} {len : Nat} {x : Int32} {off : Int} {tgt : Nat} (C : Cx X K cc own nL fr lo) (d : decode cc pc = .ok (.tableswitch dflt lw hg offs, len)) (h1 : ¬ x.toInt < lw) (h2 : ¬ hg < x.toInt) (ho : offs[(x.toInt - lw).toNat]? = some off) (ht : (pc : Int) + off = (tgt : Int)) (k : At X nL w tgt lv st) : At X nL w pc lv (.int x :: st) := by
  obtain ⟨p, l, e, R, s, m, args, below, meth, c, Q, D, A, cs, ss⟩ := X
  obtain ⟨hx, hb, hml, hown, hts, hK, hN, hRf, hRl, hcs, hss, hl0, hD0, hA0⟩ := C
  intro H locs ls hl hP hS
  exact lv_tableIn hx hb d h1 h2 ho ht (k H locs ls hl hP hS)
theorem at_get {Cn ref : String} {Tt : u_T} {N ci index a : Nat} {fs : List Value} {v : Value} (C : Cx X K cc own nL fr lo) (hin : ∀ w ∈ u_ws Cn Tt N, w ∈ gW) (hc : vwCl[ci]? = some (Cn, Tt, N)) (q0 : Nat) (he : w[q0]? = some (a, .inr (ci, fs))) (k : Nat) (hk : k < N) (hlk : Cond.fieldLink own index ref (Tt k).2.1 (Tt k).2.2.1 ∈ gW) (hr : (Tt k).1 = ref) (hv : fs[k]? = some v) (d : decode cc pc = .ok (.getfield index, 3)) (kk : At X nL w (pc + 3) lv (v :: st)) : At X nL w pc lv (.ref a :: st) := by
  obtain ⟨p, l, e, R, s, m, args, below, meth, c, Q, D, A, cs, ss⟩ := X
  obtain ⟨hx, hb, hml, hown, hts, hK, hN, hRf, hRl, hcs, hss, hl0, hD0, hA0⟩ := C
  intro H locs ls hl hP hS
  subst hr
  exact va_get hx hb hts hin hown hK hP q0 he hc k hk (hts _ hlk) (fun _ h9 => h9) hv d (kk H locs ls hl hP hS)
theorem at_getN {Cn ref : String} {Tt : u_T} {N ci index a : Nat} {fs : List Value} {v : Value} {host : String} (C : Cx X K cc own nL fr lo) (hin : ∀ w ∈ u_ws Cn Tt N, w ∈ gW) (hc : vwCl[ci]? = some (Cn, Tt, N)) (q0 : Nat) (he : w[q0]? = some (a, .inr (ci, fs))) (k : Nat) (hk : k < N) (hlk : Cond.fieldLinkNest own index ref (Tt k).2.1 (Tt k).2.2.1 host ∈ nW) (hr : (Tt k).1 = ref) (hv : fs[k]? = some v) (d : decode cc pc = .ok (.getfield index, 3)) (kk : At X nL w (pc + 3) lv (v :: st)) : At X nL w pc lv (.ref a :: st) := by
  obtain ⟨p, l, e, R, s, m, args, below, meth, c, Q, D, A, cs, ss⟩ := X
  obtain ⟨hx, hb, hml, hown, hts, hK, hN, hRf, hRl, hcs, hss, hl0, hD0, hA0⟩ := C
  intro H locs ls hl hP hS
  subst hr
  exact va_getN hx hb hts hin hown hK hP q0 he hc k hk (va_Nw.use rfl (hN _ hlk)) (fun _ h9 => h9) hv d (kk H locs ls hl hP hS)
theorem at_puti {Cn ref : String} {Tt : u_T} {N ci index a : Nat} {fs : List Value} {x : Int32} {w2 : va_W} (C : Cx X K cc own nL fr lo) (hin : ∀ w ∈ u_ws Cn Tt N, w ∈ gW) (ty0 : Nat → FieldType) (hty : ∀ k, k < N → parseFieldDescriptor (Tt k).2.2.1 = some (ty0 k)) (hnm : ∀ a, a < N → ∀ b, b < N → a ≠ b → (Tt a).2.1 ≠ (Tt b).2.1) (hc : vwCl[ci]? = some (Cn, Tt, N)) (hD : DX X w) (q0 : Nat) (he : w[q0]? = some (a, .inr (ci, fs))) (k : Nat) (hk : k < N) (hlk : Cond.fieldLink own index ref (Tt k).2.1 (Tt k).2.2.1 ∈ gW) (hr : (Tt k).1 = ref) (hfin : (Tt k).2.2.2 = false) (hd : parseFieldDescriptor (Tt k).2.2.1 = some .int) (hlen : k < fs.length) (hw : w.set q0 (a, .inr (ci, fs.set k (.int x))) = w2) (d : decode cc pc = .ok (.putfield index, 3)) (kk : At X nL w2 (pc + 3) lv st) : At X nL w pc lv (.int x :: .ref a :: st) := by
  obtain ⟨p, l, e, R, s, m, args, below, meth, c, Q, D, A, cs, ss⟩ := X
  obtain ⟨hx, hb, hml, hown, hts, hK, hN, hRf, hRl, hcs, hss, hl0, hD0, hA0⟩ := C
  intro H locs ls hl hP hS
  subst hr
  exact va_put hx hb hts hin ty0 hty hnm hown hK hP hD hS q0 he hc k hk (hts _ hlk) (fun _ h9 => h9) hfin hd rfl rfl hlen d (fun H1 locs1 hP1 _ hS1 => kk H1 locs1 ls hl (hw ▸ hP1) hS1)
theorem at_iald {a n : Nat} {f : Nat → Int32} {i : Int32} (C : Cx X K cc own nL fr lo) (q0 : Nat) (he : w[q0]? = some (a, .inl (K.2.2.2.1, n, .inl f))) (hi : vp_in i n) (d : decode cc pc = .ok (.iaload, 1)) (kk : At X nL w (pc + 1) lv (.int (f i.toNatClampNeg) :: st)) : At X nL w pc lv (.int i :: .ref a :: st) := by
  obtain ⟨p, l, e, R, s, m, args, below, meth, c, Q, D, A, cs, ss⟩ := X
  obtain ⟨hx, hb, hml, hown, hts, hK, hN, hRf, hRl, hcs, hss, hl0, hD0, hA0⟩ := C
  intro H locs ls hl hP hS
  exact va_iald hx hb hK hP q0 0 he rfl hi d (kk H locs ls hl hP hS)
theorem at_zald {a n : Nat} {f : Nat → Int32} {i : Int32} (C : Cx X K cc own nL fr lo) (q0 : Nat) (he : w[q0]? = some (a, .inl (K.2.2.2.2.1, n, .inl f))) (hi : vp_in i n) (d : decode cc pc = .ok (.baload, 1)) (kk : At X nL w (pc + 1) lv (.int (f i.toNatClampNeg) :: st)) : At X nL w pc lv (.int i :: .ref a :: st) := by
  obtain ⟨p, l, e, R, s, m, args, below, meth, c, Q, D, A, cs, ss⟩ := X
  obtain ⟨hx, hb, hml, hown, hts, hK, hN, hRf, hRl, hcs, hss, hl0, hD0, hA0⟩ := C
  intro H locs ls hl hP hS
  exact va_zald hx hb hK hP q0 1 he rfl hi d (kk H locs ls hl hP hS)
theorem at_lald {a n : Nat} {f : Nat → Int64} {i : Int32} (C : Cx X K cc own nL fr lo) (q0 : Nat) (he : w[q0]? = some (a, .inl (K.2.2.2.2.2, n, .inr (.inl f)))) (hi : vp_in i n) (d : decode cc pc = .ok (.laload, 1)) (kk : At X nL w (pc + 1) lv (.long (f i.toNatClampNeg) :: st)) : At X nL w pc lv (.int i :: .ref a :: st) := by
  obtain ⟨p, l, e, R, s, m, args, below, meth, c, Q, D, A, cs, ss⟩ := X
  obtain ⟨hx, hb, hml, hown, hts, hK, hN, hRf, hRl, hcs, hss, hl0, hD0, hA0⟩ := C
  intro H locs ls hl hP hS
  exact va_lald hx hb hK hP q0 2 he rfl hi d (kk H locs ls hl hP hS)
theorem at_iast {a n : Nat} {f : Nat → Int32} {i : Int32} {x : Int32} {w2 : va_W} (C : Cx X K cc own nL fr lo) (hD : DX X w) (q0 : Nat) (he : w[q0]? = some (a, .inl (K.2.2.2.1, n, .inl f))) (hi : vp_in i n) (hw : w.set q0 (a, .inl (K.2.2.2.1, n, .inl (upd f i.toNatClampNeg x))) = w2) (d : decode cc pc = .ok (.iastore, 1)) (kk : At X nL w2 (pc + 1) lv st) : At X nL w pc lv (.int x :: .int i :: .ref a :: st) := by
  obtain ⟨p, l, e, R, s, m, args, below, meth, c, Q, D, A, cs, ss⟩ := X
  obtain ⟨hx, hb, hml, hown, hts, hK, hN, hRf, hRl, hcs, hss, hl0, hD0, hA0⟩ := C
  intro H locs ls hl hP hS
  exact va_iast hx hb hK hP hD hS q0 0 he rfl hi d (fun H1 locs1 hP1 _ hS1 => kk H1 locs1 ls hl (hw ▸ hP1) hS1)
theorem at_zast {a n : Nat} {f : Nat → Int32} {i : Int32} {x : Int32} {w2 : va_W} (C : Cx X K cc own nL fr lo) (hD : DX X w) (q0 : Nat) (he : w[q0]? = some (a, .inl (K.2.2.2.2.1, n, .inl f))) (hi : vp_in i n) (hw : w.set q0 (a, .inl (K.2.2.2.2.1, n, .inl (upd f i.toNatClampNeg (vp_nar .boolean x)))) = w2) (d : decode cc pc = .ok (.bastore, 1)) (kk : At X nL w2 (pc + 1) lv st) : At X nL w pc lv (.int x :: .int i :: .ref a :: st) := by
  obtain ⟨p, l, e, R, s, m, args, below, meth, c, Q, D, A, cs, ss⟩ := X
  obtain ⟨hx, hb, hml, hown, hts, hK, hN, hRf, hRl, hcs, hss, hl0, hD0, hA0⟩ := C
  intro H locs ls hl hP hS
  exact va_zast hx hb hK hP hD hS q0 1 he rfl hi d (fun H1 locs1 hP1 _ hS1 => kk H1 locs1 ls hl (hw ▸ hP1) hS1)
theorem at_last {a n : Nat} {f : Nat → Int64} {i : Int32} {x : Int64} {w2 : va_W} (C : Cx X K cc own nL fr lo) (hD : DX X w) (q0 : Nat) (he : w[q0]? = some (a, .inl (K.2.2.2.2.2, n, .inr (.inl f)))) (hi : vp_in i n) (hw : w.set q0 (a, .inl (K.2.2.2.2.2, n, .inr (.inl (vp_updL f i.toNatClampNeg x)))) = w2) (d : decode cc pc = .ok (.lastore, 1)) (kk : At X nL w2 (pc + 1) lv st) : At X nL w pc lv (.long x :: .int i :: .ref a :: st) := by
  obtain ⟨p, l, e, R, s, m, args, below, meth, c, Q, D, A, cs, ss⟩ := X
  obtain ⟨hx, hb, hml, hown, hts, hK, hN, hRf, hRl, hcs, hss, hl0, hD0, hA0⟩ := C
  intro H locs ls hl hP hS
  exact va_last hx hb hK hP hD hS q0 2 he rfl hi d (fun H1 locs1 hP1 _ hS1 => kk H1 locs1 ls hl (hw ▸ hP1) hS1)
theorem at_aleni {a n : Nat} {f : Nat → Int32} {v : Int32} (C : Cx X K cc own nL fr lo) (q0 : Nat) (he : w[q0]? = some (a, .inl (K.2.2.2.1, n, .inl f))) (hv : Int32.ofNat n = v) (d : decode cc pc = .ok (.arraylength, 1)) (kk : At X nL w (pc + 1) lv (.int v :: st)) : At X nL w pc lv (.ref a :: st) := by
  obtain ⟨p, l, e, R, s, m, args, below, meth, c, Q, D, A, cs, ss⟩ := X
  obtain ⟨hx, hb, hml, hown, hts, hK, hN, hRf, hRl, hcs, hss, hl0, hD0, hA0⟩ := C
  intro H locs ls hl hP hS
  exact va_alen hx hb hK hP q0 0 he rfl hv d (kk H locs ls hl hP hS)
end ATR
/-! CONTRACTS: 'Ki K wf y bytes maxL ret rm av w0 post': y, called with av over the world w0, returns an int r and leaves the world 'wf u', 'post r u'; it makes nothing. Kl: a long; Kv: nothing. -/
def PcK (K : KT) (av : List Value) (w0 : va_W) : Array Value → State → Prop := va_Pc av (fun U => va_P K.2.1 vwCl w0 U.heap ∧ va_K K.2.1 vwCl (tyL K.2.2.2) U ∧ ∀ w ∈ nW, va_Nw w U)
def BK {S : Type} (K : KT) (wf : S → va_W) : S → State → Prop := fun u t => va_P K.2.1 vwCl (wf u) t.heap
def Ki {S : Type} (K : KT) (wf : S → va_W) (y : MethodName) (bytes : ByteArray) (maxL : Nat) (ret : Option FieldType) (rm : Room) (av : List Value) (w0 : va_W) (post : Int32 → S → Prop) : Prop := Met K.1 y (.code y bytes maxL ret :: gW) rm (PcK K av w0) (va_Qi post (BK K wf) K.2.2.1) 0 0 K.2.2.1
def Kl {S : Type} (K : KT) (wf : S → va_W) (y : MethodName) (bytes : ByteArray) (maxL : Nat) (ret : Option FieldType) (rm : Room) (av : List Value) (w0 : va_W) (post : Int64 → S → Prop) : Prop := Met K.1 y (.code y bytes maxL ret :: gW) rm (PcK K av w0) (va_Ql post (BK K wf) K.2.2.1) 0 0 K.2.2.1
def Kv {S : Type} (K : KT) (wf : S → va_W) (y : MethodName) (bytes : ByteArray) (maxL : Nat) (ret : Option FieldType) (rm : Room) (av : List Value) (w0 : va_W) (post : S → Prop) : Prop := Met K.1 y (.code y bytes maxL ret :: gW) rm (PcK K av w0) (va_Qv post (BK K wf) K.2.2.1) 0 0 K.2.2.1
theorem PcK_blind (K : KT) (av : List Value) (w0 : va_W) (hn : ∀ w ∈ nW, w.onTables = true) : FrameBlind (PcK K av w0) := fun a U g mk q => by
  obtain ⟨q0, q1, q2, q3⟩ := q
  exact ⟨q0, q1, va_K.moved (u := U) (U := U.calling g mk a) (Vm.Alike.refl U.vm) q2, fun w hw => va_Nw.same (u := U) (U := U.calling g mk a) (hn w hw) rfl (q3 w hw)⟩
theorem nW_tab : ∀ w ∈ nW, w.onTables = true := by
  intro w hw
  have h := (List.mem_filter.mp hw).2
  cases w <;> first | rfl | (exact absurd h (by simp [isNest]))
theorem nW_warm {s U : State} (hW : s.WarmedH U.vm) : ∀ w ∈ nW, va_Nw w s → va_Nw w U := by
  intro w hw hz
  have h := (List.mem_filter.mp hw).2
  cases w <;> first | (exact va_Nw.warmF hW hz) | (exact va_Nw.warmM hW hz) | (exact absurd h (by simp [isNest]))
theorem PcK_pre {K : KT} {av : List Value} {w0 : va_W} {s : State} {H : Heap} (hK : va_K K.2.1 vwCl (tyL K.2.2.2) s) (hN : ∀ w ∈ nW, va_Nw w s) (hP : va_P K.2.1 vwCl w0 H) : ∀ U : State, U.heap = H → s.WarmedH U.vm → PcK K av w0 av.toArray U := fun U hU hW => ⟨rfl, by rw [hU]; exact hP, va_K.moved hW.alike hK, fun w hw => nW_warm hW w hw (hN w hw)⟩
/-- what a callee's tables must say -/
def okM (y : MethodName) (bytes : ByteArray) (maxL : Nat) (ret : Option FieldType) (n : Nat) : Prop := Cond.code y bytes maxL ret ∈ gW ∧ Cond.initialized y.cls ∈ gW ∧ (y.cls ≠ "java/lang/invoke/MethodHandle" ∧ y.cls ≠ "java/lang/invoke/VarHandle" ∧ (parseMethodDescriptor y.desc).map (fun d => d.parameters.length) = some n)
def rmOk (rm : Room) (maxL fr lo : Nat) : Prop := rm.cells = 0 ∧ rm.slots = 0 ∧ rm.frames + 1 ≤ fr ∧ 8 + (maxL + 11) + rm.locals ≤ lo
theorem gW_ws {y : MethodName} {bytes : ByteArray} {maxL : Nat} {ret : Option FieldType} (h : Cond.code y bytes maxL ret ∈ gW) : GoodIn gW (Cond.code y bytes maxL ret :: gW) := fun w hw => (List.mem_cons.mp hw).elim (fun e => e ▸ ⟨h, gW_good h⟩) (fun q => ⟨q, gW_good q⟩)
section ATC
variable {X : XT} {K : KT} {cc : ByteArray} {own : String} {nL fr lo : Nat} {w : va_W} {pc : Nat} {lv : List (Nat × Value)} {st : List Value}
variable {S : Type} {wf : S → va_W} {y : MethodName} {bytes : ByteArray} {maxL n index b q0 ci : Nat} {ret : Option FieldType} {rm : Room} {As rest : List Value} {fs : List Value} {Cn : String} {Tt : u_T} {N : Nat} {host : String}
theorem at_callVi {post : Int32 → S → Prop} (C : Cx X K cc own nL fr lo) (hM : Ki K wf y bytes maxL ret rm (.ref b :: As) w post) (ok : okM y bytes maxL ret n) (hlk : Cond.methodLink own index y ∈ gW) (hi : Cond.instanceMethod y ∈ gW) (hs : Cond.selects Cn y y ∈ gW) (he : w[q0]? = some (b, .inr (ci, fs))) (hc : vwCl[ci]? = some (Cn, Tt, N)) (hrm : rmOk rm maxL fr lo) (hn : As.length = n) (hst : st = As.reverse ++ .ref b :: rest) (hW : (rest.map fun v => v.category).sum ≤ 8) (d : decode cc pc = .ok (.invokevirtual index, 3)) (kk : ∀ (r : Int32) (u : S), post r u → At X nL (wf u) (pc + 3) lv (.int r :: rest)) : At X nL w pc lv st := by
  obtain ⟨p, l, e, R, s, m, args, below, meth, c, Q, D, A, cs, ss⟩ := X
  obtain ⟨hx, hb, hml, hown, hts, hK, hN, hRf, hRl, hcs, hss, hl0, hD0, hA0⟩ := C
  intro H locs ls hl hP hS
  subst hRf; subst hRl; subst hl0; subst hD0; subst hA0; subst hst
  obtain ⟨o1, o2, o3⟩ := ok
  obtain ⟨m1, m2, m3, m4⟩ := hrm
  exact va_calli (va_runV (As := As) (rest := rest) ⟨hx, hb, hml, hown, hts⟩ hM ⟨callB_of n hts (gW_ws o1) rfl m1 m2 (hts _ o2) (hts _ hlk) o3 ⟨m3, m4⟩, hts _ hi, hts _ hs⟩ ⟨PcK_blind K _ _ nW_tab, va_recv hK hP hc he, PcK_pre hK hN hP⟩ rfl hn hl.1 rfl (lv_room hW) d ⟨hcs, hss⟩) hS (fun q _ h => h) (fun q h => h) (fun r u t H1 locs1 ht _ hw1 hB _ _ hS1 => kk r u hw1 H1 locs1 ls hl (by rw [← ht]; exact hB) hS1)
theorem at_callVNi {post : Int32 → S → Prop} (C : Cx X K cc own nL fr lo) (hM : Ki K wf y bytes maxL ret rm (.ref b :: As) w post) (ok : okM y bytes maxL ret n) (hlk : Cond.methodLinkNest own index y host ∈ nW) (hi : Cond.instanceMethod y ∈ gW) (hs : Cond.selects Cn y y ∈ gW) (he : w[q0]? = some (b, .inr (ci, fs))) (hc : vwCl[ci]? = some (Cn, Tt, N)) (hrm : rmOk rm maxL fr lo) (hn : As.length = n) (hst : st = As.reverse ++ .ref b :: rest) (hW : (rest.map fun v => v.category).sum ≤ 8) (d : decode cc pc = .ok (.invokevirtual index, 3)) (kk : ∀ (r : Int32) (u : S), post r u → At X nL (wf u) (pc + 3) lv (.int r :: rest)) : At X nL w pc lv st := by
  obtain ⟨p, l, e, R, s, m, args, below, meth, c, Q, D, A, cs, ss⟩ := X
  obtain ⟨hx, hb, hml, hown, hts, hK, hN, hRf, hRl, hcs, hss, hl0, hD0, hA0⟩ := C
  intro H locs ls hl hP hS
  subst hRf; subst hRl; subst hl0; subst hD0; subst hA0; subst hst
  obtain ⟨o1, o2, o3⟩ := ok
  obtain ⟨m1, m2, m3, m4⟩ := hrm
  exact va_calli (va_runVN (As := As) (rest := rest) ⟨hx, hb, hml, hown, hts⟩ hM ⟨va_cnB n hts (gW_ws o1) rfl m1 m2 (hN _ hlk) (hts _ o2) o3 ⟨m3, m4⟩, hts _ hi, hts _ hs⟩ ⟨PcK_blind K _ _ nW_tab, va_recv hK hP hc he, PcK_pre hK hN hP⟩ rfl hn hl.1 rfl (lv_room hW) d ⟨hcs, hss⟩) hS (fun q _ h => h) (fun q h => h) (fun r u t H1 locs1 ht _ hw1 hB _ _ hS1 => kk r u hw1 H1 locs1 ls hl (by rw [← ht]; exact hB) hS1)
theorem at_callSi {post : Int32 → S → Prop} (C : Cx X K cc own nL fr lo) (hM : Ki K wf y bytes maxL ret rm As w post) (ok : okM y bytes maxL ret n) (hlk : Cond.methodLink own index y ∈ gW) (hs : Cond.static y ∈ gW) (hrm : rmOk rm maxL fr lo) (hn : As.length = n) (hst : st = As.reverse ++ rest) (hW : (rest.map fun v => v.category).sum ≤ 8) (d : decode cc pc = .ok (.invokestatic index, 3)) (kk : ∀ (r : Int32) (u : S), post r u → At X nL (wf u) (pc + 3) lv (.int r :: rest)) : At X nL w pc lv st := by
  obtain ⟨p, l, e, R, s, m, args, below, meth, c, Q, D, A, cs, ss⟩ := X
  obtain ⟨hx, hb, hml, hown, hts, hK, hN, hRf, hRl, hcs, hss, hl0, hD0, hA0⟩ := C
  intro H locs ls hl hP hS
  subst hRf; subst hRl; subst hl0; subst hD0; subst hA0; subst hst
  obtain ⟨o1, o2, o3⟩ := ok
  obtain ⟨m1, m2, m3, m4⟩ := hrm
  exact va_calli (va_runS (As := As) (rest := rest) ⟨hx, hb, hml, hown, hts⟩ hM ⟨callB_of n hts (gW_ws o1) rfl m1 m2 (hts _ o2) (hts _ hlk) o3 ⟨m3, m4⟩, hts _ hs⟩ ⟨PcK_blind K _ _ nW_tab, PcK_pre hK hN hP⟩ rfl hn hl.1 rfl (lv_room hW) d ⟨hcs, hss⟩) hS (fun q _ h => h) (fun q h => h) (fun r u t H1 locs1 ht _ hw1 hB _ _ hS1 => kk r u hw1 H1 locs1 ls hl (by rw [← ht]; exact hB) hS1)
theorem at_callSNi {post : Int32 → S → Prop} (C : Cx X K cc own nL fr lo) (hM : Ki K wf y bytes maxL ret rm As w post) (ok : okM y bytes maxL ret n) (hlk : Cond.methodLinkNest own index y host ∈ nW) (hs : Cond.static y ∈ gW) (hrm : rmOk rm maxL fr lo) (hn : As.length = n) (hst : st = As.reverse ++ rest) (hW : (rest.map fun v => v.category).sum ≤ 8) (d : decode cc pc = .ok (.invokestatic index, 3)) (kk : ∀ (r : Int32) (u : S), post r u → At X nL (wf u) (pc + 3) lv (.int r :: rest)) : At X nL w pc lv st := by
  obtain ⟨p, l, e, R, s, m, args, below, meth, c, Q, D, A, cs, ss⟩ := X
  obtain ⟨hx, hb, hml, hown, hts, hK, hN, hRf, hRl, hcs, hss, hl0, hD0, hA0⟩ := C
  intro H locs ls hl hP hS
  subst hRf; subst hRl; subst hl0; subst hD0; subst hA0; subst hst
  obtain ⟨o1, o2, o3⟩ := ok
  obtain ⟨m1, m2, m3, m4⟩ := hrm
  exact va_calli (va_runSN (As := As) (rest := rest) ⟨hx, hb, hml, hown, hts⟩ hM ⟨va_cnB n hts (gW_ws o1) rfl m1 m2 (hN _ hlk) (hts _ o2) o3 ⟨m3, m4⟩, hts _ hs, trivial⟩ ⟨PcK_blind K _ _ nW_tab, PcK_pre hK hN hP⟩ rfl hn hl.1 rfl (lv_room hW) d ⟨hcs, hss⟩) hS (fun q _ h => h) (fun q h => h) (fun r u t H1 locs1 ht _ hw1 hB _ _ hS1 => kk r u hw1 H1 locs1 ls hl (by rw [← ht]; exact hB) hS1)
theorem at_callVl {post : Int64 → S → Prop} (C : Cx X K cc own nL fr lo) (hM : Kl K wf y bytes maxL ret rm (.ref b :: As) w post) (ok : okM y bytes maxL ret n) (hlk : Cond.methodLink own index y ∈ gW) (hi : Cond.instanceMethod y ∈ gW) (hs : Cond.selects Cn y y ∈ gW) (he : w[q0]? = some (b, .inr (ci, fs))) (hc : vwCl[ci]? = some (Cn, Tt, N)) (hrm : rmOk rm maxL fr lo) (hn : As.length = n) (hst : st = As.reverse ++ .ref b :: rest) (hW : (rest.map fun v => v.category).sum ≤ 8) (d : decode cc pc = .ok (.invokevirtual index, 3)) (kk : ∀ (r : Int64) (u : S), post r u → At X nL (wf u) (pc + 3) lv (.long r :: rest)) : At X nL w pc lv st := by
  obtain ⟨p, l, e, R, s, m, args, below, meth, c, Q, D, A, cs, ss⟩ := X
  obtain ⟨hx, hb, hml, hown, hts, hK, hN, hRf, hRl, hcs, hss, hl0, hD0, hA0⟩ := C
  intro H locs ls hl hP hS
  subst hRf; subst hRl; subst hl0; subst hD0; subst hA0; subst hst
  obtain ⟨o1, o2, o3⟩ := ok
  obtain ⟨m1, m2, m3, m4⟩ := hrm
  exact va_calll (va_runV (As := As) (rest := rest) ⟨hx, hb, hml, hown, hts⟩ hM ⟨callB_of n hts (gW_ws o1) rfl m1 m2 (hts _ o2) (hts _ hlk) o3 ⟨m3, m4⟩, hts _ hi, hts _ hs⟩ ⟨PcK_blind K _ _ nW_tab, va_recv hK hP hc he, PcK_pre hK hN hP⟩ rfl hn hl.1 rfl (lv_room hW) d ⟨hcs, hss⟩) hS (fun q _ h => h) (fun q h => h) (fun r u t H1 locs1 ht _ hw1 hB _ _ hS1 => kk r u hw1 H1 locs1 ls hl (by rw [← ht]; exact hB) hS1)
theorem at_callVNl {post : Int64 → S → Prop} (C : Cx X K cc own nL fr lo) (hM : Kl K wf y bytes maxL ret rm (.ref b :: As) w post) (ok : okM y bytes maxL ret n) (hlk : Cond.methodLinkNest own index y host ∈ nW) (hi : Cond.instanceMethod y ∈ gW) (hs : Cond.selects Cn y y ∈ gW) (he : w[q0]? = some (b, .inr (ci, fs))) (hc : vwCl[ci]? = some (Cn, Tt, N)) (hrm : rmOk rm maxL fr lo) (hn : As.length = n) (hst : st = As.reverse ++ .ref b :: rest) (hW : (rest.map fun v => v.category).sum ≤ 8) (d : decode cc pc = .ok (.invokevirtual index, 3)) (kk : ∀ (r : Int64) (u : S), post r u → At X nL (wf u) (pc + 3) lv (.long r :: rest)) : At X nL w pc lv st := by
  obtain ⟨p, l, e, R, s, m, args, below, meth, c, Q, D, A, cs, ss⟩ := X
  obtain ⟨hx, hb, hml, hown, hts, hK, hN, hRf, hRl, hcs, hss, hl0, hD0, hA0⟩ := C
  intro H locs ls hl hP hS
  subst hRf; subst hRl; subst hl0; subst hD0; subst hA0; subst hst
  obtain ⟨o1, o2, o3⟩ := ok
  obtain ⟨m1, m2, m3, m4⟩ := hrm
  exact va_calll (va_runVN (As := As) (rest := rest) ⟨hx, hb, hml, hown, hts⟩ hM ⟨va_cnB n hts (gW_ws o1) rfl m1 m2 (hN _ hlk) (hts _ o2) o3 ⟨m3, m4⟩, hts _ hi, hts _ hs⟩ ⟨PcK_blind K _ _ nW_tab, va_recv hK hP hc he, PcK_pre hK hN hP⟩ rfl hn hl.1 rfl (lv_room hW) d ⟨hcs, hss⟩) hS (fun q _ h => h) (fun q h => h) (fun r u t H1 locs1 ht _ hw1 hB _ _ hS1 => kk r u hw1 H1 locs1 ls hl (by rw [← ht]; exact hB) hS1)
theorem at_callSl {post : Int64 → S → Prop} (C : Cx X K cc own nL fr lo) (hM : Kl K wf y bytes maxL ret rm As w post) (ok : okM y bytes maxL ret n) (hlk : Cond.methodLink own index y ∈ gW) (hs : Cond.static y ∈ gW) (hrm : rmOk rm maxL fr lo) (hn : As.length = n) (hst : st = As.reverse ++ rest) (hW : (rest.map fun v => v.category).sum ≤ 8) (d : decode cc pc = .ok (.invokestatic index, 3)) (kk : ∀ (r : Int64) (u : S), post r u → At X nL (wf u) (pc + 3) lv (.long r :: rest)) : At X nL w pc lv st := by
  obtain ⟨p, l, e, R, s, m, args, below, meth, c, Q, D, A, cs, ss⟩ := X
  obtain ⟨hx, hb, hml, hown, hts, hK, hN, hRf, hRl, hcs, hss, hl0, hD0, hA0⟩ := C
  intro H locs ls hl hP hS
  subst hRf; subst hRl; subst hl0; subst hD0; subst hA0; subst hst
  obtain ⟨o1, o2, o3⟩ := ok
  obtain ⟨m1, m2, m3, m4⟩ := hrm
  exact va_calll (va_runS (As := As) (rest := rest) ⟨hx, hb, hml, hown, hts⟩ hM ⟨callB_of n hts (gW_ws o1) rfl m1 m2 (hts _ o2) (hts _ hlk) o3 ⟨m3, m4⟩, hts _ hs⟩ ⟨PcK_blind K _ _ nW_tab, PcK_pre hK hN hP⟩ rfl hn hl.1 rfl (lv_room hW) d ⟨hcs, hss⟩) hS (fun q _ h => h) (fun q h => h) (fun r u t H1 locs1 ht _ hw1 hB _ _ hS1 => kk r u hw1 H1 locs1 ls hl (by rw [← ht]; exact hB) hS1)
theorem at_callSNl {post : Int64 → S → Prop} (C : Cx X K cc own nL fr lo) (hM : Kl K wf y bytes maxL ret rm As w post) (ok : okM y bytes maxL ret n) (hlk : Cond.methodLinkNest own index y host ∈ nW) (hs : Cond.static y ∈ gW) (hrm : rmOk rm maxL fr lo) (hn : As.length = n) (hst : st = As.reverse ++ rest) (hW : (rest.map fun v => v.category).sum ≤ 8) (d : decode cc pc = .ok (.invokestatic index, 3)) (kk : ∀ (r : Int64) (u : S), post r u → At X nL (wf u) (pc + 3) lv (.long r :: rest)) : At X nL w pc lv st := by
  obtain ⟨p, l, e, R, s, m, args, below, meth, c, Q, D, A, cs, ss⟩ := X
  obtain ⟨hx, hb, hml, hown, hts, hK, hN, hRf, hRl, hcs, hss, hl0, hD0, hA0⟩ := C
  intro H locs ls hl hP hS
  subst hRf; subst hRl; subst hl0; subst hD0; subst hA0; subst hst
  obtain ⟨o1, o2, o3⟩ := ok
  obtain ⟨m1, m2, m3, m4⟩ := hrm
  exact va_calll (va_runSN (As := As) (rest := rest) ⟨hx, hb, hml, hown, hts⟩ hM ⟨va_cnB n hts (gW_ws o1) rfl m1 m2 (hN _ hlk) (hts _ o2) o3 ⟨m3, m4⟩, hts _ hs, trivial⟩ ⟨PcK_blind K _ _ nW_tab, PcK_pre hK hN hP⟩ rfl hn hl.1 rfl (lv_room hW) d ⟨hcs, hss⟩) hS (fun q _ h => h) (fun q h => h) (fun r u t H1 locs1 ht _ hw1 hB _ _ hS1 => kk r u hw1 H1 locs1 ls hl (by rw [← ht]; exact hB) hS1)
theorem at_callVv {post : S → Prop} (C : Cx X K cc own nL fr lo) (hM : Kv K wf y bytes maxL ret rm (.ref b :: As) w post) (ok : okM y bytes maxL ret n) (hlk : Cond.methodLink own index y ∈ gW) (hi : Cond.instanceMethod y ∈ gW) (hs : Cond.selects Cn y y ∈ gW) (he : w[q0]? = some (b, .inr (ci, fs))) (hc : vwCl[ci]? = some (Cn, Tt, N)) (hrm : rmOk rm maxL fr lo) (hn : As.length = n) (hst : st = As.reverse ++ .ref b :: rest) (hW : (rest.map fun v => v.category).sum ≤ 8) (d : decode cc pc = .ok (.invokevirtual index, 3)) (kk : ∀ (u : S), post u → At X nL (wf u) (pc + 3) lv rest) : At X nL w pc lv st := by
  obtain ⟨p, l, e, R, s, m, args, below, meth, c, Q, D, A, cs, ss⟩ := X
  obtain ⟨hx, hb, hml, hown, hts, hK, hN, hRf, hRl, hcs, hss, hl0, hD0, hA0⟩ := C
  intro H locs ls hl hP hS
  subst hRf; subst hRl; subst hl0; subst hD0; subst hA0; subst hst
  obtain ⟨o1, o2, o3⟩ := ok
  obtain ⟨m1, m2, m3, m4⟩ := hrm
  exact va_callv (va_runV (As := As) (rest := rest) ⟨hx, hb, hml, hown, hts⟩ hM ⟨callB_of n hts (gW_ws o1) rfl m1 m2 (hts _ o2) (hts _ hlk) o3 ⟨m3, m4⟩, hts _ hi, hts _ hs⟩ ⟨PcK_blind K _ _ nW_tab, va_recv hK hP hc he, PcK_pre hK hN hP⟩ rfl hn hl.1 rfl (lv_room hW) d ⟨hcs, hss⟩) hS (fun q _ h => h) (fun q h => h) (fun u t H1 locs1 ht _ hw1 hB _ _ hS1 => kk u hw1 H1 locs1 ls hl (by rw [← ht]; exact hB) hS1)
theorem at_callVNv {post : S → Prop} (C : Cx X K cc own nL fr lo) (hM : Kv K wf y bytes maxL ret rm (.ref b :: As) w post) (ok : okM y bytes maxL ret n) (hlk : Cond.methodLinkNest own index y host ∈ nW) (hi : Cond.instanceMethod y ∈ gW) (hs : Cond.selects Cn y y ∈ gW) (he : w[q0]? = some (b, .inr (ci, fs))) (hc : vwCl[ci]? = some (Cn, Tt, N)) (hrm : rmOk rm maxL fr lo) (hn : As.length = n) (hst : st = As.reverse ++ .ref b :: rest) (hW : (rest.map fun v => v.category).sum ≤ 8) (d : decode cc pc = .ok (.invokevirtual index, 3)) (kk : ∀ (u : S), post u → At X nL (wf u) (pc + 3) lv rest) : At X nL w pc lv st := by
  obtain ⟨p, l, e, R, s, m, args, below, meth, c, Q, D, A, cs, ss⟩ := X
  obtain ⟨hx, hb, hml, hown, hts, hK, hN, hRf, hRl, hcs, hss, hl0, hD0, hA0⟩ := C
  intro H locs ls hl hP hS
  subst hRf; subst hRl; subst hl0; subst hD0; subst hA0; subst hst
  obtain ⟨o1, o2, o3⟩ := ok
  obtain ⟨m1, m2, m3, m4⟩ := hrm
  exact va_callv (va_runVN (As := As) (rest := rest) ⟨hx, hb, hml, hown, hts⟩ hM ⟨va_cnB n hts (gW_ws o1) rfl m1 m2 (hN _ hlk) (hts _ o2) o3 ⟨m3, m4⟩, hts _ hi, hts _ hs⟩ ⟨PcK_blind K _ _ nW_tab, va_recv hK hP hc he, PcK_pre hK hN hP⟩ rfl hn hl.1 rfl (lv_room hW) d ⟨hcs, hss⟩) hS (fun q _ h => h) (fun q h => h) (fun u t H1 locs1 ht _ hw1 hB _ _ hS1 => kk u hw1 H1 locs1 ls hl (by rw [← ht]; exact hB) hS1)
theorem at_callSv {post : S → Prop} (C : Cx X K cc own nL fr lo) (hM : Kv K wf y bytes maxL ret rm As w post) (ok : okM y bytes maxL ret n) (hlk : Cond.methodLink own index y ∈ gW) (hs : Cond.static y ∈ gW) (hrm : rmOk rm maxL fr lo) (hn : As.length = n) (hst : st = As.reverse ++ rest) (hW : (rest.map fun v => v.category).sum ≤ 8) (d : decode cc pc = .ok (.invokestatic index, 3)) (kk : ∀ (u : S), post u → At X nL (wf u) (pc + 3) lv rest) : At X nL w pc lv st := by
  obtain ⟨p, l, e, R, s, m, args, below, meth, c, Q, D, A, cs, ss⟩ := X
  obtain ⟨hx, hb, hml, hown, hts, hK, hN, hRf, hRl, hcs, hss, hl0, hD0, hA0⟩ := C
  intro H locs ls hl hP hS
  subst hRf; subst hRl; subst hl0; subst hD0; subst hA0; subst hst
  obtain ⟨o1, o2, o3⟩ := ok
  obtain ⟨m1, m2, m3, m4⟩ := hrm
  exact va_callv (va_runS (As := As) (rest := rest) ⟨hx, hb, hml, hown, hts⟩ hM ⟨callB_of n hts (gW_ws o1) rfl m1 m2 (hts _ o2) (hts _ hlk) o3 ⟨m3, m4⟩, hts _ hs⟩ ⟨PcK_blind K _ _ nW_tab, PcK_pre hK hN hP⟩ rfl hn hl.1 rfl (lv_room hW) d ⟨hcs, hss⟩) hS (fun q _ h => h) (fun q h => h) (fun u t H1 locs1 ht _ hw1 hB _ _ hS1 => kk u hw1 H1 locs1 ls hl (by rw [← ht]; exact hB) hS1)
theorem at_callSNv {post : S → Prop} (C : Cx X K cc own nL fr lo) (hM : Kv K wf y bytes maxL ret rm As w post) (ok : okM y bytes maxL ret n) (hlk : Cond.methodLinkNest own index y host ∈ nW) (hs : Cond.static y ∈ gW) (hrm : rmOk rm maxL fr lo) (hn : As.length = n) (hst : st = As.reverse ++ rest) (hW : (rest.map fun v => v.category).sum ≤ 8) (d : decode cc pc = .ok (.invokestatic index, 3)) (kk : ∀ (u : S), post u → At X nL (wf u) (pc + 3) lv rest) : At X nL w pc lv st := by
  obtain ⟨p, l, e, R, s, m, args, below, meth, c, Q, D, A, cs, ss⟩ := X
  obtain ⟨hx, hb, hml, hown, hts, hK, hN, hRf, hRl, hcs, hss, hl0, hD0, hA0⟩ := C
  intro H locs ls hl hP hS
  subst hRf; subst hRl; subst hl0; subst hD0; subst hA0; subst hst
  obtain ⟨o1, o2, o3⟩ := ok
  obtain ⟨m1, m2, m3, m4⟩ := hrm
  exact va_callv (va_runSN (As := As) (rest := rest) ⟨hx, hb, hml, hown, hts⟩ hM ⟨va_cnB n hts (gW_ws o1) rfl m1 m2 (hN _ hlk) (hts _ o2) o3 ⟨m3, m4⟩, hts _ hs, trivial⟩ ⟨PcK_blind K _ _ nW_tab, PcK_pre hK hN hP⟩ rfl hn hl.1 rfl (lv_room hW) d ⟨hcs, hss⟩) hS (fun q _ h => h) (fun q h => h) (fun u t H1 locs1 ht _ hw1 hB _ _ hS1 => kk u hw1 H1 locs1 ls hl (by rw [← ht]; exact hB) hS1)
end ATC
/-! a method's body out of the judgement -/
def RetI {S : Type} (X : XT) (cc : ByteArray) (nL : Nat) (wf : S → va_W) (post : Int32 → S → Prop) : Prop := ∀ (pc : Nat) (lv : List (Nat × Value)) (r : Int32) (u : S), decode cc pc = .ok (.ireturn, 1) → post r u → At X nL (wf u) pc lv [.int r]
def RetZ {S : Type} (X : XT) (cc : ByteArray) (nL : Nat) (wf : S → va_W) (post : Int32 → S → Prop) : Prop := ∀ (pc : Nat) (lv : List (Nat × Value)) (r : Int32) (u : S), decode cc pc = .ok (.ireturn, 1) → narrow .boolean (.int r) = .int r → post r u → At X nL (wf u) pc lv [.int r]
def RetL {S : Type} (X : XT) (cc : ByteArray) (nL : Nat) (wf : S → va_W) (post : Int64 → S → Prop) : Prop := ∀ (pc : Nat) (lv : List (Nat × Value)) (r : Int64) (u : S), decode cc pc = .ok (.lreturn, 1) → post r u → At X nL (wf u) pc lv [.long r]
def RetV {S : Type} (X : XT) (cc : ByteArray) (nL : Nat) (wf : S → va_W) (post : S → Prop) : Prop := ∀ (pc : Nat) (lv : List (Nat × Value)) (u : S), decode cc pc = .ok (.return_, 1) → post u → At X nL (wf u) pc lv []
section STM
variable {S : Type} {K : KT} {wf : S → va_W} {y : MethodName} {cc : ByteArray} {nL fr lo : Nat} {rm : Room} {av : List Value} {w0 : va_W} {lv0 : List (Nat × Value)} {own : String}
theorem st_MI {post : Int32 → S → Prop} (hy : plainName y.cls = true) (hro : rm.frames = fr ∧ rm.locals = lo) (ho : y.cls = own) (hn : (lg_sl av).length ≤ nL) (hlv : lv_args 0 av = lv0)
    (body : ∀ X : XT, Cx X K cc own nL fr lo → (∀ w, va_D K.2.2.1 w → DX X w) → RetI X cc nL wf post → At X nL w0 0 lv0 []) : Ki K wf y cc nL (some .int) rm av w0 post := by
  refine Met.ofW (cc := cc) (maxL := nL) (ret := (some .int)) hy rfl ?_
  intro p e s m args below meth c s₁ B hml hv
  obtain ⟨rfl, hP, hK, hN⟩ := hv
  have hx := B.exec
  have hb := B.bytes
  have hr := B.returns
  have hts0 := atoms_spec (ws := Cond.code y cc nL (some .int) :: gW) B.pre
  have hown : s.vm.findClass own = some m.cls := by rw [← ho]; exact findClass_of_methodNamed B.named
  have hlocks := B.notSynchronized
  have hl := lv_entry av (n := nL) hn
  rw [lg_entry_eq]
  rw [hlv] at hl
  refine body (p, K.1, e, rm, s, m, av.toArray, below, meth, c, MQ below (va_Qi post (BK K wf) K.2.2.1) av.toArray s 0 0 K.2.2.1, K.2.1, K.2.2.1, 0, 0) ⟨hx, hb, hml, hown, fun w hw => hts0 w (List.mem_cons_of_mem _ hw), hK, hN, hro.1, hro.2, Nat.zero_le _, Nat.zero_le _, rfl, rfl, rfl⟩ (fun w h => h) ?_ s.heap [] _ hl hP va_S.rf
  intro pc lv r u d hq H locs ls hl hP hS
  exact W.iret hx hb hr (fun t ht hW => ⟨⟨r, u, rfl, hq, by show va_P _ _ _ _; rw [ht]; exact hP⟩, hS.F ht⟩) hS.2.2 d hlocks
theorem st_MZ {post : Int32 → S → Prop} (hy : plainName y.cls = true) (hro : rm.frames = fr ∧ rm.locals = lo) (ho : y.cls = own) (hn : (lg_sl av).length ≤ nL) (hlv : lv_args 0 av = lv0)
    (body : ∀ X : XT, Cx X K cc own nL fr lo → (∀ w, va_D K.2.2.1 w → DX X w) → RetZ X cc nL wf post → At X nL w0 0 lv0 []) : Ki K wf y cc nL (some .boolean) rm av w0 post := by
  refine Met.ofW (cc := cc) (maxL := nL) (ret := (some .boolean)) hy rfl ?_
  intro p e s m args below meth c s₁ B hml hv
  obtain ⟨rfl, hP, hK, hN⟩ := hv
  have hx := B.exec
  have hb := B.bytes
  have hr := B.returns
  have hts0 := atoms_spec (ws := Cond.code y cc nL (some .boolean) :: gW) B.pre
  have hown : s.vm.findClass own = some m.cls := by rw [← ho]; exact findClass_of_methodNamed B.named
  have hlocks := B.notSynchronized
  have hl := lv_entry av (n := nL) hn
  rw [lg_entry_eq]
  rw [hlv] at hl
  refine body (p, K.1, e, rm, s, m, av.toArray, below, meth, c, MQ below (va_Qi post (BK K wf) K.2.2.1) av.toArray s 0 0 K.2.2.1, K.2.1, K.2.2.1, 0, 0) ⟨hx, hb, hml, hown, fun w hw => hts0 w (List.mem_cons_of_mem _ hw), hK, hN, hro.1, hro.2, Nat.zero_le _, Nat.zero_le _, rfl, rfl, rfl⟩ (fun w h => h) ?_ s.heap [] _ hl hP va_S.rf
  intro pc lv r u d hnar hq H locs ls hl hP hS
  exact W.zret hx hb hr hnar (fun t ht hW => ⟨⟨r, u, rfl, hq, by show va_P _ _ _ _; rw [ht]; exact hP⟩, hS.F ht⟩) hS.2.2 d hlocks
theorem st_ML {post : Int64 → S → Prop} (hy : plainName y.cls = true) (hro : rm.frames = fr ∧ rm.locals = lo) (ho : y.cls = own) (hn : (lg_sl av).length ≤ nL) (hlv : lv_args 0 av = lv0)
    (body : ∀ X : XT, Cx X K cc own nL fr lo → (∀ w, va_D K.2.2.1 w → DX X w) → RetL X cc nL wf post → At X nL w0 0 lv0 []) : Kl K wf y cc nL (some .long) rm av w0 post := by
  refine Met.ofW (cc := cc) (maxL := nL) (ret := (some .long)) hy rfl ?_
  intro p e s m args below meth c s₁ B hml hv
  obtain ⟨rfl, hP, hK, hN⟩ := hv
  have hx := B.exec
  have hb := B.bytes
  have hr := B.returns
  have hts0 := atoms_spec (ws := Cond.code y cc nL (some .long) :: gW) B.pre
  have hown : s.vm.findClass own = some m.cls := by rw [← ho]; exact findClass_of_methodNamed B.named
  have hlocks := B.notSynchronized
  have hl := lv_entry av (n := nL) hn
  rw [lg_entry_eq]
  rw [hlv] at hl
  refine body (p, K.1, e, rm, s, m, av.toArray, below, meth, c, MQ below (va_Ql post (BK K wf) K.2.2.1) av.toArray s 0 0 K.2.2.1, K.2.1, K.2.2.1, 0, 0) ⟨hx, hb, hml, hown, fun w hw => hts0 w (List.mem_cons_of_mem _ hw), hK, hN, hro.1, hro.2, Nat.zero_le _, Nat.zero_le _, rfl, rfl, rfl⟩ (fun w h => h) ?_ s.heap [] _ hl hP va_S.rf
  intro pc lv r u d hq H locs ls hl hP hS
  exact W.lret hx hb hr (fun t ht hW => ⟨⟨r, u, rfl, hq, by show va_P _ _ _ _; rw [ht]; exact hP⟩, hS.F ht⟩) hS.2.2 d hlocks
theorem st_MV {post : S → Prop} (hy : plainName y.cls = true) (hro : rm.frames = fr ∧ rm.locals = lo) (ho : y.cls = own) (hn : (lg_sl av).length ≤ nL) (hlv : lv_args 0 av = lv0)
    (body : ∀ X : XT, Cx X K cc own nL fr lo → (∀ w, va_D K.2.2.1 w → DX X w) → RetV X cc nL wf post → At X nL w0 0 lv0 []) : Kv K wf y cc nL none rm av w0 post := by
  refine Met.ofW (cc := cc) (maxL := nL) (ret := none) hy rfl ?_
  intro p e s m args below meth c s₁ B hml hv
  obtain ⟨rfl, hP, hK, hN⟩ := hv
  have hx := B.exec
  have hb := B.bytes
  have hr := B.returns
  have hts0 := atoms_spec (ws := Cond.code y cc nL none :: gW) B.pre
  have hown : s.vm.findClass own = some m.cls := by rw [← ho]; exact findClass_of_methodNamed B.named
  have hlocks := B.notSynchronized
  have hl := lv_entry av (n := nL) hn
  rw [lg_entry_eq]
  rw [hlv] at hl
  refine body (p, K.1, e, rm, s, m, av.toArray, below, meth, c, MQ below (va_Qv post (BK K wf) K.2.2.1) av.toArray s 0 0 K.2.2.1, K.2.1, K.2.2.1, 0, 0) ⟨hx, hb, hml, hown, fun w hw => hts0 w (List.mem_cons_of_mem _ hw), hK, hN, hro.1, hro.2, Nat.zero_le _, Nat.zero_le _, rfl, rfl, rfl⟩ (fun w h => h) ?_ s.heap [] _ hl hP va_S.rf
  intro pc lv u d hq H locs ls hl hP hS
  exact W.vret hx hb hr (fun t ht hW => ⟨⟨u, rfl, hq, by show va_P _ _ _ _; rw [ht]; exact hP⟩, hS.F ht⟩) hS.2.2 d hlocks
end STM
end
