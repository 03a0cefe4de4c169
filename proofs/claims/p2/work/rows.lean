section
/-- a private method of a class that the tables say can be made, by its rows of tables_1 -/
def lw_okq (q : MethodName × Nat) : Prop := (q.1.cls ≠ "java/lang/invoke/MethodHandle" ∧ q.1.cls ≠ "java/lang/invoke/VarHandle") ∧ Cond.instantiable q.1.cls q.2 ∈ tables_1 ∧ Cond.privateMethod q.1 ∈ tables_1 ∧ Cond.instanceMethod q.1 ∈ tables_1
theorem lw_p0 : lw_okq (⟨"PastCatchers$Group", "joins", "(IIIII)I"⟩, 13) := ⟨⟨by decide +kernel, by decide +kernel⟩, List.mem_of_getElem? (i := 27) (by decide +kernel), List.mem_of_getElem? (i := 304) (by decide +kernel), List.mem_of_getElem? (i := 305) (by decide +kernel)⟩
theorem lw_p1 : lw_okq (⟨"PastCatchers$Group", "has", "(I)Z"⟩, 13) := ⟨⟨by decide +kernel, by decide +kernel⟩, List.mem_of_getElem? (i := 27) (by decide +kernel), List.mem_of_getElem? (i := 312) (by decide +kernel), List.mem_of_getElem? (i := 313) (by decide +kernel)⟩
theorem lw_p2 : lw_okq (⟨"PastCatchers$Group", "doesCatch", "(I)Z"⟩, 13) := ⟨⟨by decide +kernel, by decide +kernel⟩, List.mem_of_getElem? (i := 27) (by decide +kernel), List.mem_of_getElem? (i := 316) (by decide +kernel), List.mem_of_getElem? (i := 317) (by decide +kernel)⟩
theorem lw_p3 : lw_okq (⟨"PastCatchers", "measured", "(II)I"⟩, 10) := ⟨⟨by decide +kernel, by decide +kernel⟩, List.mem_of_getElem? (i := 19) (by decide +kernel), List.mem_of_getElem? (i := 323) (by decide +kernel), List.mem_of_getElem? (i := 324) (by decide +kernel)⟩
theorem lw_p4 : lw_okq (⟨"PastCatchers", "asksAnew", "()V"⟩, 10) := ⟨⟨by decide +kernel, by decide +kernel⟩, List.mem_of_getElem? (i := 19) (by decide +kernel), List.mem_of_getElem? (i := 327) (by decide +kernel), List.mem_of_getElem? (i := 328) (by decide +kernel)⟩
theorem lw_p5 : lw_okq (⟨"PastCatchers$Crossing", "starts", "(LPastCatchers$Group;LPastCatchers$Yard;)V"⟩, 17) := ⟨⟨by decide +kernel, by decide +kernel⟩, List.mem_of_getElem? (i := 95) (by decide +kernel), List.mem_of_getElem? (i := 331) (by decide +kernel), List.mem_of_getElem? (i := 332) (by decide +kernel)⟩
theorem lw_p6 : lw_okq (⟨"PastCatchers$Group", "becomes", "(LPastCatchers$Group;)V"⟩, 13) := ⟨⟨by decide +kernel, by decide +kernel⟩, List.mem_of_getElem? (i := 27) (by decide +kernel), List.mem_of_getElem? (i := 335) (by decide +kernel), List.mem_of_getElem? (i := 336) (by decide +kernel)⟩
theorem lw_p7 : lw_okq (⟨"PastCatchers$Crossing", "caughtNext", "()I"⟩, 17) := ⟨⟨by decide +kernel, by decide +kernel⟩, List.mem_of_getElem? (i := 95) (by decide +kernel), List.mem_of_getElem? (i := 342) (by decide +kernel), List.mem_of_getElem? (i := 343) (by decide +kernel)⟩
theorem lw_p8 : lw_okq (⟨"PastCatchers$Group", "running", "()I"⟩, 13) := ⟨⟨by decide +kernel, by decide +kernel⟩, List.mem_of_getElem? (i := 27) (by decide +kernel), List.mem_of_getElem? (i := 346) (by decide +kernel), List.mem_of_getElem? (i := 347) (by decide +kernel)⟩
theorem lw_p9 : lw_okq (⟨"PastCatchers$Group", "everyone", "()I"⟩, 13) := ⟨⟨by decide +kernel, by decide +kernel⟩, List.mem_of_getElem? (i := 27) (by decide +kernel), List.mem_of_getElem? (i := 350) (by decide +kernel), List.mem_of_getElem? (i := 351) (by decide +kernel)⟩
theorem lw_p10 : lw_okq (⟨"PastCatchers$Crossing", "measuresCatchers", "()V"⟩, 17) := ⟨⟨by decide +kernel, by decide +kernel⟩, List.mem_of_getElem? (i := 95) (by decide +kernel), List.mem_of_getElem? (i := 354) (by decide +kernel), List.mem_of_getElem? (i := 355) (by decide +kernel)⟩
theorem lw_p11 : lw_okq (⟨"PastCatchers$Crossing", "learns", "(II)V"⟩, 17) := ⟨⟨by decide +kernel, by decide +kernel⟩, List.mem_of_getElem? (i := 95) (by decide +kernel), List.mem_of_getElem? (i := 360) (by decide +kernel), List.mem_of_getElem? (i := 361) (by decide +kernel)⟩
theorem lw_p12 : lw_okq (⟨"PastCatchers$Yard", "has", "(I)Z"⟩, 6) := ⟨⟨by decide +kernel, by decide +kernel⟩, List.mem_of_getElem? (i := 103) (by decide +kernel), List.mem_of_getElem? (i := 367) (by decide +kernel), List.mem_of_getElem? (i := 368) (by decide +kernel)⟩
theorem lw_p13 : lw_okq (⟨"PastCatchers$Yard", "together", "(I[I)I"⟩, 6) := ⟨⟨by decide +kernel, by decide +kernel⟩, List.mem_of_getElem? (i := 103) (by decide +kernel), List.mem_of_getElem? (i := 371) (by decide +kernel), List.mem_of_getElem? (i := 372) (by decide +kernel)⟩
theorem lw_p14 : lw_okq (⟨"PastCatchers$Yard", "isTrue", "(II[I)Z"⟩, 6) := ⟨⟨by decide +kernel, by decide +kernel⟩, List.mem_of_getElem? (i := 103) (by decide +kernel), List.mem_of_getElem? (i := 375) (by decide +kernel), List.mem_of_getElem? (i := 376) (by decide +kernel)⟩
theorem lw_p15 : lw_okq (⟨"PastCatchers$Crossing", "reachesOut", "(I)V"⟩, 17) := ⟨⟨by decide +kernel, by decide +kernel⟩, List.mem_of_getElem? (i := 95) (by decide +kernel), List.mem_of_getElem? (i := 386) (by decide +kernel), List.mem_of_getElem? (i := 387) (by decide +kernel)⟩
def lw_privs_1 : List (MethodName × Nat) := [(⟨"PastCatchers$Group", "joins", "(IIIII)I"⟩, 13), (⟨"PastCatchers$Group", "has", "(I)Z"⟩, 13), (⟨"PastCatchers$Group", "doesCatch", "(I)Z"⟩, 13), (⟨"PastCatchers", "measured", "(II)I"⟩, 10), (⟨"PastCatchers", "asksAnew", "()V"⟩, 10), (⟨"PastCatchers$Crossing", "starts", "(LPastCatchers$Group;LPastCatchers$Yard;)V"⟩, 17), (⟨"PastCatchers$Group", "becomes", "(LPastCatchers$Group;)V"⟩, 13), (⟨"PastCatchers$Crossing", "caughtNext", "()I"⟩, 17), (⟨"PastCatchers$Group", "running", "()I"⟩, 13), (⟨"PastCatchers$Group", "everyone", "()I"⟩, 13), (⟨"PastCatchers$Crossing", "measuresCatchers", "()V"⟩, 17), (⟨"PastCatchers$Crossing", "learns", "(II)V"⟩, 17), (⟨"PastCatchers$Yard", "has", "(I)Z"⟩, 6), (⟨"PastCatchers$Yard", "together", "(I[I)I"⟩, 6), (⟨"PastCatchers$Yard", "isTrue", "(II[I)Z"⟩, 6), (⟨"PastCatchers$Crossing", "reachesOut", "(I)V"⟩, 17)]
theorem lw_r1 : ∀ q ∈ lw_privs_1, lw_okq q := List.forall_mem_cons.mpr ⟨lw_p0, List.forall_mem_cons.mpr ⟨lw_p1, List.forall_mem_cons.mpr ⟨lw_p2, List.forall_mem_cons.mpr ⟨lw_p3, List.forall_mem_cons.mpr ⟨lw_p4, List.forall_mem_cons.mpr ⟨lw_p5, List.forall_mem_cons.mpr ⟨lw_p6, List.forall_mem_cons.mpr ⟨lw_p7, List.forall_mem_cons.mpr ⟨lw_p8, List.forall_mem_cons.mpr ⟨lw_p9, List.forall_mem_cons.mpr ⟨lw_p10, List.forall_mem_cons.mpr ⟨lw_p11, List.forall_mem_cons.mpr ⟨lw_p12, List.forall_mem_cons.mpr ⟨lw_p13, List.forall_mem_cons.mpr ⟨lw_p14, List.forall_mem_cons.mpr ⟨lw_p15, fun _ h => absurd h List.not_mem_nil⟩⟩⟩⟩⟩⟩⟩⟩⟩⟩⟩⟩⟩⟩⟩⟩
theorem lw_p16 : lw_okq (⟨"PastCatchers$Crossing", "choosesWays", "()V"⟩, 17) := ⟨⟨by decide +kernel, by decide +kernel⟩, List.mem_of_getElem? (i := 95) (by decide +kernel), List.mem_of_getElem? (i := 393) (by decide +kernel), List.mem_of_getElem? (i := 394) (by decide +kernel)⟩
theorem lw_p17 : lw_okq (⟨"PastCatchers$Crossing", "wayOf", "(I)I"⟩, 17) := ⟨⟨by decide +kernel, by decide +kernel⟩, List.mem_of_getElem? (i := 95) (by decide +kernel), List.mem_of_getElem? (i := 397) (by decide +kernel), List.mem_of_getElem? (i := 398) (by decide +kernel)⟩
theorem lw_p18 : lw_okq (⟨"PastCatchers$Crossing", "strongestLane", "(I)I"⟩, 17) := ⟨⟨by decide +kernel, by decide +kernel⟩, List.mem_of_getElem? (i := 95) (by decide +kernel), List.mem_of_getElem? (i := 401) (by decide +kernel), List.mem_of_getElem? (i := 402) (by decide +kernel)⟩
theorem lw_p19 : lw_okq (⟨"PastCatchers$Crossing", "loneliestLane", "(I)I"⟩, 17) := ⟨⟨by decide +kernel, by decide +kernel⟩, List.mem_of_getElem? (i := 95) (by decide +kernel), List.mem_of_getElem? (i := 405) (by decide +kernel), List.mem_of_getElem? (i := 406) (by decide +kernel)⟩
theorem lw_p20 : lw_okq (⟨"PastCatchers$Crossing", "measuresRunners", "()V"⟩, 17) := ⟨⟨by decide +kernel, by decide +kernel⟩, List.mem_of_getElem? (i := 95) (by decide +kernel), List.mem_of_getElem? (i := 416) (by decide +kernel), List.mem_of_getElem? (i := 417) (by decide +kernel)⟩
theorem lw_p21 : lw_okq (⟨"PastCatchers$Crossing", "linesUp", "()I"⟩, 17) := ⟨⟨by decide +kernel, by decide +kernel⟩, List.mem_of_getElem? (i := 95) (by decide +kernel), List.mem_of_getElem? (i := 420) (by decide +kernel), List.mem_of_getElem? (i := 421) (by decide +kernel)⟩
theorem lw_p22 : lw_okq (⟨"PastCatchers$Crossing", "stepsIn", "(II)I"⟩, 17) := ⟨⟨by decide +kernel, by decide +kernel⟩, List.mem_of_getElem? (i := 95) (by decide +kernel), List.mem_of_getElem? (i := 424) (by decide +kernel), List.mem_of_getElem? (i := 425) (by decide +kernel)⟩
theorem lw_p23 : lw_okq (⟨"PastCatchers$Crossing", "haste", "(I)I"⟩, 17) := ⟨⟨by decide +kernel, by decide +kernel⟩, List.mem_of_getElem? (i := 95) (by decide +kernel), List.mem_of_getElem? (i := 431) (by decide +kernel), List.mem_of_getElem? (i := 432) (by decide +kernel)⟩
theorem lw_p24 : lw_okq (⟨"PastCatchers$Crossing", "followsIn", "(I)I"⟩, 17) := ⟨⟨by decide +kernel, by decide +kernel⟩, List.mem_of_getElem? (i := 95) (by decide +kernel), List.mem_of_getElem? (i := 435) (by decide +kernel), List.mem_of_getElem? (i := 436) (by decide +kernel)⟩
theorem lw_p25 : lw_okq (⟨"PastCatchers$Crossing", "reachersOf", "(I)I"⟩, 17) := ⟨⟨by decide +kernel, by decide +kernel⟩, List.mem_of_getElem? (i := 95) (by decide +kernel), List.mem_of_getElem? (i := 439) (by decide +kernel), List.mem_of_getElem? (i := 440) (by decide +kernel)⟩
theorem lw_p26 : lw_okq (⟨"PastCatchers$Crossing", "holdOf", "(I)I"⟩, 17) := ⟨⟨by decide +kernel, by decide +kernel⟩, List.mem_of_getElem? (i := 95) (by decide +kernel), List.mem_of_getElem? (i := 444) (by decide +kernel), List.mem_of_getElem? (i := 445) (by decide +kernel)⟩
theorem lw_p27 : lw_okq (⟨"PastCatchers$TextReader", "takesIn", "(I)Z"⟩, 4) := ⟨⟨by decide +kernel, by decide +kernel⟩, List.mem_of_getElem? (i := 190) (by decide +kernel), List.mem_of_getElem? (i := 464) (by decide +kernel), List.mem_of_getElem? (i := 465) (by decide +kernel)⟩
theorem lw_p28 : lw_okq (⟨"PastCatchers$TextReader", "readsInto", "(LPastCatchers$Yard;)I"⟩, 4) := ⟨⟨by decide +kernel, by decide +kernel⟩, List.mem_of_getElem? (i := 190) (by decide +kernel), List.mem_of_getElem? (i := 472) (by decide +kernel), List.mem_of_getElem? (i := 473) (by decide +kernel)⟩
theorem lw_p29 : lw_okq (⟨"PastCatchers$Yard", "clears", "()V"⟩, 6) := ⟨⟨by decide +kernel, by decide +kernel⟩, List.mem_of_getElem? (i := 103) (by decide +kernel), List.mem_of_getElem? (i := 476) (by decide +kernel), List.mem_of_getElem? (i := 477) (by decide +kernel)⟩
theorem lw_p30 : lw_okq (⟨"PastCatchers$TextReader", "readsClause", "()Z"⟩, 4) := ⟨⟨by decide +kernel, by decide +kernel⟩, List.mem_of_getElem? (i := 190) (by decide +kernel), List.mem_of_getElem? (i := 480) (by decide +kernel), List.mem_of_getElem? (i := 481) (by decide +kernel)⟩
theorem lw_p31 : lw_okq (⟨"PastCatchers$TextReader", "readsWord", "()I"⟩, 4) := ⟨⟨by decide +kernel, by decide +kernel⟩, List.mem_of_getElem? (i := 190) (by decide +kernel), List.mem_of_getElem? (i := 484) (by decide +kernel), List.mem_of_getElem? (i := 485) (by decide +kernel)⟩
def lw_privs_2 : List (MethodName × Nat) := [(⟨"PastCatchers$Crossing", "choosesWays", "()V"⟩, 17), (⟨"PastCatchers$Crossing", "wayOf", "(I)I"⟩, 17), (⟨"PastCatchers$Crossing", "strongestLane", "(I)I"⟩, 17), (⟨"PastCatchers$Crossing", "loneliestLane", "(I)I"⟩, 17), (⟨"PastCatchers$Crossing", "measuresRunners", "()V"⟩, 17), (⟨"PastCatchers$Crossing", "linesUp", "()I"⟩, 17), (⟨"PastCatchers$Crossing", "stepsIn", "(II)I"⟩, 17), (⟨"PastCatchers$Crossing", "haste", "(I)I"⟩, 17), (⟨"PastCatchers$Crossing", "followsIn", "(I)I"⟩, 17), (⟨"PastCatchers$Crossing", "reachersOf", "(I)I"⟩, 17), (⟨"PastCatchers$Crossing", "holdOf", "(I)I"⟩, 17), (⟨"PastCatchers$TextReader", "takesIn", "(I)Z"⟩, 4), (⟨"PastCatchers$TextReader", "readsInto", "(LPastCatchers$Yard;)I"⟩, 4), (⟨"PastCatchers$Yard", "clears", "()V"⟩, 6), (⟨"PastCatchers$TextReader", "readsClause", "()Z"⟩, 4), (⟨"PastCatchers$TextReader", "readsWord", "()I"⟩, 4)]
theorem lw_r2 : ∀ q ∈ lw_privs_2, lw_okq q := List.forall_mem_cons.mpr ⟨lw_p16, List.forall_mem_cons.mpr ⟨lw_p17, List.forall_mem_cons.mpr ⟨lw_p18, List.forall_mem_cons.mpr ⟨lw_p19, List.forall_mem_cons.mpr ⟨lw_p20, List.forall_mem_cons.mpr ⟨lw_p21, List.forall_mem_cons.mpr ⟨lw_p22, List.forall_mem_cons.mpr ⟨lw_p23, List.forall_mem_cons.mpr ⟨lw_p24, List.forall_mem_cons.mpr ⟨lw_p25, List.forall_mem_cons.mpr ⟨lw_p26, List.forall_mem_cons.mpr ⟨lw_p27, List.forall_mem_cons.mpr ⟨lw_p28, List.forall_mem_cons.mpr ⟨lw_p29, List.forall_mem_cons.mpr ⟨lw_p30, List.forall_mem_cons.mpr ⟨lw_p31, fun _ h => absurd h List.not_mem_nil⟩⟩⟩⟩⟩⟩⟩⟩⟩⟩⟩⟩⟩⟩⟩⟩
theorem lw_p32 : lw_okq (⟨"PastCatchers$TextReader", "takes", "(C)Z"⟩, 4) := ⟨⟨by decide +kernel, by decide +kernel⟩, List.mem_of_getElem? (i := 190) (by decide +kernel), List.mem_of_getElem? (i := 488) (by decide +kernel), List.mem_of_getElem? (i := 489) (by decide +kernel)⟩
theorem lw_p33 : lw_okq (⟨"PastCatchers$TextReader", "isWithin", "()Z"⟩, 4) := ⟨⟨by decide +kernel, by decide +kernel⟩, List.mem_of_getElem? (i := 190) (by decide +kernel), List.mem_of_getElem? (i := 492) (by decide +kernel), List.mem_of_getElem? (i := 493) (by decide +kernel)⟩
theorem lw_p34 : lw_okq (⟨"PastCatchers$TextReader", "takesAll", "(Ljava/lang/String;)Z"⟩, 4) := ⟨⟨by decide +kernel, by decide +kernel⟩, List.mem_of_getElem? (i := 190) (by decide +kernel), List.mem_of_getElem? (i := 497) (by decide +kernel), List.mem_of_getElem? (i := 498) (by decide +kernel)⟩
theorem lw_p35 : lw_okq (⟨"PastCatchers$TextReader", "readsNumber", "()I"⟩, 4) := ⟨⟨by decide +kernel, by decide +kernel⟩, List.mem_of_getElem? (i := 190) (by decide +kernel), List.mem_of_getElem? (i := 551) (by decide +kernel), List.mem_of_getElem? (i := 552) (by decide +kernel)⟩
theorem lw_p36 : lw_okq (⟨"PastCatchers$TextReader", "readsEither", "(I)Z"⟩, 4) := ⟨⟨by decide +kernel, by decide +kernel⟩, List.mem_of_getElem? (i := 190) (by decide +kernel), List.mem_of_getElem? (i := 555) (by decide +kernel), List.mem_of_getElem? (i := 556) (by decide +kernel)⟩
theorem lw_p37 : lw_okq (⟨"PastCatchers$TextReader", "readsBoth", "(I)Z"⟩, 4) := ⟨⟨by decide +kernel, by decide +kernel⟩, List.mem_of_getElem? (i := 190) (by decide +kernel), List.mem_of_getElem? (i := 559) (by decide +kernel), List.mem_of_getElem? (i := 560) (by decide +kernel)⟩
theorem lw_p38 : lw_okq (⟨"PastCatchers$TextReader", "readsOne", "(I)Z"⟩, 4) := ⟨⟨by decide +kernel, by decide +kernel⟩, List.mem_of_getElem? (i := 190) (by decide +kernel), List.mem_of_getElem? (i := 563) (by decide +kernel), List.mem_of_getElem? (i := 564) (by decide +kernel)⟩
theorem lw_p39 : lw_okq (⟨"PastCatchers$Yard", "adds", "(I)V"⟩, 6) := ⟨⟨by decide +kernel, by decide +kernel⟩, List.mem_of_getElem? (i := 103) (by decide +kernel), List.mem_of_getElem? (i := 567) (by decide +kernel), List.mem_of_getElem? (i := 568) (by decide +kernel)⟩
theorem lw_p40 : lw_okq (⟨"PastCatchers$TextReader", "takesOneOf", "(Ljava/lang/String;)I"⟩, 4) := ⟨⟨by decide +kernel, by decide +kernel⟩, List.mem_of_getElem? (i := 190) (by decide +kernel), List.mem_of_getElem? (i := 572) (by decide +kernel), List.mem_of_getElem? (i := 573) (by decide +kernel)⟩
theorem lw_p41 : lw_okq (⟨"PastCatchers$Yard", "closes", "(II)V"⟩, 6) := ⟨⟨by decide +kernel, by decide +kernel⟩, List.mem_of_getElem? (i := 103) (by decide +kernel), List.mem_of_getElem? (i := 635) (by decide +kernel), List.mem_of_getElem? (i := 636) (by decide +kernel)⟩
theorem lw_p42 : lw_okq (⟨"PastCatchers$Crossing", "goesOn", "()I"⟩, 17) := ⟨⟨by decide +kernel, by decide +kernel⟩, List.mem_of_getElem? (i := 95) (by decide +kernel), List.mem_of_getElem? (i := 653) (by decide +kernel), List.mem_of_getElem? (i := 654) (by decide +kernel)⟩
theorem lw_p43 : lw_okq (⟨"PastCatchers", "caughtFrom", "(II)I"⟩, 10) := ⟨⟨by decide +kernel, by decide +kernel⟩, List.mem_of_getElem? (i := 19) (by decide +kernel), List.mem_of_getElem? (i := 675) (by decide +kernel), List.mem_of_getElem? (i := 676) (by decide +kernel)⟩
theorem lw_p44 : lw_okq (⟨"PastCatchers$Crossing", "sends", "(II)V"⟩, 17) := ⟨⟨by decide +kernel, by decide +kernel⟩, List.mem_of_getElem? (i := 95) (by decide +kernel), List.mem_of_getElem? (i := 683) (by decide +kernel), List.mem_of_getElem? (i := 684) (by decide +kernel)⟩
theorem lw_p45 : lw_okq (⟨"PastCatchers$Group", "spreadsOut", "(I)V"⟩, 13) := ⟨⟨by decide +kernel, by decide +kernel⟩, List.mem_of_getElem? (i := 27) (by decide +kernel), List.mem_of_getElem? (i := 706) (by decide +kernel), List.mem_of_getElem? (i := 707) (by decide +kernel)⟩
theorem lw_p46 : lw_okq (⟨"PastCatchers$Crossing", "puts", "(II)V"⟩, 17) := ⟨⟨by decide +kernel, by decide +kernel⟩, List.mem_of_getElem? (i := 95) (by decide +kernel), List.mem_of_getElem? (i := 715) (by decide +kernel), List.mem_of_getElem? (i := 716) (by decide +kernel)⟩
theorem lw_p47 : lw_okq (⟨"PastCatchers$Group", "areAll", "(I)Z"⟩, 13) := ⟨⟨by decide +kernel, by decide +kernel⟩, List.mem_of_getElem? (i := 27) (by decide +kernel), List.mem_of_getElem? (i := 723) (by decide +kernel), List.mem_of_getElem? (i := 724) (by decide +kernel)⟩
def lw_privs_3 : List (MethodName × Nat) := [(⟨"PastCatchers$TextReader", "takes", "(C)Z"⟩, 4), (⟨"PastCatchers$TextReader", "isWithin", "()Z"⟩, 4), (⟨"PastCatchers$TextReader", "takesAll", "(Ljava/lang/String;)Z"⟩, 4), (⟨"PastCatchers$TextReader", "readsNumber", "()I"⟩, 4), (⟨"PastCatchers$TextReader", "readsEither", "(I)Z"⟩, 4), (⟨"PastCatchers$TextReader", "readsBoth", "(I)Z"⟩, 4), (⟨"PastCatchers$TextReader", "readsOne", "(I)Z"⟩, 4), (⟨"PastCatchers$Yard", "adds", "(I)V"⟩, 6), (⟨"PastCatchers$TextReader", "takesOneOf", "(Ljava/lang/String;)I"⟩, 4), (⟨"PastCatchers$Yard", "closes", "(II)V"⟩, 6), (⟨"PastCatchers$Crossing", "goesOn", "()I"⟩, 17), (⟨"PastCatchers", "caughtFrom", "(II)I"⟩, 10), (⟨"PastCatchers$Crossing", "sends", "(II)V"⟩, 17), (⟨"PastCatchers$Group", "spreadsOut", "(I)V"⟩, 13), (⟨"PastCatchers$Crossing", "puts", "(II)V"⟩, 17), (⟨"PastCatchers$Group", "areAll", "(I)Z"⟩, 13)]
theorem lw_r3 : ∀ q ∈ lw_privs_3, lw_okq q := List.forall_mem_cons.mpr ⟨lw_p32, List.forall_mem_cons.mpr ⟨lw_p33, List.forall_mem_cons.mpr ⟨lw_p34, List.forall_mem_cons.mpr ⟨lw_p35, List.forall_mem_cons.mpr ⟨lw_p36, List.forall_mem_cons.mpr ⟨lw_p37, List.forall_mem_cons.mpr ⟨lw_p38, List.forall_mem_cons.mpr ⟨lw_p39, List.forall_mem_cons.mpr ⟨lw_p40, List.forall_mem_cons.mpr ⟨lw_p41, List.forall_mem_cons.mpr ⟨lw_p42, List.forall_mem_cons.mpr ⟨lw_p43, List.forall_mem_cons.mpr ⟨lw_p44, List.forall_mem_cons.mpr ⟨lw_p45, List.forall_mem_cons.mpr ⟨lw_p46, List.forall_mem_cons.mpr ⟨lw_p47, fun _ h => absurd h List.not_mem_nil⟩⟩⟩⟩⟩⟩⟩⟩⟩⟩⟩⟩⟩⟩⟩⟩
theorem lw_p48 : lw_okq (⟨"PastCatchers$Tapes", "exists", "(I)Z"⟩, 3) := ⟨⟨by decide +kernel, by decide +kernel⟩, List.mem_of_getElem? (i := 239) (by decide +kernel), List.mem_of_getElem? (i := 755) (by decide +kernel), List.mem_of_getElem? (i := 756) (by decide +kernel)⟩
theorem lw_p49 : lw_okq (⟨"PastCatchers$Tapes", "hasPlace", "(IJ)Z"⟩, 3) := ⟨⟨by decide +kernel, by decide +kernel⟩, List.mem_of_getElem? (i := 239) (by decide +kernel), List.mem_of_getElem? (i := 759) (by decide +kernel), List.mem_of_getElem? (i := 760) (by decide +kernel)⟩
theorem lw_p50 : lw_okq (⟨"PastCatchers$Acts", "does", "(IIII)I"⟩, 5) := ⟨⟨by decide +kernel, by decide +kernel⟩, List.mem_of_getElem? (i := 212) (by decide +kernel), List.mem_of_getElem? (i := 778) (by decide +kernel), List.mem_of_getElem? (i := 779) (by decide +kernel)⟩
theorem lw_p51 : lw_okq (⟨"PastCatchers$Acts", "begins", "(I)V"⟩, 5) := ⟨⟨by decide +kernel, by decide +kernel⟩, List.mem_of_getElem? (i := 212) (by decide +kernel), List.mem_of_getElem? (i := 789) (by decide +kernel), List.mem_of_getElem? (i := 790) (by decide +kernel)⟩
theorem lw_p52 : lw_okq (⟨"PastCatchers$Tapes", "becomes", "(III)V"⟩, 3) := ⟨⟨by decide +kernel, by decide +kernel⟩, List.mem_of_getElem? (i := 239) (by decide +kernel), List.mem_of_getElem? (i := 811) (by decide +kernel), List.mem_of_getElem? (i := 812) (by decide +kernel)⟩
theorem lw_p53 : lw_okq (⟨"PastCatchers$Tapes", "hasPart", "(III)Z"⟩, 3) := ⟨⟨by decide +kernel, by decide +kernel⟩, List.mem_of_getElem? (i := 239) (by decide +kernel), List.mem_of_getElem? (i := 833) (by decide +kernel), List.mem_of_getElem? (i := 834) (by decide +kernel)⟩
theorem lw_p54 : lw_okq (⟨"PastCatchersModel", "in", "(III)Z"⟩, 64) := ⟨⟨by decide +kernel, by decide +kernel⟩, List.mem_of_getElem? (i := 838) (by decide +kernel), List.mem_of_getElem? (i := 1042) (by decide +kernel), List.mem_of_getElem? (i := 1043) (by decide +kernel)⟩
theorem lw_p55 : lw_okq (⟨"PastCatchersModel", "isPerson", "(I)Z"⟩, 64) := ⟨⟨by decide +kernel, by decide +kernel⟩, List.mem_of_getElem? (i := 838) (by decide +kernel), List.mem_of_getElem? (i := 1050) (by decide +kernel), List.mem_of_getElem? (i := 1051) (by decide +kernel)⟩
theorem lw_p56 : lw_okq (⟨"PastCatchersModel", "goesText", "(I)Z"⟩, 64) := ⟨⟨by decide +kernel, by decide +kernel⟩, List.mem_of_getElem? (i := 838) (by decide +kernel), List.mem_of_getElem? (i := 1070) (by decide +kernel), List.mem_of_getElem? (i := 1071) (by decide +kernel)⟩
theorem lw_p57 : lw_okq (⟨"PastCatchersModel", "takesClause", "(I)Z"⟩, 64) := ⟨⟨by decide +kernel, by decide +kernel⟩, List.mem_of_getElem? (i := 838) (by decide +kernel), List.mem_of_getElem? (i := 1074) (by decide +kernel), List.mem_of_getElem? (i := 1075) (by decide +kernel)⟩
theorem lw_p58 : lw_okq (⟨"PastCatchersModel", "takesHead", "(I)Z"⟩, 64) := ⟨⟨by decide +kernel, by decide +kernel⟩, List.mem_of_getElem? (i := 838) (by decide +kernel), List.mem_of_getElem? (i := 1078) (by decide +kernel), List.mem_of_getElem? (i := 1079) (by decide +kernel)⟩
theorem lw_p59 : lw_okq (⟨"PastCatchersModel", "next", "()I"⟩, 64) := ⟨⟨by decide +kernel, by decide +kernel⟩, List.mem_of_getElem? (i := 838) (by decide +kernel), List.mem_of_getElem? (i := 1082) (by decide +kernel), List.mem_of_getElem? (i := 1083) (by decide +kernel)⟩
theorem lw_p60 : lw_okq (⟨"PastCatchersModel", "takesWord", "(II)Z"⟩, 64) := ⟨⟨by decide +kernel, by decide +kernel⟩, List.mem_of_getElem? (i := 838) (by decide +kernel), List.mem_of_getElem? (i := 1086) (by decide +kernel), List.mem_of_getElem? (i := 1087) (by decide +kernel)⟩
theorem lw_p61 : lw_okq (⟨"PastCatchersModel", "takes", "(I)Z"⟩, 64) := ⟨⟨by decide +kernel, by decide +kernel⟩, List.mem_of_getElem? (i := 838) (by decide +kernel), List.mem_of_getElem? (i := 1090) (by decide +kernel), List.mem_of_getElem? (i := 1091) (by decide +kernel)⟩
theorem lw_p62 : lw_okq (⟨"PastCatchersModel", "takesNumber", "()Z"⟩, 64) := ⟨⟨by decide +kernel, by decide +kernel⟩, List.mem_of_getElem? (i := 838) (by decide +kernel), List.mem_of_getElem? (i := 1094) (by decide +kernel), List.mem_of_getElem? (i := 1095) (by decide +kernel)⟩
theorem lw_p63 : lw_okq (⟨"PastCatchersModel", "isDigit", "()Z"⟩, 64) := ⟨⟨by decide +kernel, by decide +kernel⟩, List.mem_of_getElem? (i := 838) (by decide +kernel), List.mem_of_getElem? (i := 1098) (by decide +kernel), List.mem_of_getElem? (i := 1099) (by decide +kernel)⟩
def lw_privs_4 : List (MethodName × Nat) := [(⟨"PastCatchers$Tapes", "exists", "(I)Z"⟩, 3), (⟨"PastCatchers$Tapes", "hasPlace", "(IJ)Z"⟩, 3), (⟨"PastCatchers$Acts", "does", "(IIII)I"⟩, 5), (⟨"PastCatchers$Acts", "begins", "(I)V"⟩, 5), (⟨"PastCatchers$Tapes", "becomes", "(III)V"⟩, 3), (⟨"PastCatchers$Tapes", "hasPart", "(III)Z"⟩, 3), (⟨"PastCatchersModel", "in", "(III)Z"⟩, 64), (⟨"PastCatchersModel", "isPerson", "(I)Z"⟩, 64), (⟨"PastCatchersModel", "goesText", "(I)Z"⟩, 64), (⟨"PastCatchersModel", "takesClause", "(I)Z"⟩, 64), (⟨"PastCatchersModel", "takesHead", "(I)Z"⟩, 64), (⟨"PastCatchersModel", "next", "()I"⟩, 64), (⟨"PastCatchersModel", "takesWord", "(II)Z"⟩, 64), (⟨"PastCatchersModel", "takes", "(I)Z"⟩, 64), (⟨"PastCatchersModel", "takesNumber", "()Z"⟩, 64), (⟨"PastCatchersModel", "isDigit", "()Z"⟩, 64)]
theorem lw_r4 : ∀ q ∈ lw_privs_4, lw_okq q := List.forall_mem_cons.mpr ⟨lw_p48, List.forall_mem_cons.mpr ⟨lw_p49, List.forall_mem_cons.mpr ⟨lw_p50, List.forall_mem_cons.mpr ⟨lw_p51, List.forall_mem_cons.mpr ⟨lw_p52, List.forall_mem_cons.mpr ⟨lw_p53, List.forall_mem_cons.mpr ⟨lw_p54, List.forall_mem_cons.mpr ⟨lw_p55, List.forall_mem_cons.mpr ⟨lw_p56, List.forall_mem_cons.mpr ⟨lw_p57, List.forall_mem_cons.mpr ⟨lw_p58, List.forall_mem_cons.mpr ⟨lw_p59, List.forall_mem_cons.mpr ⟨lw_p60, List.forall_mem_cons.mpr ⟨lw_p61, List.forall_mem_cons.mpr ⟨lw_p62, List.forall_mem_cons.mpr ⟨lw_p63, fun _ h => absurd h List.not_mem_nil⟩⟩⟩⟩⟩⟩⟩⟩⟩⟩⟩⟩⟩⟩⟩⟩
theorem lw_p64 : lw_okq (⟨"PastCatchersModel", "takesE", "(I)Z"⟩, 64) := ⟨⟨by decide +kernel, by decide +kernel⟩, List.mem_of_getElem? (i := 838) (by decide +kernel), List.mem_of_getElem? (i := 1102) (by decide +kernel), List.mem_of_getElem? (i := 1103) (by decide +kernel)⟩
theorem lw_p65 : lw_okq (⟨"PastCatchersModel", "takesTest", "()Z"⟩, 64) := ⟨⟨by decide +kernel, by decide +kernel⟩, List.mem_of_getElem? (i := 838) (by decide +kernel), List.mem_of_getElem? (i := 1106) (by decide +kernel), List.mem_of_getElem? (i := 1107) (by decide +kernel)⟩
theorem lw_p66 : lw_okq (⟨"PastCatchersModel", "place", "(I)I"⟩, 64) := ⟨⟨by decide +kernel, by decide +kernel⟩, List.mem_of_getElem? (i := 838) (by decide +kernel), List.mem_of_getElem? (i := 1110) (by decide +kernel), List.mem_of_getElem? (i := 1111) (by decide +kernel)⟩
theorem lw_p67 : lw_okq (⟨"PastCatchersModel", "emits", "(I)V"⟩, 64) := ⟨⟨by decide +kernel, by decide +kernel⟩, List.mem_of_getElem? (i := 838) (by decide +kernel), List.mem_of_getElem? (i := 1114) (by decide +kernel), List.mem_of_getElem? (i := 1115) (by decide +kernel)⟩
theorem lw_p68 : lw_okq (⟨"PastCatchersModel", "whole", "()V"⟩, 64) := ⟨⟨by decide +kernel, by decide +kernel⟩, List.mem_of_getElem? (i := 838) (by decide +kernel), List.mem_of_getElem? (i := 1118) (by decide +kernel), List.mem_of_getElem? (i := 1119) (by decide +kernel)⟩
theorem lw_p69 : lw_okq (⟨"PastCatchersModel", "settle", "(I)V"⟩, 64) := ⟨⟨by decide +kernel, by decide +kernel⟩, List.mem_of_getElem? (i := 838) (by decide +kernel), List.mem_of_getElem? (i := 1122) (by decide +kernel), List.mem_of_getElem? (i := 1123) (by decide +kernel)⟩
theorem lw_p70 : lw_okq (⟨"PastCatchersModel", "isRunning", "(I)Z"⟩, 64) := ⟨⟨by decide +kernel, by decide +kernel⟩, List.mem_of_getElem? (i := 838) (by decide +kernel), List.mem_of_getElem? (i := 1130) (by decide +kernel), List.mem_of_getElem? (i := 1131) (by decide +kernel)⟩
theorem lw_p71 : lw_okq (⟨"PastCatchersModel", "has", "(II)Z"⟩, 64) := ⟨⟨by decide +kernel, by decide +kernel⟩, List.mem_of_getElem? (i := 838) (by decide +kernel), List.mem_of_getElem? (i := 1134) (by decide +kernel), List.mem_of_getElem? (i := 1135) (by decide +kernel)⟩
theorem lw_p72 : lw_okq (⟨"PastCatchersModel", "wayOf", "(I)I"⟩, 64) := ⟨⟨by decide +kernel, by decide +kernel⟩, List.mem_of_getElem? (i := 838) (by decide +kernel), List.mem_of_getElem? (i := 1138) (by decide +kernel), List.mem_of_getElem? (i := 1139) (by decide +kernel)⟩
theorem lw_p73 : lw_okq (⟨"PastCatchersModel", "shieldedWay", "(I)I"⟩, 64) := ⟨⟨by decide +kernel, by decide +kernel⟩, List.mem_of_getElem? (i := 838) (by decide +kernel), List.mem_of_getElem? (i := 1142) (by decide +kernel), List.mem_of_getElem? (i := 1143) (by decide +kernel)⟩
theorem lw_p74 : lw_okq (⟨"PastCatchersModel", "seekingWay", "(I)I"⟩, 64) := ⟨⟨by decide +kernel, by decide +kernel⟩, List.mem_of_getElem? (i := 838) (by decide +kernel), List.mem_of_getElem? (i := 1146) (by decide +kernel), List.mem_of_getElem? (i := 1147) (by decide +kernel)⟩
theorem lw_p75 : lw_okq (⟨"PastCatchersModel", "manyReach", "(I)I"⟩, 64) := ⟨⟨by decide +kernel, by decide +kernel⟩, List.mem_of_getElem? (i := 838) (by decide +kernel), List.mem_of_getElem? (i := 1150) (by decide +kernel), List.mem_of_getElem? (i := 1151) (by decide +kernel)⟩
theorem lw_p76 : lw_okq (⟨"PastCatchersModel", "reaches", "(II)Z"⟩, 64) := ⟨⟨by decide +kernel, by decide +kernel⟩, List.mem_of_getElem? (i := 838) (by decide +kernel), List.mem_of_getElem? (i := 1154) (by decide +kernel), List.mem_of_getElem? (i := 1155) (by decide +kernel)⟩
theorem lw_p77 : lw_okq (⟨"PastCatchersModel", "apart", "(II)I"⟩, 64) := ⟨⟨by decide +kernel, by decide +kernel⟩, List.mem_of_getElem? (i := 838) (by decide +kernel), List.mem_of_getElem? (i := 1158) (by decide +kernel), List.mem_of_getElem? (i := 1159) (by decide +kernel)⟩
theorem lw_p78 : lw_okq (⟨"PastCatchersModel", "reachOf", "(I)I"⟩, 64) := ⟨⟨by decide +kernel, by decide +kernel⟩, List.mem_of_getElem? (i := 838) (by decide +kernel), List.mem_of_getElem? (i := 1162) (by decide +kernel), List.mem_of_getElem? (i := 1163) (by decide +kernel)⟩
theorem lw_p79 : lw_okq (⟨"PastCatchersModel", "sumOf", "(IIII)I"⟩, 64) := ⟨⟨by decide +kernel, by decide +kernel⟩, List.mem_of_getElem? (i := 838) (by decide +kernel), List.mem_of_getElem? (i := 1166) (by decide +kernel), List.mem_of_getElem? (i := 1167) (by decide +kernel)⟩
def lw_privs_5 : List (MethodName × Nat) := [(⟨"PastCatchersModel", "takesE", "(I)Z"⟩, 64), (⟨"PastCatchersModel", "takesTest", "()Z"⟩, 64), (⟨"PastCatchersModel", "place", "(I)I"⟩, 64), (⟨"PastCatchersModel", "emits", "(I)V"⟩, 64), (⟨"PastCatchersModel", "whole", "()V"⟩, 64), (⟨"PastCatchersModel", "settle", "(I)V"⟩, 64), (⟨"PastCatchersModel", "isRunning", "(I)Z"⟩, 64), (⟨"PastCatchersModel", "has", "(II)Z"⟩, 64), (⟨"PastCatchersModel", "wayOf", "(I)I"⟩, 64), (⟨"PastCatchersModel", "shieldedWay", "(I)I"⟩, 64), (⟨"PastCatchersModel", "seekingWay", "(I)I"⟩, 64), (⟨"PastCatchersModel", "manyReach", "(I)I"⟩, 64), (⟨"PastCatchersModel", "reaches", "(II)Z"⟩, 64), (⟨"PastCatchersModel", "apart", "(II)I"⟩, 64), (⟨"PastCatchersModel", "reachOf", "(I)I"⟩, 64), (⟨"PastCatchersModel", "sumOf", "(IIII)I"⟩, 64)]
theorem lw_r5 : ∀ q ∈ lw_privs_5, lw_okq q := List.forall_mem_cons.mpr ⟨lw_p64, List.forall_mem_cons.mpr ⟨lw_p65, List.forall_mem_cons.mpr ⟨lw_p66, List.forall_mem_cons.mpr ⟨lw_p67, List.forall_mem_cons.mpr ⟨lw_p68, List.forall_mem_cons.mpr ⟨lw_p69, List.forall_mem_cons.mpr ⟨lw_p70, List.forall_mem_cons.mpr ⟨lw_p71, List.forall_mem_cons.mpr ⟨lw_p72, List.forall_mem_cons.mpr ⟨lw_p73, List.forall_mem_cons.mpr ⟨lw_p74, List.forall_mem_cons.mpr ⟨lw_p75, List.forall_mem_cons.mpr ⟨lw_p76, List.forall_mem_cons.mpr ⟨lw_p77, List.forall_mem_cons.mpr ⟨lw_p78, List.forall_mem_cons.mpr ⟨lw_p79, fun _ h => absurd h List.not_mem_nil⟩⟩⟩⟩⟩⟩⟩⟩⟩⟩⟩⟩⟩⟩⟩⟩
theorem lw_p80 : lw_okq (⟨"PastCatchersModel", "begin", "()I"⟩, 64) := ⟨⟨by decide +kernel, by decide +kernel⟩, List.mem_of_getElem? (i := 838) (by decide +kernel), List.mem_of_getElem? (i := 1170) (by decide +kernel), List.mem_of_getElem? (i := 1171) (by decide +kernel)⟩
theorem lw_p81 : lw_okq (⟨"PastCatchersModel", "behindText", "()I"⟩, 64) := ⟨⟨by decide +kernel, by decide +kernel⟩, List.mem_of_getElem? (i := 838) (by decide +kernel), List.mem_of_getElem? (i := 1174) (by decide +kernel), List.mem_of_getElem? (i := 1175) (by decide +kernel)⟩
theorem lw_p82 : lw_okq (⟨"PastCatchersModel", "isSo", "(III)Z"⟩, 64) := ⟨⟨by decide +kernel, by decide +kernel⟩, List.mem_of_getElem? (i := 838) (by decide +kernel), List.mem_of_getElem? (i := 1178) (by decide +kernel), List.mem_of_getElem? (i := 1179) (by decide +kernel)⟩
theorem lw_p83 : lw_okq (⟨"PastCatchersModel", "factOf", "(III)I"⟩, 64) := ⟨⟨by decide +kernel, by decide +kernel⟩, List.mem_of_getElem? (i := 838) (by decide +kernel), List.mem_of_getElem? (i := 1182) (by decide +kernel), List.mem_of_getElem? (i := 1183) (by decide +kernel)⟩
theorem lw_p84 : lw_okq (⟨"PastCatchersModel", "holdOf", "(I)I"⟩, 64) := ⟨⟨by decide +kernel, by decide +kernel⟩, List.mem_of_getElem? (i := 838) (by decide +kernel), List.mem_of_getElem? (i := 1186) (by decide +kernel), List.mem_of_getElem? (i := 1187) (by decide +kernel)⟩
theorem lw_p85 : lw_okq (⟨"PastCatchersModel", "slipOf", "(I)I"⟩, 64) := ⟨⟨by decide +kernel, by decide +kernel⟩, List.mem_of_getElem? (i := 838) (by decide +kernel), List.mem_of_getElem? (i := 1190) (by decide +kernel), List.mem_of_getElem? (i := 1191) (by decide +kernel)⟩
theorem lw_p86 : lw_okq (⟨"PastCatchersModel", "allSet", "()I"⟩, 64) := ⟨⟨by decide +kernel, by decide +kernel⟩, List.mem_of_getElem? (i := 838) (by decide +kernel), List.mem_of_getElem? (i := 1198) (by decide +kernel), List.mem_of_getElem? (i := 1199) (by decide +kernel)⟩
theorem lw_p87 : lw_okq (⟨"PastCatchersModel", "goShout", "()I"⟩, 64) := ⟨⟨by decide +kernel, by decide +kernel⟩, List.mem_of_getElem? (i := 838) (by decide +kernel), List.mem_of_getElem? (i := 1206) (by decide +kernel), List.mem_of_getElem? (i := 1207) (by decide +kernel)⟩
theorem lw_p88 : lw_okq (⟨"PastCatchersModel", "caughtNow", "()I"⟩, 64) := ⟨⟨by decide +kernel, by decide +kernel⟩, List.mem_of_getElem? (i := 838) (by decide +kernel), List.mem_of_getElem? (i := 1210) (by decide +kernel), List.mem_of_getElem? (i := 1211) (by decide +kernel)⟩
theorem lw_p89 : lw_okq (⟨"PastCatchersModel", "layOrder", "()V"⟩, 64) := ⟨⟨by decide +kernel, by decide +kernel⟩, List.mem_of_getElem? (i := 838) (by decide +kernel), List.mem_of_getElem? (i := 1214) (by decide +kernel), List.mem_of_getElem? (i := 1215) (by decide +kernel)⟩
theorem lw_p90 : lw_okq (⟨"PastCatchersModel", "isAhead", "(II)Z"⟩, 64) := ⟨⟨by decide +kernel, by decide +kernel⟩, List.mem_of_getElem? (i := 838) (by decide +kernel), List.mem_of_getElem? (i := 1218) (by decide +kernel), List.mem_of_getElem? (i := 1219) (by decide +kernel)⟩
theorem lw_p91 : lw_okq (⟨"PastCatchersModel", "waits", "(I)Z"⟩, 64) := ⟨⟨by decide +kernel, by decide +kernel⟩, List.mem_of_getElem? (i := 838) (by decide +kernel), List.mem_of_getElem? (i := 1222) (by decide +kernel), List.mem_of_getElem? (i := 1223) (by decide +kernel)⟩
theorem lw_p92 : lw_okq (⟨"PastCatchersModel", "putAt", "(II)V"⟩, 64) := ⟨⟨by decide +kernel, by decide +kernel⟩, List.mem_of_getElem? (i := 838) (by decide +kernel), List.mem_of_getElem? (i := 1226) (by decide +kernel), List.mem_of_getElem? (i := 1227) (by decide +kernel)⟩
theorem lw_p93 : lw_okq (⟨"PastCatchersModel", "meeting", "(II)I"⟩, 64) := ⟨⟨by decide +kernel, by decide +kernel⟩, List.mem_of_getElem? (i := 838) (by decide +kernel), List.mem_of_getElem? (i := 1230) (by decide +kernel), List.mem_of_getElem? (i := 1231) (by decide +kernel)⟩
theorem lw_p94 : lw_okq (⟨"PastCatchersModel", "heldBy", "(I)I"⟩, 64) := ⟨⟨by decide +kernel, by decide +kernel⟩, List.mem_of_getElem? (i := 838) (by decide +kernel), List.mem_of_getElem? (i := 1234) (by decide +kernel), List.mem_of_getElem? (i := 1235) (by decide +kernel)⟩
theorem lw_p95 : lw_okq (⟨"PastCatchersModel", "save", "()V"⟩, 64) := ⟨⟨by decide +kernel, by decide +kernel⟩, List.mem_of_getElem? (i := 838) (by decide +kernel), List.mem_of_getElem? (i := 1242) (by decide +kernel), List.mem_of_getElem? (i := 1243) (by decide +kernel)⟩
def lw_privs_6 : List (MethodName × Nat) := [(⟨"PastCatchersModel", "begin", "()I"⟩, 64), (⟨"PastCatchersModel", "behindText", "()I"⟩, 64), (⟨"PastCatchersModel", "isSo", "(III)Z"⟩, 64), (⟨"PastCatchersModel", "factOf", "(III)I"⟩, 64), (⟨"PastCatchersModel", "holdOf", "(I)I"⟩, 64), (⟨"PastCatchersModel", "slipOf", "(I)I"⟩, 64), (⟨"PastCatchersModel", "allSet", "()I"⟩, 64), (⟨"PastCatchersModel", "goShout", "()I"⟩, 64), (⟨"PastCatchersModel", "caughtNow", "()I"⟩, 64), (⟨"PastCatchersModel", "layOrder", "()V"⟩, 64), (⟨"PastCatchersModel", "isAhead", "(II)Z"⟩, 64), (⟨"PastCatchersModel", "waits", "(I)Z"⟩, 64), (⟨"PastCatchersModel", "putAt", "(II)V"⟩, 64), (⟨"PastCatchersModel", "meeting", "(II)I"⟩, 64), (⟨"PastCatchersModel", "heldBy", "(I)I"⟩, 64), (⟨"PastCatchersModel", "save", "()V"⟩, 64)]
theorem lw_r6 : ∀ q ∈ lw_privs_6, lw_okq q := List.forall_mem_cons.mpr ⟨lw_p80, List.forall_mem_cons.mpr ⟨lw_p81, List.forall_mem_cons.mpr ⟨lw_p82, List.forall_mem_cons.mpr ⟨lw_p83, List.forall_mem_cons.mpr ⟨lw_p84, List.forall_mem_cons.mpr ⟨lw_p85, List.forall_mem_cons.mpr ⟨lw_p86, List.forall_mem_cons.mpr ⟨lw_p87, List.forall_mem_cons.mpr ⟨lw_p88, List.forall_mem_cons.mpr ⟨lw_p89, List.forall_mem_cons.mpr ⟨lw_p90, List.forall_mem_cons.mpr ⟨lw_p91, List.forall_mem_cons.mpr ⟨lw_p92, List.forall_mem_cons.mpr ⟨lw_p93, List.forall_mem_cons.mpr ⟨lw_p94, List.forall_mem_cons.mpr ⟨lw_p95, fun _ h => absurd h List.not_mem_nil⟩⟩⟩⟩⟩⟩⟩⟩⟩⟩⟩⟩⟩⟩⟩⟩
theorem lw_p96 : lw_okq (⟨"PastCatchersModel", "ones", "(I)I"⟩, 64) := ⟨⟨by decide +kernel, by decide +kernel⟩, List.mem_of_getElem? (i := 838) (by decide +kernel), List.mem_of_getElem? (i := 1246) (by decide +kernel), List.mem_of_getElem? (i := 1247) (by decide +kernel)⟩
theorem lw_p97 : lw_okq (⟨"PastCatchersModel", "putBack", "()V"⟩, 64) := ⟨⟨by decide +kernel, by decide +kernel⟩, List.mem_of_getElem? (i := 838) (by decide +kernel), List.mem_of_getElem? (i := 1250) (by decide +kernel), List.mem_of_getElem? (i := 1251) (by decide +kernel)⟩
theorem lw_p98 : lw_okq (⟨"PastCatchersModel", "theOne", "(I)I"⟩, 64) := ⟨⟨by decide +kernel, by decide +kernel⟩, List.mem_of_getElem? (i := 838) (by decide +kernel), List.mem_of_getElem? (i := 1258) (by decide +kernel), List.mem_of_getElem? (i := 1259) (by decide +kernel)⟩
theorem lw_p99 : lw_okq (⟨"PastCatchersModel", "standAll", "()V"⟩, 64) := ⟨⟨by decide +kernel, by decide +kernel⟩, List.mem_of_getElem? (i := 838) (by decide +kernel), List.mem_of_getElem? (i := 1290) (by decide +kernel), List.mem_of_getElem? (i := 1291) (by decide +kernel)⟩
theorem lw_p100 : lw_okq (⟨"PastCatchersModel", "nextRow", "(I)Z"⟩, 64) := ⟨⟨by decide +kernel, by decide +kernel⟩, List.mem_of_getElem? (i := 838) (by decide +kernel), List.mem_of_getElem? (i := 1294) (by decide +kernel), List.mem_of_getElem? (i := 1295) (by decide +kernel)⟩
theorem lw_p101 : lw_okq (⟨"PastCatchersModel", "lowest", "(III)J"⟩, 64) := ⟨⟨by decide +kernel, by decide +kernel⟩, List.mem_of_getElem? (i := 838) (by decide +kernel), List.mem_of_getElem? (i := 1315) (by decide +kernel), List.mem_of_getElem? (i := 1316) (by decide +kernel)⟩
theorem lw_p102 : lw_okq (⟨"PastCatchersModel", "divisor", "(II)I"⟩, 64) := ⟨⟨by decide +kernel, by decide +kernel⟩, List.mem_of_getElem? (i := 838) (by decide +kernel), List.mem_of_getElem? (i := 1319) (by decide +kernel), List.mem_of_getElem? (i := 1320) (by decide +kernel)⟩
theorem lw_p103 : lw_okq (⟨"PastCatchersModel", "isTape", "(I)Z"⟩, 64) := ⟨⟨by decide +kernel, by decide +kernel⟩, List.mem_of_getElem? (i := 838) (by decide +kernel), List.mem_of_getElem? (i := 1339) (by decide +kernel), List.mem_of_getElem? (i := 1340) (by decide +kernel)⟩
theorem lw_p104 : lw_okq (⟨"PastCatchersModel", "runsAct", "(II)I"⟩, 64) := ⟨⟨by decide +kernel, by decide +kernel⟩, List.mem_of_getElem? (i := 838) (by decide +kernel), List.mem_of_getElem? (i := 1355) (by decide +kernel), List.mem_of_getElem? (i := 1356) (by decide +kernel)⟩
theorem lw_p105 : lw_okq (⟨"PastCatchersModel", "body", "(I)V"⟩, 64) := ⟨⟨by decide +kernel, by decide +kernel⟩, List.mem_of_getElem? (i := 838) (by decide +kernel), List.mem_of_getElem? (i := 1359) (by decide +kernel), List.mem_of_getElem? (i := 1360) (by decide +kernel)⟩
theorem lw_p106 : lw_okq (⟨"PastCatchersModel", "runnerRuns", "(II)I"⟩, 64) := ⟨⟨by decide +kernel, by decide +kernel⟩, List.mem_of_getElem? (i := 838) (by decide +kernel), List.mem_of_getElem? (i := 1363) (by decide +kernel), List.mem_of_getElem? (i := 1364) (by decide +kernel)⟩
theorem lw_p107 : lw_okq (⟨"PastCatchersModel", "holdsAct", "(II)I"⟩, 64) := ⟨⟨by decide +kernel, by decide +kernel⟩, List.mem_of_getElem? (i := 838) (by decide +kernel), List.mem_of_getElem? (i := 1367) (by decide +kernel), List.mem_of_getElem? (i := 1368) (by decide +kernel)⟩
theorem lw_p108 : lw_okq (⟨"PastCatchersModel", "edgedHolds", "(II)I"⟩, 64) := ⟨⟨by decide +kernel, by decide +kernel⟩, List.mem_of_getElem? (i := 838) (by decide +kernel), List.mem_of_getElem? (i := 1371) (by decide +kernel), List.mem_of_getElem? (i := 1372) (by decide +kernel)⟩
theorem lw_p109 : lw_okq (⟨"PastCatchersModel", "runnerHolds", "(II)I"⟩, 64) := ⟨⟨by decide +kernel, by decide +kernel⟩, List.mem_of_getElem? (i := 838) (by decide +kernel), List.mem_of_getElem? (i := 1375) (by decide +kernel), List.mem_of_getElem? (i := 1376) (by decide +kernel)⟩
theorem lw_p110 : lw_okq (⟨"PastCatchersModel", "tellsAct", "(II)I"⟩, 64) := ⟨⟨by decide +kernel, by decide +kernel⟩, List.mem_of_getElem? (i := 838) (by decide +kernel), List.mem_of_getElem? (i := 1379) (by decide +kernel), List.mem_of_getElem? (i := 1380) (by decide +kernel)⟩
theorem lw_p111 : lw_okq (⟨"PastCatchersModel", "runnerTells", "(II)I"⟩, 64) := ⟨⟨by decide +kernel, by decide +kernel⟩, List.mem_of_getElem? (i := 838) (by decide +kernel), List.mem_of_getElem? (i := 1383) (by decide +kernel), List.mem_of_getElem? (i := 1384) (by decide +kernel)⟩
def lw_privs_7 : List (MethodName × Nat) := [(⟨"PastCatchersModel", "ones", "(I)I"⟩, 64), (⟨"PastCatchersModel", "putBack", "()V"⟩, 64), (⟨"PastCatchersModel", "theOne", "(I)I"⟩, 64), (⟨"PastCatchersModel", "standAll", "()V"⟩, 64), (⟨"PastCatchersModel", "nextRow", "(I)Z"⟩, 64), (⟨"PastCatchersModel", "lowest", "(III)J"⟩, 64), (⟨"PastCatchersModel", "divisor", "(II)I"⟩, 64), (⟨"PastCatchersModel", "isTape", "(I)Z"⟩, 64), (⟨"PastCatchersModel", "runsAct", "(II)I"⟩, 64), (⟨"PastCatchersModel", "body", "(I)V"⟩, 64), (⟨"PastCatchersModel", "runnerRuns", "(II)I"⟩, 64), (⟨"PastCatchersModel", "holdsAct", "(II)I"⟩, 64), (⟨"PastCatchersModel", "edgedHolds", "(II)I"⟩, 64), (⟨"PastCatchersModel", "runnerHolds", "(II)I"⟩, 64), (⟨"PastCatchersModel", "tellsAct", "(II)I"⟩, 64), (⟨"PastCatchersModel", "runnerTells", "(II)I"⟩, 64)]
theorem lw_r7 : ∀ q ∈ lw_privs_7, lw_okq q := List.forall_mem_cons.mpr ⟨lw_p96, List.forall_mem_cons.mpr ⟨lw_p97, List.forall_mem_cons.mpr ⟨lw_p98, List.forall_mem_cons.mpr ⟨lw_p99, List.forall_mem_cons.mpr ⟨lw_p100, List.forall_mem_cons.mpr ⟨lw_p101, List.forall_mem_cons.mpr ⟨lw_p102, List.forall_mem_cons.mpr ⟨lw_p103, List.forall_mem_cons.mpr ⟨lw_p104, List.forall_mem_cons.mpr ⟨lw_p105, List.forall_mem_cons.mpr ⟨lw_p106, List.forall_mem_cons.mpr ⟨lw_p107, List.forall_mem_cons.mpr ⟨lw_p108, List.forall_mem_cons.mpr ⟨lw_p109, List.forall_mem_cons.mpr ⟨lw_p110, List.forall_mem_cons.mpr ⟨lw_p111, fun _ h => absurd h List.not_mem_nil⟩⟩⟩⟩⟩⟩⟩⟩⟩⟩⟩⟩⟩⟩⟩⟩
theorem lw_p112 : lw_okq (⟨"PastCatchersModel", "narrow", "(IJ)J"⟩, 64) := ⟨⟨by decide +kernel, by decide +kernel⟩, List.mem_of_getElem? (i := 838) (by decide +kernel), List.mem_of_getElem? (i := 1407) (by decide +kernel), List.mem_of_getElem? (i := 1408) (by decide +kernel)⟩
def lw_privs_8 : List (MethodName × Nat) := [(⟨"PastCatchersModel", "narrow", "(IJ)J"⟩, 64)]
theorem lw_r8 : ∀ q ∈ lw_privs_8, lw_okq q := List.forall_mem_cons.mpr ⟨lw_p112, fun _ h => absurd h List.not_mem_nil⟩
def lw_privs : List (MethodName × Nat) := lw_privs_1 ++ (lw_privs_2 ++ (lw_privs_3 ++ (lw_privs_4 ++ (lw_privs_5 ++ (lw_privs_6 ++ (lw_privs_7 ++ (lw_privs_8)))))))
def lw_tbl : List Cond := k2_sels lw_privs ++ tables_1
theorem lw_privs_ok : ∀ q ∈ lw_privs, lw_okq q := by
  show ∀ q ∈ lw_privs_1 ++ (lw_privs_2 ++ (lw_privs_3 ++ (lw_privs_4 ++ (lw_privs_5 ++ (lw_privs_6 ++ (lw_privs_7 ++ (lw_privs_8))))))), lw_okq q
  exact List.forall_mem_append.mpr ⟨lw_r1, List.forall_mem_append.mpr ⟨lw_r2, List.forall_mem_append.mpr ⟨lw_r3, List.forall_mem_append.mpr ⟨lw_r4, List.forall_mem_append.mpr ⟨lw_r5, List.forall_mem_append.mpr ⟨lw_r6, List.forall_mem_append.mpr ⟨lw_r7, lw_r8⟩⟩⟩⟩⟩⟩⟩
end
section
def RX0 : String := "PastCatchers$Acts"
def TX0 : u_T := fun k => match k with
  | 0 => ("PastCatchers$Acts", "person", "I", false)
  | 1 => ("PastCatchers$Acts", "kind", "I", false)
  | 2 => ("PastCatchers$Acts", "v", "I", false)
  | 3 => ("PastCatchers$Acts", "numbers", "[I", true)
  | _ => ("PastCatchers$Acts", "bodies", "I", false)
def tyX0 : Nat → FieldType := fun k => match k with
  | 0 => .int
  | 1 => .int
  | 2 => .int
  | 3 => .array .int
  | _ => .int
theorem nmX0 : ∀ a, a < 5 → ∀ b, b < 5 → a ≠ b → (TX0 a).2.1 ≠ (TX0 b).2.1 := by decide +kernel
theorem tyX0_ok : ∀ k, k < 5 → parseFieldDescriptor (TX0 k).2.2.1 = some (tyX0 k) := by decide +kernel
def RX1 : String := "PastCatchers$Crossing"
def TX1 : u_T := fun k => match k with
  | 0 => ("PastCatchers$Crossing", "group", "LPastCatchers$Group;", true)
  | 1 => ("PastCatchers$Crossing", "yard", "LPastCatchers$Yard;", false)
  | 2 => ("PastCatchers$Crossing", "facts", "[I", true)
  | 3 => ("PastCatchers$Crossing", "reachers", "[I", true)
  | 4 => ("PastCatchers$Crossing", "reach", "[I", true)
  | 5 => ("PastCatchers$Crossing", "hold", "[I", true)
  | 6 => ("PastCatchers$Crossing", "way", "[I", true)
  | 7 => ("PastCatchers$Crossing", "slip", "[I", true)
  | 8 => ("PastCatchers$Crossing", "order", "[I", true)
  | 9 => ("PastCatchers$Crossing", "absent", "I", false)
  | 10 => ("PastCatchers$Crossing", "catchers", "I", false)
  | 11 => ("PastCatchers$Crossing", "runners", "I", false)
  | 12 => ("PastCatchers$Crossing", "handsOut", "Z", false)
  | 13 => ("PastCatchers$Crossing", "sent", "I", false)
  | 14 => ("PastCatchers$Crossing", "sentTo", "I", false)
  | 15 => ("PastCatchers$Crossing", "follower", "I", false)
  | _ => ("PastCatchers$Crossing", "leader", "I", false)
def tyX1 : Nat → FieldType := fun k => match k with
  | 0 => .object "PastCatchers$Group"
  | 1 => .object "PastCatchers$Yard"
  | 2 => .array .int
  | 3 => .array .int
  | 4 => .array .int
  | 5 => .array .int
  | 6 => .array .int
  | 7 => .array .int
  | 8 => .array .int
  | 9 => .int
  | 10 => .int
  | 11 => .int
  | 12 => .boolean
  | 13 => .int
  | 14 => .int
  | 15 => .int
  | _ => .int
theorem nmX1 : ∀ a, a < 17 → ∀ b, b < 17 → a ≠ b → (TX1 a).2.1 ≠ (TX1 b).2.1 := by decide +kernel
theorem tyX1_ok : ∀ k, k < 17 → parseFieldDescriptor (TX1 k).2.2.1 = some (tyX1 k) := by decide +kernel
def RX2 : String := "PastCatchers$Group"
def TX2 : u_T := fun k => match k with
  | 0 => ("PastCatchers$Group", "size", "I", false)
  | 1 => ("PastCatchers$Group", "kind", "[I", true)
  | 2 => ("PastCatchers$Group", "v", "[I", true)
  | 3 => ("PastCatchers$Group", "lane", "[I", true)
  | 4 => ("PastCatchers$Group", "pace", "[I", true)
  | 5 => ("PastCatchers$Group", "strength", "[I", true)
  | 6 => ("PastCatchers$Group", "turns", "[I", true)
  | 7 => ("PastCatchers$Group", "catching", "I", false)
  | 8 => ("PastCatchers$Group", "shouts", "I", false)
  | 9 => ("PastCatchers$Group", "seen", "I", false)
  | 10 => ("PastCatchers$Group", "pages", "[I", true)
  | 11 => ("PastCatchers$Group", "pageCount", "I", false)
  | _ => ("PastCatchers$Group", "holding", "I", false)
def tyX2 : Nat → FieldType := fun k => match k with
  | 0 => .int
  | 1 => .array .int
  | 2 => .array .int
  | 3 => .array .int
  | 4 => .array .int
  | 5 => .array .int
  | 6 => .array .int
  | 7 => .int
  | 8 => .int
  | 9 => .int
  | 10 => .array .int
  | 11 => .int
  | _ => .int
theorem nmX2 : ∀ a, a < 13 → ∀ b, b < 13 → a ≠ b → (TX2 a).2.1 ≠ (TX2 b).2.1 := by decide +kernel
theorem tyX2_ok : ∀ k, k < 13 → parseFieldDescriptor (TX2 k).2.2.1 = some (tyX2 k) := by decide +kernel
def RX3 : String := "PastCatchers$Tapes"
def TX3 : u_T := fun k => match k with
  | 0 => ("PastCatchers$Tapes", "sort", "[I", true)
  | 1 => ("PastCatchers$Tapes", "length", "[I", true)
  | _ => ("PastCatchers$Tapes", "rows", "[[J", true)
def tyX3 : Nat → FieldType := fun k => match k with
  | 0 => .array .int
  | 1 => .array .int
  | _ => .array (.array .long)
theorem nmX3 : ∀ a, a < 3 → ∀ b, b < 3 → a ≠ b → (TX3 a).2.1 ≠ (TX3 b).2.1 := by decide +kernel
theorem tyX3_ok : ∀ k, k < 3 → parseFieldDescriptor (TX3 k).2.2.1 = some (tyX3 k) := by decide +kernel
def RX4 : String := "PastCatchers$TextReader"
def TX4 : u_T := fun k => match k with
  | 0 => ("PastCatchers$TextReader", "signs", "[I", true)
  | 1 => ("PastCatchers$TextReader", "size", "I", false)
  | 2 => ("PastCatchers$TextReader", "place", "I", false)
  | _ => ("PastCatchers$TextReader", "yard", "LPastCatchers$Yard;", false)
def tyX4 : Nat → FieldType := fun k => match k with
  | 0 => .array .int
  | 1 => .int
  | 2 => .int
  | _ => .object "PastCatchers$Yard"
theorem nmX4 : ∀ a, a < 4 → ∀ b, b < 4 → a ≠ b → (TX4 a).2.1 ≠ (TX4 b).2.1 := by decide +kernel
theorem tyX4_ok : ∀ k, k < 4 → parseFieldDescriptor (TX4 k).2.2.1 = some (tyX4 k) := by decide +kernel
def RX5 : String := "PastCatchers$Yard"
def TX5 : u_T := fun k => match k with
  | 0 => ("PastCatchers$Yard", "size", "I", false)
  | 1 => ("PastCatchers$Yard", "word", "[I", true)
  | 2 => ("PastCatchers$Yard", "n", "[I", true)
  | 3 => ("PastCatchers$Yard", "end", "[I", true)
  | 4 => ("PastCatchers$Yard", "marks", "[I", true)
  | _ => ("PastCatchers$Yard", "markCount", "I", false)
def tyX5 : Nat → FieldType := fun k => match k with
  | 0 => .int
  | 1 => .array .int
  | 2 => .array .int
  | 3 => .array .int
  | 4 => .array .int
  | _ => .int
theorem nmX5 : ∀ a, a < 6 → ∀ b, b < 6 → a ≠ b → (TX5 a).2.1 ≠ (TX5 b).2.1 := by decide +kernel
theorem tyX5_ok : ∀ k, k < 6 → parseFieldDescriptor (TX5 k).2.2.1 = some (tyX5 k) := by decide +kernel
def RX6 : String := "PastCatchers"
def TX6 : u_T := fun k => match k with
  | 0 => ("PastCatchers", "now", "LPastCatchers$Group;", true)
  | 1 => ("PastCatchers", "kept", "LPastCatchers$Group;", true)
  | 2 => ("PastCatchers", "imaged", "Z", false)
  | 3 => ("PastCatchers", "trial", "LPastCatchers$Crossing;", true)
  | 4 => ("PastCatchers", "yards", "[LPastCatchers$Yard;", true)
  | 5 => ("PastCatchers", "bare", "LPastCatchers$Yard;", true)
  | 6 => ("PastCatchers", "yardCount", "I", false)
  | 7 => ("PastCatchers", "reader", "LPastCatchers$TextReader;", true)
  | 8 => ("PastCatchers", "acts", "LPastCatchers$Acts;", true)
  | _ => ("PastCatchers", "tapes", "LPastCatchers$Tapes;", true)
def tyX6 : Nat → FieldType := fun k => match k with
  | 0 => .object "PastCatchers$Group"
  | 1 => .object "PastCatchers$Group"
  | 2 => .boolean
  | 3 => .object "PastCatchers$Crossing"
  | 4 => .array (.object "PastCatchers$Yard")
  | 5 => .object "PastCatchers$Yard"
  | 6 => .int
  | 7 => .object "PastCatchers$TextReader"
  | 8 => .object "PastCatchers$Acts"
  | _ => .object "PastCatchers$Tapes"
theorem nmX6 : ∀ a, a < 10 → ∀ b, b < 10 → a ≠ b → (TX6 a).2.1 ≠ (TX6 b).2.1 := by decide +kernel
theorem tyX6_ok : ∀ k, k < 10 → parseFieldDescriptor (TX6 k).2.2.1 = some (tyX6 k) := by decide +kernel
def RX7 : String := "PastCatchersModel"
def TX7 : u_T := fun k => match k with
  | 0 => ("PastCatchersModel", "people", "I", false)
  | 1 => ("PastCatchersModel", "shouts", "I", false)
  | 2 => ("PastCatchersModel", "catching", "I", false)
  | 3 => ("PastCatchersModel", "kind", "[I", true)
  | 4 => ("PastCatchersModel", "v", "[I", true)
  | 5 => ("PastCatchersModel", "lane", "[I", true)
  | 6 => ("PastCatchersModel", "pace", "[I", true)
  | 7 => ("PastCatchersModel", "strength", "[I", true)
  | 8 => ("PastCatchersModel", "rows", "[I", true)
  | 9 => ("PastCatchersModel", "yards", "I", false)
  | 10 => ("PastCatchersModel", "the", "I", false)
  | 11 => ("PastCatchersModel", "fed", "I", false)
  | 12 => ("PastCatchersModel", "at", "I", false)
  | 13 => ("PastCatchersModel", "digits", "I", false)
  | 14 => ("PastCatchersModel", "text", "[I", true)
  | 15 => ("PastCatchersModel", "clauses", "[I", true)
  | 16 => ("PastCatchersModel", "word", "[I", true)
  | 17 => ("PastCatchersModel", "number", "[I", true)
  | 18 => ("PastCatchersModel", "from", "[I", true)
  | 19 => ("PastCatchersModel", "to", "[I", true)
  | 20 => ("PastCatchersModel", "sign", "[I", true)
  | 21 => ("PastCatchersModel", "waits", "[I", true)
  | 22 => ("PastCatchersModel", "signs", "I", false)
  | 23 => ("PastCatchersModel", "waiting", "I", false)
  | 24 => ("PastCatchersModel", "open", "I", false)
  | 25 => ("PastCatchersModel", "letters", "[I", true)
  | 26 => ("PastCatchersModel", "pile", "[Z", true)
  | 27 => ("PastCatchersModel", "reachAll", "Z", false)
  | 28 => ("PastCatchersModel", "wayOne", "I", false)
  | 29 => ("PastCatchersModel", "wayTold", "I", false)
  | 30 => ("PastCatchersModel", "follower", "I", false)
  | 31 => ("PastCatchersModel", "followed", "I", false)
  | 32 => ("PastCatchersModel", "gone", "I", false)
  | 33 => ("PastCatchersModel", "order", "[I", true)
  | 34 => ("PastCatchersModel", "going", "I", false)
  | 35 => ("PastCatchersModel", "firstCaught", "I", false)
  | 36 => ("PastCatchersModel", "keptCatching", "I", false)
  | 37 => ("PastCatchersModel", "keptShouts", "I", false)
  | 38 => ("PastCatchersModel", "rowNow", "[I", true)
  | 39 => ("PastCatchersModel", "bestRow", "[I", true)
  | 40 => ("PastCatchersModel", "oldLane", "[I", true)
  | 41 => ("PastCatchersModel", "seen", "I", false)
  | 42 => ("PastCatchersModel", "books", "I", false)
  | 43 => ("PastCatchersModel", "book", "[I", true)
  | 44 => ("PastCatchersModel", "hasImage", "Z", false)
  | 45 => ("PastCatchersModel", "imageThe", "I", false)
  | 46 => ("PastCatchersModel", "imagePeople", "I", false)
  | 47 => ("PastCatchersModel", "imageShouts", "I", false)
  | 48 => ("PastCatchersModel", "imageCatching", "I", false)
  | 49 => ("PastCatchersModel", "imageSeen", "I", false)
  | 50 => ("PastCatchersModel", "imageBooks", "I", false)
  | 51 => ("PastCatchersModel", "imageKind", "[I", true)
  | 52 => ("PastCatchersModel", "imageV", "[I", true)
  | 53 => ("PastCatchersModel", "imageLane", "[I", true)
  | 54 => ("PastCatchersModel", "imagePace", "[I", true)
  | 55 => ("PastCatchersModel", "imageStrength", "[I", true)
  | 56 => ("PastCatchersModel", "imageRows", "[I", true)
  | 57 => ("PastCatchersModel", "imageBook", "[I", true)
  | 58 => ("PastCatchersModel", "ran", "I", false)
  | 59 => ("PastCatchersModel", "bodies", "[I", true)
  | 60 => ("PastCatchersModel", "sort", "[I", true)
  | 61 => ("PastCatchersModel", "length", "[I", true)
  | 62 => ("PastCatchersModel", "item", "[J", true)
  | _ => ("PastCatchersModel", "aside", "[J", true)
def tyX7 : Nat → FieldType := fun k => match k with
  | 0 => .int
  | 1 => .int
  | 2 => .int
  | 3 => .array .int
  | 4 => .array .int
  | 5 => .array .int
  | 6 => .array .int
  | 7 => .array .int
  | 8 => .array .int
  | 9 => .int
  | 10 => .int
  | 11 => .int
  | 12 => .int
  | 13 => .int
  | 14 => .array .int
  | 15 => .array .int
  | 16 => .array .int
  | 17 => .array .int
  | 18 => .array .int
  | 19 => .array .int
  | 20 => .array .int
  | 21 => .array .int
  | 22 => .int
  | 23 => .int
  | 24 => .int
  | 25 => .array .int
  | 26 => .array .boolean
  | 27 => .boolean
  | 28 => .int
  | 29 => .int
  | 30 => .int
  | 31 => .int
  | 32 => .int
  | 33 => .array .int
  | 34 => .int
  | 35 => .int
  | 36 => .int
  | 37 => .int
  | 38 => .array .int
  | 39 => .array .int
  | 40 => .array .int
  | 41 => .int
  | 42 => .int
  | 43 => .array .int
  | 44 => .boolean
  | 45 => .int
  | 46 => .int
  | 47 => .int
  | 48 => .int
  | 49 => .int
  | 50 => .int
  | 51 => .array .int
  | 52 => .array .int
  | 53 => .array .int
  | 54 => .array .int
  | 55 => .array .int
  | 56 => .array .int
  | 57 => .array .int
  | 58 => .int
  | 59 => .array .int
  | 60 => .array .int
  | 61 => .array .int
  | 62 => .array .long
  | _ => .array .long
theorem nmX7 : ∀ a, a < 64 → ∀ b, b < 64 → a ≠ b → (TX7 a).2.1 ≠ (TX7 b).2.1 := by decide +kernel
theorem tyX7_ok : ∀ k, k < 64 → parseFieldDescriptor (TX7 k).2.2.1 = some (tyX7 k) := by decide +kernel
def RL : String := "PastCatchersLaw"
abbrev vwCl : List vw_C := [(RX0, TX0, 5), (RX1, TX1, 17), (RX2, TX2, 13), (RX3, TX3, 3), (RX4, TX4, 4), (RX5, TX5, 6), (RX6, TX6, 10), (RX7, TX7, 64)]
def vwN : Nat → Nat := fun c => match c with
  | 0 => 5
  | 1 => 17
  | 2 => 13
  | 3 => 3
  | 4 => 4
  | 5 => 6
  | 6 => 10
  | 7 => 64
  | _ => 0
def vwTy : Nat → Nat → FieldType := fun c => match c with
  | 0 => tyX0
  | 1 => tyX1
  | 2 => tyX2
  | 3 => tyX3
  | 4 => tyX4
  | 5 => tyX5
  | 6 => tyX6
  | 7 => tyX7
  | _ => fun _ => .int
/-- the methods: name, code, locals, answer, class -/
abbrev MT : Type := MethodName × ByteArray × Nat × Option FieldType × Nat
def mT : List MT := [
  (⟨"PastCatchersLaw", "law", "([I)Z"⟩, code, 4, some FieldType.boolean, 10),
  (⟨"PastCatchers$Acts", "<init>", "()V"⟩, prog_2_method_1_code, 1, none, 0),
  (⟨"PastCatchers$Acts", "does", "(IIII)I"⟩, prog_2_method_2_code, 9, some FieldType.int, 0),
  (⟨"PastCatchers$Acts", "ownerOf", "(II)I"⟩, prog_2_method_3_code, 4, some FieldType.int, 0),
  (⟨"PastCatchers$Acts", "begins", "(I)V"⟩, prog_2_method_4_code, 2, none, 0),
  (⟨"PastCatchers$Crossing", "<init>", "()V"⟩, prog_3_method_1_code, 1, none, 1),
  (⟨"PastCatchers$Crossing", "starts", "(LPastCatchers$Group;LPastCatchers$Yard;)V"⟩, prog_3_method_2_code, 3, none, 1),
  (⟨"PastCatchers$Crossing", "sends", "(II)V"⟩, prog_3_method_3_code, 3, none, 1),
  (⟨"PastCatchers$Crossing", "puts", "(II)V"⟩, prog_3_method_4_code, 3, none, 1),
  (⟨"PastCatchers$Crossing", "goesOn", "()I"⟩, prog_3_method_5_code, 2, some FieldType.int, 1),
  (⟨"PastCatchers$Crossing", "caughtNext", "()I"⟩, prog_3_method_6_code, 7, some FieldType.int, 1),
  (⟨"PastCatchers$Crossing", "measuresCatchers", "()V"⟩, prog_3_method_7_code, 2, none, 1),
  (⟨"PastCatchers$Crossing", "reachesOut", "(I)V"⟩, prog_3_method_8_code, 3, none, 1),
  (⟨"PastCatchers$Crossing", "choosesWays", "()V"⟩, prog_3_method_9_code, 2, none, 1),
  (⟨"PastCatchers$Crossing", "measuresRunners", "()V"⟩, prog_3_method_10_code, 2, none, 1),
  (⟨"PastCatchers$Crossing", "wayOf", "(I)I"⟩, prog_3_method_11_code, 3, some FieldType.int, 1),
  (⟨"PastCatchers$Crossing", "strongestLane", "(I)I"⟩, prog_3_method_12_code, 6, some FieldType.int, 1),
  (⟨"PastCatchers$Crossing", "loneliestLane", "(I)I"⟩, prog_3_method_13_code, 8, some FieldType.int, 1),
  (⟨"PastCatchers$Crossing", "reachersOf", "(I)I"⟩, prog_3_method_14_code, 2, some FieldType.int, 1),
  (⟨"PastCatchers$Crossing", "holdOf", "(I)I"⟩, prog_3_method_15_code, 4, some FieldType.int, 1),
  (⟨"PastCatchers$Crossing", "linesUp", "()I"⟩, prog_3_method_16_code, 3, some FieldType.int, 1),
  (⟨"PastCatchers$Crossing", "stepsIn", "(II)I"⟩, prog_3_method_17_code, 4, some FieldType.int, 1),
  (⟨"PastCatchers$Crossing", "followsIn", "(I)I"⟩, prog_3_method_18_code, 3, some FieldType.int, 1),
  (⟨"PastCatchers$Crossing", "haste", "(I)I"⟩, prog_3_method_19_code, 3, some FieldType.int, 1),
  (⟨"PastCatchers$Crossing", "learns", "(II)V"⟩, prog_3_method_20_code, 3, none, 1),
  (⟨"PastCatchers$Group", "<init>", "()V"⟩, prog_4_method_1_code, 1, none, 2),
  (⟨"PastCatchers$Group", "has", "(I)Z"⟩, prog_4_method_2_code, 2, some FieldType.boolean, 2),
  (⟨"PastCatchers$Group", "doesCatch", "(I)Z"⟩, prog_4_method_3_code, 2, some FieldType.boolean, 2),
  (⟨"PastCatchers$Group", "everyone", "()I"⟩, prog_4_method_4_code, 1, some FieldType.int, 2),
  (⟨"PastCatchers$Group", "running", "()I"⟩, prog_4_method_5_code, 1, some FieldType.int, 2),
  (⟨"PastCatchers$Group", "areAll", "(I)Z"⟩, prog_4_method_6_code, 2, some FieldType.boolean, 2),
  (⟨"PastCatchers$Group", "joins", "(IIIII)I"⟩, prog_4_method_7_code, 7, some FieldType.int, 2),
  (⟨"PastCatchers$Group", "spreadsOut", "(I)V"⟩, prog_4_method_8_code, 4, none, 2),
  (⟨"PastCatchers$Group", "becomes", "(LPastCatchers$Group;)V"⟩, prog_4_method_9_code, 2, none, 2),
  (⟨"PastCatchers$Tapes", "<init>", "()V"⟩, prog_5_method_1_code, 1, none, 3),
  (⟨"PastCatchers$Tapes", "exists", "(I)Z"⟩, prog_5_method_2_code, 2, some FieldType.boolean, 3),
  (⟨"PastCatchers$Tapes", "hasPlace", "(IJ)Z"⟩, prog_5_method_3_code, 4, some FieldType.boolean, 3),
  (⟨"PastCatchers$Tapes", "hasPart", "(III)Z"⟩, prog_5_method_4_code, 4, some FieldType.boolean, 3),
  (⟨"PastCatchers$Tapes", "becomes", "(III)V"⟩, prog_5_method_5_code, 4, none, 3),
  (⟨"PastCatchers$Tapes", "asSort", "(IJ)J"⟩, prog_5_method_6_code, 3, some FieldType.long, 3),
  (⟨"PastCatchers$TextReader", "<init>", "()V"⟩, prog_6_method_1_code, 1, none, 4),
  (⟨"PastCatchers$TextReader", "takesIn", "(I)Z"⟩, prog_6_method_2_code, 2, some FieldType.boolean, 4),
  (⟨"PastCatchers$TextReader", "readsInto", "(LPastCatchers$Yard;)I"⟩, prog_6_method_3_code, 4, some FieldType.int, 4),
  (⟨"PastCatchers$TextReader", "readsClause", "()Z"⟩, prog_6_method_4_code, 3, some FieldType.boolean, 4),
  (⟨"PastCatchers$TextReader", "readsWord", "()I"⟩, prog_6_method_5_code, 1, some FieldType.int, 4),
  (⟨"PastCatchers$TextReader", "readsNumber", "()I"⟩, prog_6_method_6_code, 3, some FieldType.int, 4),
  (⟨"PastCatchers$TextReader", "readsEither", "(I)Z"⟩, prog_6_method_7_code, 4, some FieldType.boolean, 4),
  (⟨"PastCatchers$TextReader", "readsBoth", "(I)Z"⟩, prog_6_method_8_code, 4, some FieldType.boolean, 4),
  (⟨"PastCatchers$TextReader", "readsOne", "(I)Z"⟩, prog_6_method_9_code, 5, some FieldType.boolean, 4),
  (⟨"PastCatchers$TextReader", "isWithin", "()Z"⟩, prog_6_method_10_code, 1, some FieldType.boolean, 4),
  (⟨"PastCatchers$TextReader", "takes", "(C)Z"⟩, prog_6_method_11_code, 2, some FieldType.boolean, 4),
  (⟨"PastCatchers$TextReader", "takesAll", "(Ljava/lang/String;)Z"⟩, prog_6_method_12_code, 3, some FieldType.boolean, 4),
  (⟨"PastCatchers$TextReader", "takesOneOf", "(Ljava/lang/String;)I"⟩, prog_6_method_13_code, 3, some FieldType.int, 4),
  (⟨"PastCatchers$Yard", "<init>", "()V"⟩, prog_7_method_1_code, 1, none, 5),
  (⟨"PastCatchers$Yard", "clears", "()V"⟩, prog_7_method_2_code, 1, none, 5),
  (⟨"PastCatchers$Yard", "adds", "(I)V"⟩, prog_7_method_3_code, 2, none, 5),
  (⟨"PastCatchers$Yard", "closes", "(II)V"⟩, prog_7_method_4_code, 3, none, 5),
  (⟨"PastCatchers$Yard", "has", "(I)Z"⟩, prog_7_method_5_code, 3, some FieldType.boolean, 5),
  (⟨"PastCatchers$Yard", "together", "(I[I)I"⟩, prog_7_method_6_code, 6, some FieldType.int, 5),
  (⟨"PastCatchers$Yard", "isTrue", "(II[I)Z"⟩, prog_7_method_7_code, 10, some FieldType.boolean, 5),
  (⟨"PastCatchers$Yard", "testMark", "(III)I"⟩, prog_7_method_8_code, 3, some FieldType.int, 5),
  (⟨"PastCatchers$Yard", "passes", "(I[I)Z"⟩, prog_7_method_9_code, 5, some FieldType.boolean, 5),
  (⟨"PastCatchers", "<init>", "()V"⟩, prog_1_method_1_code, 2, none, 6),
  (⟨"PastCatchers", "person", "(IIIII)I"⟩, prog_1_method_2_code, 6, some FieldType.int, 6),
  (⟨"PastCatchers", "of", "(II)I"⟩, prog_1_method_3_code, 3, some FieldType.int, 6),
  (⟨"PastCatchers", "set", "(III)I"⟩, prog_1_method_4_code, 5, some FieldType.int, 6),
  (⟨"PastCatchers", "catches", "(IZ)I"⟩, prog_1_method_5_code, 4, some FieldType.int, 6),
  (⟨"PastCatchers", "row", "(III)I"⟩, prog_1_method_6_code, 5, some FieldType.int, 6),
  (⟨"PastCatchers", "feed", "(I)I"⟩, prog_1_method_7_code, 2, some FieldType.int, 6),
  (⟨"PastCatchers", "yard", "()I"⟩, prog_1_method_8_code, 2, some FieldType.int, 6),
  (⟨"PastCatchers", "told", "(I)I"⟩, prog_1_method_9_code, 2, some FieldType.int, 6),
  (⟨"PastCatchers", "shout", "()I"⟩, prog_1_method_10_code, 2, some FieldType.int, 6),
  (⟨"PastCatchers", "on", "(II)I"⟩, prog_1_method_11_code, 5, some FieldType.int, 6),
  (⟨"PastCatchers", "last", "(I)I"⟩, prog_1_method_12_code, 4, some FieldType.int, 6),
  (⟨"PastCatchers", "first", "(I)I"⟩, prog_1_method_13_code, 7, some FieldType.int, 6),
  (⟨"PastCatchers", "stand", "(II)I"⟩, prog_1_method_14_code, 7, some FieldType.int, 6),
  (⟨"PastCatchers", "best", "(I)I"⟩, prog_1_method_15_code, 4, some FieldType.int, 6),
  (⟨"PastCatchers", "need", "(I)I"⟩, prog_1_method_16_code, 3, some FieldType.int, 6),
  (⟨"PastCatchers", "hands", "()I"⟩, prog_1_method_17_code, 1, some FieldType.int, 6),
  (⟨"PastCatchers", "alone", "(I)I"⟩, prog_1_method_18_code, 2, some FieldType.int, 6),
  (⟨"PastCatchers", "spread", "(I)I"⟩, prog_1_method_19_code, 8, some FieldType.int, 6),
  (⟨"PastCatchers", "behind", "(II)I"⟩, prog_1_method_20_code, 3, some FieldType.int, 6),
  (⟨"PastCatchers", "see", "(I)I"⟩, prog_1_method_21_code, 3, some FieldType.int, 6),
  (⟨"PastCatchers", "moved", "(I)I"⟩, prog_1_method_22_code, 4, some FieldType.int, 6),
  (⟨"PastCatchers", "odds", "(III)J"⟩, prog_1_method_23_code, 6, some FieldType.long, 6),
  (⟨"PastCatchers", "mean", "(II)J"⟩, prog_1_method_24_code, 5, some FieldType.long, 6),
  (⟨"PastCatchers", "book", "(I)I"⟩, prog_1_method_25_code, 2, some FieldType.int, 6),
  (⟨"PastCatchers", "looked", "()I"⟩, prog_1_method_26_code, 2, some FieldType.int, 6),
  (⟨"PastCatchers", "judge", "(II)I"⟩, prog_1_method_27_code, 7, some FieldType.int, 6),
  (⟨"PastCatchers", "image", "()I"⟩, prog_1_method_28_code, 1, some FieldType.int, 6),
  (⟨"PastCatchers", "undo", "()I"⟩, prog_1_method_29_code, 1, some FieldType.int, 6),
  (⟨"PastCatchers", "act", "(III)I"⟩, prog_1_method_30_code, 4, some FieldType.int, 6),
  (⟨"PastCatchers", "trace", "(I)I"⟩, prog_1_method_31_code, 2, some FieldType.int, 6),
  (⟨"PastCatchers", "taken", "(II)I"⟩, prog_1_method_32_code, 6, some FieldType.int, 6),
  (⟨"PastCatchers", "count", "(I)I"⟩, prog_1_method_33_code, 2, some FieldType.int, 6),
  (⟨"PastCatchers", "tape", "(III)I"⟩, prog_1_method_34_code, 4, some FieldType.int, 6),
  (⟨"PastCatchers", "item", "(IIJ)I"⟩, prog_1_method_35_code, 5, some FieldType.int, 6),
  (⟨"PastCatchers", "read", "(II)J"⟩, prog_1_method_36_code, 3, some FieldType.long, 6),
  (⟨"PastCatchers", "shift", "(IIIII)I"⟩, prog_1_method_37_code, 6, some FieldType.int, 6),
  (⟨"PastCatchers", "measured", "(II)I"⟩, prog_1_method_38_code, 3, some FieldType.int, 6),
  (⟨"PastCatchers", "asksAnew", "()V"⟩, prog_1_method_39_code, 2, none, 6),
  (⟨"PastCatchers", "caughtFrom", "(II)I"⟩, prog_1_method_40_code, 3, some FieldType.int, 6),
  (⟨"PastCatchers", "isDigit", "(I)Z"⟩, prog_1_method_41_code, 1, some FieldType.boolean, 6),
  (⟨"PastCatchers", "isLane", "(I)Z"⟩, prog_1_method_42_code, 1, some FieldType.boolean, 6),
  (⟨"PastCatchers", "isIn", "(II)Z"⟩, prog_1_method_43_code, 2, some FieldType.boolean, 6),
  (⟨"PastCatchers", "firstIn", "(I)I"⟩, prog_1_method_44_code, 2, some FieldType.int, 6),
  (⟨"PastCatchers", "laneRows", "(I)I"⟩, prog_1_method_45_code, 3, some FieldType.int, 6),
  (⟨"PastCatchers", "lowestTerm", "(III)J"⟩, prog_1_method_46_code, 7, some FieldType.long, 6),
  (⟨"PastCatchersModel", "<init>", "()V"⟩, prog_9_method_1_code, 1, none, 7),
  (⟨"PastCatchersModel", "in", "(III)Z"⟩, prog_9_method_2_code, 4, some FieldType.boolean, 7),
  (⟨"PastCatchersModel", "has", "(II)Z"⟩, prog_9_method_3_code, 3, some FieldType.boolean, 7),
  (⟨"PastCatchersModel", "ones", "(I)I"⟩, prog_9_method_4_code, 4, some FieldType.int, 7),
  (⟨"PastCatchersModel", "isPerson", "(I)Z"⟩, prog_9_method_5_code, 2, some FieldType.boolean, 7),
  (⟨"PastCatchersModel", "allSet", "()I"⟩, prog_9_method_6_code, 1, some FieldType.int, 7),
  (⟨"PastCatchersModel", "person", "(IIIII)I"⟩, prog_9_method_7_code, 7, some FieldType.int, 7),
  (⟨"PastCatchersModel", "set", "(III)I"⟩, prog_9_method_8_code, 5, some FieldType.int, 7),
  (⟨"PastCatchersModel", "catches", "(IZ)I"⟩, prog_9_method_9_code, 4, some FieldType.int, 7),
  (⟨"PastCatchersModel", "row", "(III)I"⟩, prog_9_method_10_code, 5, some FieldType.int, 7),
  (⟨"PastCatchersModel", "feed", "(I)I"⟩, prog_9_method_11_code, 2, some FieldType.int, 7),
  (⟨"PastCatchersModel", "next", "()I"⟩, prog_9_method_12_code, 1, some FieldType.int, 7),
  (⟨"PastCatchersModel", "takes", "(I)Z"⟩, prog_9_method_13_code, 2, some FieldType.boolean, 7),
  (⟨"PastCatchersModel", "takesWord", "(II)Z"⟩, prog_9_method_14_code, 4, some FieldType.boolean, 7),
  (⟨"PastCatchersModel", "isDigit", "()Z"⟩, prog_9_method_15_code, 1, some FieldType.boolean, 7),
  (⟨"PastCatchersModel", "takesNumber", "()Z"⟩, prog_9_method_16_code, 2, some FieldType.boolean, 7),
  (⟨"PastCatchersModel", "emits", "(I)V"⟩, prog_9_method_17_code, 2, none, 7),
  (⟨"PastCatchersModel", "whole", "()V"⟩, prog_9_method_18_code, 1, none, 7),
  (⟨"PastCatchersModel", "settle", "(I)V"⟩, prog_9_method_19_code, 2, none, 7),
  (⟨"PastCatchersModel", "place", "(I)I"⟩, prog_9_method_20_code, 2, some FieldType.int, 7),
  (⟨"PastCatchersModel", "takesTest", "()Z"⟩, prog_9_method_21_code, 3, some FieldType.boolean, 7),
  (⟨"PastCatchersModel", "takesE", "(I)Z"⟩, prog_9_method_22_code, 4, some FieldType.boolean, 7),
  (⟨"PastCatchersModel", "takesHead", "(I)Z"⟩, prog_9_method_23_code, 2, some FieldType.boolean, 7),
  (⟨"PastCatchersModel", "takesClause", "(I)Z"⟩, prog_9_method_24_code, 2, some FieldType.boolean, 7),
  (⟨"PastCatchersModel", "goesText", "(I)Z"⟩, prog_9_method_25_code, 3, some FieldType.boolean, 7),
  (⟨"PastCatchersModel", "yard", "()I"⟩, prog_9_method_26_code, 2, some FieldType.int, 7),
  (⟨"PastCatchersModel", "begin", "()I"⟩, prog_9_method_27_code, 1, some FieldType.int, 7),
  (⟨"PastCatchersModel", "behindText", "()I"⟩, prog_9_method_28_code, 1, some FieldType.int, 7),
  (⟨"PastCatchersModel", "factOf", "(III)I"⟩, prog_9_method_29_code, 4, some FieldType.int, 7),
  (⟨"PastCatchersModel", "isSo", "(III)Z"⟩, prog_9_method_30_code, 9, some FieldType.boolean, 7),
  (⟨"PastCatchersModel", "sumOf", "(IIII)I"⟩, prog_9_method_31_code, 8, some FieldType.int, 7),
  (⟨"PastCatchersModel", "isRunning", "(I)Z"⟩, prog_9_method_32_code, 2, some FieldType.boolean, 7),
  (⟨"PastCatchersModel", "reachOf", "(I)I"⟩, prog_9_method_33_code, 2, some FieldType.int, 7),
  (⟨"PastCatchersModel", "holdOf", "(I)I"⟩, prog_9_method_34_code, 2, some FieldType.int, 7),
  (⟨"PastCatchersModel", "apart", "(II)I"⟩, prog_9_method_35_code, 3, some FieldType.int, 7),
  (⟨"PastCatchersModel", "reaches", "(II)Z"⟩, prog_9_method_36_code, 3, some FieldType.boolean, 7),
  (⟨"PastCatchersModel", "manyReach", "(I)I"⟩, prog_9_method_37_code, 4, some FieldType.int, 7),
  (⟨"PastCatchersModel", "shieldedWay", "(I)I"⟩, prog_9_method_38_code, 4, some FieldType.int, 7),
  (⟨"PastCatchersModel", "seekingWay", "(I)I"⟩, prog_9_method_39_code, 6, some FieldType.int, 7),
  (⟨"PastCatchersModel", "wayOf", "(I)I"⟩, prog_9_method_40_code, 2, some FieldType.int, 7),
  (⟨"PastCatchersModel", "slipOf", "(I)I"⟩, prog_9_method_41_code, 2, some FieldType.int, 7),
  (⟨"PastCatchersModel", "of", "(II)I"⟩, prog_9_method_42_code, 3, some FieldType.int, 7),
  (⟨"PastCatchersModel", "told", "(I)I"⟩, prog_9_method_43_code, 2, some FieldType.int, 7),
  (⟨"PastCatchersModel", "waits", "(I)Z"⟩, prog_9_method_44_code, 2, some FieldType.boolean, 7),
  (⟨"PastCatchersModel", "isAhead", "(II)Z"⟩, prog_9_method_45_code, 3, some FieldType.boolean, 7),
  (⟨"PastCatchersModel", "putAt", "(II)V"⟩, prog_9_method_46_code, 4, none, 7),
  (⟨"PastCatchersModel", "layOrder", "()V"⟩, prog_9_method_47_code, 3, none, 7),
  (⟨"PastCatchersModel", "heldBy", "(I)I"⟩, prog_9_method_48_code, 4, some FieldType.int, 7),
  (⟨"PastCatchersModel", "meeting", "(II)I"⟩, prog_9_method_49_code, 5, some FieldType.int, 7),
  (⟨"PastCatchersModel", "caughtNow", "()I"⟩, prog_9_method_50_code, 6, some FieldType.int, 7),
  (⟨"PastCatchersModel", "goShout", "()I"⟩, prog_9_method_51_code, 2, some FieldType.int, 7),
  (⟨"PastCatchersModel", "shout", "()I"⟩, prog_9_method_52_code, 1, some FieldType.int, 7),
  (⟨"PastCatchersModel", "save", "()V"⟩, prog_9_method_53_code, 1, none, 7),
  (⟨"PastCatchersModel", "putBack", "()V"⟩, prog_9_method_54_code, 1, none, 7),
  (⟨"PastCatchersModel", "on", "(II)I"⟩, prog_9_method_55_code, 5, some FieldType.int, 7),
  (⟨"PastCatchersModel", "theOne", "(I)I"⟩, prog_9_method_56_code, 3, some FieldType.int, 7),
  (⟨"PastCatchersModel", "last", "(I)I"⟩, prog_9_method_57_code, 4, some FieldType.int, 7),
  (⟨"PastCatchersModel", "first", "(I)I"⟩, prog_9_method_58_code, 6, some FieldType.int, 7),
  (⟨"PastCatchersModel", "stand", "(II)I"⟩, prog_9_method_59_code, 8, some FieldType.int, 7),
  (⟨"PastCatchersModel", "best", "(I)I"⟩, prog_9_method_60_code, 4, some FieldType.int, 7),
  (⟨"PastCatchersModel", "need", "(I)I"⟩, prog_9_method_61_code, 5, some FieldType.int, 7),
  (⟨"PastCatchersModel", "hands", "()I"⟩, prog_9_method_62_code, 2, some FieldType.int, 7),
  (⟨"PastCatchersModel", "alone", "(I)I"⟩, prog_9_method_63_code, 4, some FieldType.int, 7),
  (⟨"PastCatchersModel", "standAll", "()V"⟩, prog_9_method_64_code, 3, none, 7),
  (⟨"PastCatchersModel", "nextRow", "(I)Z"⟩, prog_9_method_65_code, 3, some FieldType.boolean, 7),
  (⟨"PastCatchersModel", "spread", "(I)I"⟩, prog_9_method_66_code, 7, some FieldType.int, 7),
  (⟨"PastCatchersModel", "behind", "(II)I"⟩, prog_9_method_67_code, 5, some FieldType.int, 7),
  (⟨"PastCatchersModel", "see", "(I)I"⟩, prog_9_method_68_code, 3, some FieldType.int, 7),
  (⟨"PastCatchersModel", "moved", "(I)I"⟩, prog_9_method_69_code, 5, some FieldType.int, 7),
  (⟨"PastCatchersModel", "divisor", "(II)I"⟩, prog_9_method_70_code, 6, some FieldType.int, 7),
  (⟨"PastCatchersModel", "lowest", "(III)J"⟩, prog_9_method_71_code, 5, some FieldType.long, 7),
  (⟨"PastCatchersModel", "odds", "(III)J"⟩, prog_9_method_72_code, 7, some FieldType.long, 7),
  (⟨"PastCatchersModel", "mean", "(II)J"⟩, prog_9_method_73_code, 6, some FieldType.long, 7),
  (⟨"PastCatchersModel", "book", "(I)I"⟩, prog_9_method_74_code, 2, some FieldType.int, 7),
  (⟨"PastCatchersModel", "looked", "()I"⟩, prog_9_method_75_code, 3, some FieldType.int, 7),
  (⟨"PastCatchersModel", "judge", "(II)I"⟩, prog_9_method_76_code, 4, some FieldType.int, 7),
  (⟨"PastCatchersModel", "image", "()I"⟩, prog_9_method_77_code, 2, some FieldType.int, 7),
  (⟨"PastCatchersModel", "undo", "()I"⟩, prog_9_method_78_code, 2, some FieldType.int, 7),
  (⟨"PastCatchersModel", "body", "(I)V"⟩, prog_9_method_79_code, 2, none, 7),
  (⟨"PastCatchersModel", "runnerRuns", "(II)I"⟩, prog_9_method_80_code, 3, some FieldType.int, 7),
  (⟨"PastCatchersModel", "runsAct", "(II)I"⟩, prog_9_method_81_code, 3, some FieldType.int, 7),
  (⟨"PastCatchersModel", "runnerHolds", "(II)I"⟩, prog_9_method_82_code, 3, some FieldType.int, 7),
  (⟨"PastCatchersModel", "edgedHolds", "(II)I"⟩, prog_9_method_83_code, 3, some FieldType.int, 7),
  (⟨"PastCatchersModel", "holdsAct", "(II)I"⟩, prog_9_method_84_code, 4, some FieldType.int, 7),
  (⟨"PastCatchersModel", "runnerTells", "(II)I"⟩, prog_9_method_85_code, 3, some FieldType.int, 7),
  (⟨"PastCatchersModel", "tellsAct", "(II)I"⟩, prog_9_method_86_code, 4, some FieldType.int, 7),
  (⟨"PastCatchersModel", "act", "(III)I"⟩, prog_9_method_87_code, 4, some FieldType.int, 7),
  (⟨"PastCatchersModel", "trace", "(I)I"⟩, prog_9_method_88_code, 2, some FieldType.int, 7),
  (⟨"PastCatchersModel", "taken", "(II)I"⟩, prog_9_method_89_code, 4, some FieldType.int, 7),
  (⟨"PastCatchersModel", "count", "(I)I"⟩, prog_9_method_90_code, 2, some FieldType.int, 7),
  (⟨"PastCatchersModel", "isTape", "(I)Z"⟩, prog_9_method_91_code, 2, some FieldType.boolean, 7),
  (⟨"PastCatchersModel", "tape", "(III)I"⟩, prog_9_method_92_code, 5, some FieldType.int, 7),
  (⟨"PastCatchersModel", "narrow", "(IJ)J"⟩, prog_9_method_93_code, 4, some FieldType.long, 7),
  (⟨"PastCatchersModel", "item", "(IIJ)I"⟩, prog_9_method_94_code, 5, some FieldType.int, 7),
  (⟨"PastCatchersModel", "read", "(II)J"⟩, prog_9_method_95_code, 3, some FieldType.long, 7),
  (⟨"PastCatchersModel", "shift", "(IIIII)I"⟩, prog_9_method_96_code, 7, some FieldType.int, 7),
  (⟨"java/lang/Integer", "bitCount", "(I)I"⟩, prog_11_method_49_code, 1, some FieldType.int, 10),
  (⟨"java/lang/Math", "floorMod", "(II)I"⟩, prog_12_method_50_code, 3, some FieldType.int, 10),
  (⟨"java/lang/Math", "abs", "(I)I"⟩, prog_12_method_59_code, 1, some FieldType.int, 10),
  (⟨"java/lang/Math", "max", "(II)I"⟩, prog_12_method_65_code, 2, some FieldType.int, 10),
  (⟨"java/lang/Math", "min", "(II)I"⟩, prog_12_method_69_code, 2, some FieldType.int, 10),
  (⟨"java/lang/String", "length", "()I"⟩, prog_13_method_54_code, 1, some FieldType.int, 9),
  (⟨"java/lang/String", "charAt", "(I)C"⟩, prog_13_method_56_code, 2, some FieldType.char, 9),
  (⟨"java/lang/String", "indexOf", "(I)I"⟩, prog_13_method_79_code, 2, some FieldType.int, 9),
  (⟨"java/lang/String", "indexOf", "(II)I"⟩, prog_13_method_80_code, 3, some FieldType.int, 9),
  (⟨"java/lang/String", "coder", "()B"⟩, prog_13_method_152_code, 1, some FieldType.byte, 9),
  (⟨"java/lang/String", "isLatin1", "()Z"⟩, prog_13_method_154_code, 1, some FieldType.boolean, 9),
  (⟨"java/lang/String", "checkIndex", "(II)V"⟩, prog_13_method_155_code, 2, none, 9),
  (⟨"java/lang/StringLatin1", "charAt", "([BI)C"⟩, prog_14_method_2_code, 2, some FieldType.char, 10),
  (⟨"java/lang/StringLatin1", "canEncode", "(I)Z"⟩, prog_14_method_4_code, 1, some FieldType.boolean, 10),
  (⟨"java/lang/StringLatin1", "indexOf", "([BIII)I"⟩, prog_14_method_22_code, 4, some FieldType.int, 10),
  (⟨"java/lang/StringLatin1", "indexOfChar", "([BIII)I"⟩, prog_14_method_23_code, 6, some FieldType.int, 10),
  (⟨"java/util/Arrays", "fill", "([JJ)V"⟩, prog_17_method_101_code, 5, none, 10),
  (⟨"java/util/Arrays", "fill", "([II)V"⟩, prog_17_method_103_code, 4, none, 10),
  (⟨"jdk/internal/util/Preconditions", "checkIndex", "(IILjava/util/function/BiFunction;)I"⟩, prog_18_method_11_code, 3, some FieldType.int, 10)]
def mAt (y : Nat) : MT := mT.getD y (⟨"", "", ""⟩, ⟨#[]⟩, 0, none, 10)
def mName (y : Nat) : MethodName := (mAt y).1
def mBytes (y : Nat) : ByteArray := (mAt y).2.1
def mMaxL (y : Nat) : Nat := (mAt y).2.2.1
def mRet (y : Nat) : Option FieldType := (mAt y).2.2.2.1
def mCi (y : Nat) : Nat := (mAt y).2.2.2.2
/-- an instruction: its place, itself, its length, what it links to -/
abbrev En : Type := Nat × Instr × Nat × List Nat
def c_0 : List En := [
  (0, .new 7, 3, [6, 1018]),
  (3, .dup, 1, []),
  (4, .invokespecial 9, 3, [62, 1, 1, 0, 1020, 1021, 0]),
  (7, .astore_n 1, 1, []),
  (8, .new 10, 3, [7, 4117]),
  (11, .dup, 1, []),
  (12, .invokespecial 12, 3, [108, 1, 1, 0, 4119, 4120, 0]),
  (15, .astore_n 2, 1, []),
  (16, .iconst 0, 1, []),
  (17, .istore_n 3, 1, []),
  (18, .iload_n 3, 1, []),
  (19, .aload_n 0, 1, []),
  (20, .arraylength, 1, []),
  (21, .bipush 6, 2, []),
  (23, .isub, 1, []),
  (24, .if_icmp .gt 1278, 3, []),
  (27, .aload_n 0, 1, []),
  (28, .iload_n 3, 1, []),
  (29, .iaload, 1, []),
  (30, .bipush 63, 2, []),
  (32, .iand, 1, []),
  (33, .tableswitch 1263 0 35 #[159, 222, 255, 298, 347, 390, 413, 426, 449, 462, 495, 518, 541, 574, 597, 620, 633, 656, 679, 712, 735, 758, 801, 834, 857, 870, 903, 916, 929, 972, 995, 1028, 1051, 1094, 1167, 1200], 159, []),
  (192, .aload_n 1, 1, []),
  (193, .aload_n 0, 1, []),
  (194, .iload_n 3, 1, []),
  (195, .iconst 1, 1, []),
  (196, .iadd, 1, []),
  (197, .iaload, 1, []),
  (198, .aload_n 0, 1, []),
  (199, .iload_n 3, 1, []),
  (200, .iconst 2, 1, []),
  (201, .iadd, 1, []),
  (202, .iaload, 1, []),
  (203, .aload_n 0, 1, []),
  (204, .iload_n 3, 1, []),
  (205, .iconst 3, 1, []),
  (206, .iadd, 1, []),
  (207, .iaload, 1, []),
  (208, .aload_n 0, 1, []),
  (209, .iload_n 3, 1, []),
  (210, .iconst 4, 1, []),
  (211, .iadd, 1, []),
  (212, .iaload, 1, []),
  (213, .aload_n 0, 1, []),
  (214, .iload_n 3, 1, []),
  (215, .iconst 5, 1, []),
  (216, .iadd, 1, []),
  (217, .iaload, 1, []),
  (218, .invokevirtual 13, 3, [63, 6, 0, 0, 2053, 2054, 2055]),
  (221, .aload_n 2, 1, []),
  (222, .aload_n 0, 1, []),
  (223, .iload_n 3, 1, []),
  (224, .iconst 1, 1, []),
  (225, .iadd, 1, []),
  (226, .iaload, 1, []),
  (227, .aload_n 0, 1, []),
  (228, .iload_n 3, 1, []),
  (229, .iconst 2, 1, []),
  (230, .iadd, 1, []),
  (231, .iaload, 1, []),
  (232, .aload_n 0, 1, []),
  (233, .iload_n 3, 1, []),
  (234, .iconst 3, 1, []),
  (235, .iadd, 1, []),
  (236, .iaload, 1, []),
  (237, .aload_n 0, 1, []),
  (238, .iload_n 3, 1, []),
  (239, .iconst 4, 1, []),
  (240, .iadd, 1, []),
  (241, .iaload, 1, []),
  (242, .aload_n 0, 1, []),
  (243, .iload_n 3, 1, []),
  (244, .iconst 5, 1, []),
  (245, .iadd, 1, []),
  (246, .iaload, 1, []),
  (247, .invokevirtual 17, 3, [114, 6, 0, 0, 5077, 5078, 5079]),
  (250, .if_icmp .eq 1046, 3, []),
  (253, .iconst 0, 1, []),
  (254, .ireturn, 1, []),
  (255, .aload_n 1, 1, []),
  (256, .aload_n 0, 1, []),
  (257, .iload_n 3, 1, []),
  (258, .iconst 1, 1, []),
  (259, .iadd, 1, []),
  (260, .iaload, 1, []),
  (261, .aload_n 0, 1, []),
  (262, .iload_n 3, 1, []),
  (263, .iconst 2, 1, []),
  (264, .iadd, 1, []),
  (265, .iaload, 1, []),
  (266, .invokevirtual 18, 3, [64, 3, 0, 0, 2067, 2068, 2069]),
  (269, .pop, 1, []),
  (270, .aload_n 2, 1, []),
  (271, .aload_n 0, 1, []),
  (272, .iload_n 3, 1, []),
  (273, .iconst 1, 1, []),
  (274, .iadd, 1, []),
  (275, .iaload, 1, []),
  (276, .aload_n 0, 1, []),
  (277, .iload_n 3, 1, []),
  (278, .iconst 2, 1, []),
  (279, .iadd, 1, []),
  (280, .iaload, 1, []),
  (281, .invokevirtual 22, 3, [149, 3, 0, 0, 5165, 5166, 5167]),
  (284, .pop, 1, []),
  (285, .goto 1011, 3, []),
  (288, .aload_n 1, 1, []),
  (289, .aload_n 0, 1, []),
  (290, .iload_n 3, 1, []),
  (291, .iconst 1, 1, []),
  (292, .iadd, 1, []),
  (293, .iaload, 1, []),
  (294, .aload_n 0, 1, []),
  (295, .iload_n 3, 1, []),
  (296, .iconst 2, 1, []),
  (297, .iadd, 1, []),
  (298, .iaload, 1, []),
  (299, .aload_n 0, 1, []),
  (300, .iload_n 3, 1, []),
  (301, .iconst 3, 1, []),
  (302, .iadd, 1, []),
  (303, .iaload, 1, []),
  (304, .invokevirtual 23, 3, [65, 4, 0, 0, 2207, 2208, 2209]),
  (307, .pop, 1, []),
  (308, .aload_n 2, 1, []),
  (309, .aload_n 0, 1, []),
  (310, .iload_n 3, 1, []),
  (311, .iconst 1, 1, []),
  (312, .iadd, 1, []),
  (313, .iaload, 1, []),
  (314, .aload_n 0, 1, []),
  (315, .iload_n 3, 1, []),
  (316, .iconst 2, 1, []),
  (317, .iadd, 1, []),
  (318, .iaload, 1, []),
  (319, .aload_n 0, 1, []),
  (320, .iload_n 3, 1, []),
  (321, .iconst 3, 1, []),
  (322, .iadd, 1, []),
  (323, .iaload, 1, []),
  (324, .invokevirtual 27, 3, [115, 4, 0, 0, 5085, 5086, 5087]),
  (327, .pop, 1, []),
  (328, .goto 968, 3, []),
  (331, .aload_n 1, 1, []),
  (332, .aload_n 0, 1, []),
  (333, .iload_n 3, 1, []),
  (334, .iconst 1, 1, []),
  (335, .iadd, 1, []),
  (336, .iaload, 1, []),
  (337, .aload_n 0, 1, []),
  (338, .iload_n 3, 1, []),
  (339, .iconst 2, 1, []),
  (340, .iadd, 1, []),
  (341, .iaload, 1, []),
  (342, .ifCond .eq 7, 3, []),
  (345, .iconst 1, 1, []),
  (346, .goto 4, 3, []),
  (349, .iconst 0, 1, []),
  (350, .invokevirtual 28, 3, [66, 3, 0, 0, 2211, 2212, 2213]),
  (353, .pop, 1, []),
  (354, .aload_n 2, 1, []),
  (355, .aload_n 0, 1, []),
  (356, .iload_n 3, 1, []),
  (357, .iconst 1, 1, []),
  (358, .iadd, 1, []),
  (359, .iaload, 1, []),
  (360, .aload_n 0, 1, []),
  (361, .iload_n 3, 1, []),
  (362, .iconst 2, 1, []),
  (363, .iadd, 1, []),
  (364, .iaload, 1, []),
  (365, .ifCond .eq 7, 3, []),
  (368, .iconst 1, 1, []),
  (369, .goto 4, 3, []),
  (372, .iconst 0, 1, []),
  (373, .invokevirtual 32, 3, [116, 3, 0, 0, 5093, 5094, 5095]),
  (376, .pop, 1, []),
  (377, .goto 919, 3, []),
  (380, .aload_n 1, 1, []),
  (381, .aload_n 0, 1, []),
  (382, .iload_n 3, 1, []),
  (383, .iconst 1, 1, []),
  (384, .iadd, 1, []),
  (385, .iaload, 1, []),
  (386, .aload_n 0, 1, []),
  (387, .iload_n 3, 1, []),
  (388, .iconst 2, 1, []),
  (389, .iadd, 1, []),
  (390, .iaload, 1, []),
  (391, .aload_n 0, 1, []),
  (392, .iload_n 3, 1, []),
  (393, .iconst 3, 1, []),
  (394, .iadd, 1, []),
  (395, .iaload, 1, []),
  (396, .invokevirtual 33, 3, [67, 4, 0, 0, 2215, 2216, 2217]),
  (399, .pop, 1, []),
  (400, .aload_n 2, 1, []),
  (401, .aload_n 0, 1, []),
  (402, .iload_n 3, 1, []),
  (403, .iconst 1, 1, []),
  (404, .iadd, 1, []),
  (405, .iaload, 1, []),
  (406, .aload_n 0, 1, []),
  (407, .iload_n 3, 1, []),
  (408, .iconst 2, 1, []),
  (409, .iadd, 1, []),
  (410, .iaload, 1, []),
  (411, .aload_n 0, 1, []),
  (412, .iload_n 3, 1, []),
  (413, .iconst 3, 1, []),
  (414, .iadd, 1, []),
  (415, .iaload, 1, []),
  (416, .invokevirtual 36, 3, [117, 4, 0, 0, 5097, 5098, 5099]),
  (419, .pop, 1, []),
  (420, .goto 876, 3, []),
  (423, .aload_n 1, 1, []),
  (424, .aload_n 0, 1, []),
  (425, .iload_n 3, 1, []),
  (426, .iconst 1, 1, []),
  (427, .iadd, 1, []),
  (428, .iaload, 1, []),
  (429, .invokevirtual 37, 3, [68, 2, 0, 0, 2219, 2220, 2221]),
  (432, .pop, 1, []),
  (433, .aload_n 2, 1, []),
  (434, .aload_n 0, 1, []),
  (435, .iload_n 3, 1, []),
  (436, .iconst 1, 1, []),
  (437, .iadd, 1, []),
  (438, .iaload, 1, []),
  (439, .invokevirtual 41, 3, [118, 2, 0, 0, 5101, 5102, 5103]),
  (442, .pop, 1, []),
  (443, .goto 853, 3, []),
  (446, .aload_n 1, 1, []),
  (447, .invokevirtual 42, 3, [69, 1, 0, 0, 2227, 2228, 2229]),
  (450, .pop, 1, []),
  (451, .aload_n 2, 1, []),
  (452, .invokevirtual 46, 3, [133, 1, 0, 0, 5105, 5106, 5107]),
  (455, .pop, 1, []),
  (456, .goto 840, 3, []),
  (459, .aload_n 1, 1, []),
  (460, .aload_n 0, 1, []),
  (461, .iload_n 3, 1, []),
  (462, .iconst 1, 1, []),
  (463, .iadd, 1, []),
  (464, .iaload, 1, []),
  (465, .invokevirtual 47, 3, [70, 2, 0, 0, 3159, 3160, 3161]),
  (468, .pop, 1, []),
  (469, .aload_n 2, 1, []),
  (470, .aload_n 0, 1, []),
  (471, .iload_n 3, 1, []),
  (472, .iconst 1, 1, []),
  (473, .iadd, 1, []),
  (474, .iaload, 1, []),
  (475, .invokevirtual 50, 3, [150, 2, 0, 0, 5233, 5234, 5235]),
  (478, .pop, 1, []),
  (479, .goto 817, 3, []),
  (482, .aload_n 1, 1, []),
  (483, .invokevirtual 51, 3, [71, 1, 0, 0, 3164, 3165, 3166]),
  (486, .pop, 1, []),
  (487, .aload_n 2, 1, []),
  (488, .invokevirtual 54, 3, [159, 1, 0, 0, 6001, 6002, 6003]),
  (491, .pop, 1, []),
  (492, .goto 804, 3, []),
  (495, .aload_n 1, 1, []),
  (496, .aload_n 0, 1, []),
  (497, .iload_n 3, 1, []),
  (498, .iconst 1, 1, []),
  (499, .iadd, 1, []),
  (500, .iaload, 1, []),
  (501, .aload_n 0, 1, []),
  (502, .iload_n 3, 1, []),
  (503, .iconst 2, 1, []),
  (504, .iadd, 1, []),
  (505, .iaload, 1, []),
  (506, .invokevirtual 55, 3, [72, 3, 0, 0, 3168, 3169, 3170]),
  (509, .pop, 1, []),
  (510, .aload_n 2, 1, []),
  (511, .aload_n 0, 1, []),
  (512, .iload_n 3, 1, []),
  (513, .iconst 1, 1, []),
  (514, .iadd, 1, []),
  (515, .iaload, 1, []),
  (516, .aload_n 0, 1, []),
  (517, .iload_n 3, 1, []),
  (518, .iconst 2, 1, []),
  (519, .iadd, 1, []),
  (520, .iaload, 1, []),
  (521, .invokevirtual 58, 3, [162, 3, 0, 0, 6037, 6038, 6039]),
  (524, .pop, 1, []),
  (525, .goto 771, 3, []),
  (528, .aload_n 1, 1, []),
  (529, .aload_n 0, 1, []),
  (530, .iload_n 3, 1, []),
  (531, .iconst 1, 1, []),
  (532, .iadd, 1, []),
  (533, .iaload, 1, []),
  (534, .invokevirtual 59, 3, [73, 2, 0, 0, 3178, 3179, 3180]),
  (537, .pop, 1, []),
  (538, .aload_n 2, 1, []),
  (539, .aload_n 0, 1, []),
  (540, .iload_n 3, 1, []),
  (541, .iconst 1, 1, []),
  (542, .iadd, 1, []),
  (543, .iaload, 1, []),
  (544, .invokevirtual 62, 3, [164, 2, 0, 0, 6053, 6054, 6055]),
  (547, .pop, 1, []),
  (548, .goto 748, 3, []),
  (551, .aload_n 1, 1, []),
  (552, .aload_n 0, 1, []),
  (553, .iload_n 3, 1, []),
  (554, .iconst 1, 1, []),
  (555, .iadd, 1, []),
  (556, .iaload, 1, []),
  (557, .invokevirtual 63, 3, [74, 2, 0, 0, 3186, 3187, 3188]),
  (560, .pop, 1, []),
  (561, .aload_n 2, 1, []),
  (562, .aload_n 0, 1, []),
  (563, .iload_n 3, 1, []),
  (564, .iconst 1, 1, []),
  (565, .iadd, 1, []),
  (566, .iaload, 1, []),
  (567, .invokevirtual 66, 3, [165, 2, 0, 0, 6061, 6062, 6063]),
  (570, .pop, 1, []),
  (571, .goto 725, 3, []),
  (574, .aload_n 1, 1, []),
  (575, .aload_n 0, 1, []),
  (576, .iload_n 3, 1, []),
  (577, .iconst 1, 1, []),
  (578, .iadd, 1, []),
  (579, .iaload, 1, []),
  (580, .aload_n 0, 1, []),
  (581, .iload_n 3, 1, []),
  (582, .iconst 2, 1, []),
  (583, .iadd, 1, []),
  (584, .iaload, 1, []),
  (585, .invokevirtual 67, 3, [75, 3, 0, 0, 3190, 3191, 3192]),
  (588, .pop, 1, []),
  (589, .aload_n 2, 1, []),
  (590, .aload_n 0, 1, []),
  (591, .iload_n 3, 1, []),
  (592, .iconst 1, 1, []),
  (593, .iadd, 1, []),
  (594, .iaload, 1, []),
  (595, .aload_n 0, 1, []),
  (596, .iload_n 3, 1, []),
  (597, .iconst 2, 1, []),
  (598, .iadd, 1, []),
  (599, .iaload, 1, []),
  (600, .invokevirtual 70, 3, [166, 3, 0, 0, 6065, 6066, 6067]),
  (603, .pop, 1, []),
  (604, .goto 692, 3, []),
  (607, .aload_n 1, 1, []),
  (608, .aload_n 0, 1, []),
  (609, .iload_n 3, 1, []),
  (610, .iconst 1, 1, []),
  (611, .iadd, 1, []),
  (612, .iaload, 1, []),
  (613, .invokevirtual 71, 3, [76, 2, 0, 0, 3198, 3199, 3200]),
  (616, .pop, 1, []),
  (617, .aload_n 2, 1, []),
  (618, .aload_n 0, 1, []),
  (619, .iload_n 3, 1, []),
  (620, .iconst 1, 1, []),
  (621, .iadd, 1, []),
  (622, .iaload, 1, []),
  (623, .invokevirtual 74, 3, [167, 2, 0, 0, 6069, 6070, 6071]),
  (626, .pop, 1, []),
  (627, .goto 669, 3, []),
  (630, .aload_n 1, 1, []),
  (631, .aload_n 0, 1, []),
  (632, .iload_n 3, 1, []),
  (633, .iconst 1, 1, []),
  (634, .iadd, 1, []),
  (635, .iaload, 1, []),
  (636, .invokevirtual 75, 3, [77, 2, 0, 0, 3206, 3207, 3208]),
  (639, .pop, 1, []),
  (640, .aload_n 2, 1, []),
  (641, .aload_n 0, 1, []),
  (642, .iload_n 3, 1, []),
  (643, .iconst 1, 1, []),
  (644, .iadd, 1, []),
  (645, .iaload, 1, []),
  (646, .invokevirtual 78, 3, [168, 2, 0, 0, 6073, 6074, 6075]),
  (649, .pop, 1, []),
  (650, .goto 646, 3, []),
  (653, .aload_n 1, 1, []),
  (654, .invokevirtual 79, 3, [78, 1, 0, 0, 3210, 3211, 3212]),
  (657, .pop, 1, []),
  (658, .aload_n 2, 1, []),
  (659, .invokevirtual 82, 3, [169, 1, 0, 0, 6077, 6078, 6079]),
  (662, .pop, 1, []),
  (663, .goto 633, 3, []),
  (666, .aload_n 1, 1, []),
  (667, .aload_n 0, 1, []),
  (668, .iload_n 3, 1, []),
  (669, .iconst 1, 1, []),
  (670, .iadd, 1, []),
  (671, .iaload, 1, []),
  (672, .invokevirtual 83, 3, [79, 2, 0, 0, 3214, 3215, 3216]),
  (675, .pop, 1, []),
  (676, .aload_n 2, 1, []),
  (677, .aload_n 0, 1, []),
  (678, .iload_n 3, 1, []),
  (679, .iconst 1, 1, []),
  (680, .iadd, 1, []),
  (681, .iaload, 1, []),
  (682, .invokevirtual 86, 3, [170, 2, 0, 0, 6081, 6082, 6083]),
  (685, .pop, 1, []),
  (686, .goto 610, 3, []),
  (689, .aload_n 1, 1, []),
  (690, .aload_n 0, 1, []),
  (691, .iload_n 3, 1, []),
  (692, .iconst 1, 1, []),
  (693, .iadd, 1, []),
  (694, .iaload, 1, []),
  (695, .invokevirtual 87, 3, [80, 2, 0, 0, 3218, 3219, 3220]),
  (698, .pop, 1, []),
  (699, .aload_n 2, 1, []),
  (700, .aload_n 0, 1, []),
  (701, .iload_n 3, 1, []),
  (702, .iconst 1, 1, []),
  (703, .iadd, 1, []),
  (704, .iaload, 1, []),
  (705, .invokevirtual 90, 3, [173, 2, 0, 0, 6085, 6086, 6087]),
  (708, .pop, 1, []),
  (709, .goto 587, 3, []),
  (712, .aload_n 1, 1, []),
  (713, .aload_n 0, 1, []),
  (714, .iload_n 3, 1, []),
  (715, .iconst 1, 1, []),
  (716, .iadd, 1, []),
  (717, .iaload, 1, []),
  (718, .aload_n 0, 1, []),
  (719, .iload_n 3, 1, []),
  (720, .iconst 2, 1, []),
  (721, .iadd, 1, []),
  (722, .iaload, 1, []),
  (723, .invokevirtual 91, 3, [81, 3, 0, 0, 3230, 3231, 3232]),
  (726, .pop, 1, []),
  (727, .aload_n 2, 1, []),
  (728, .aload_n 0, 1, []),
  (729, .iload_n 3, 1, []),
  (730, .iconst 1, 1, []),
  (731, .iadd, 1, []),
  (732, .iaload, 1, []),
  (733, .aload_n 0, 1, []),
  (734, .iload_n 3, 1, []),
  (735, .iconst 2, 1, []),
  (736, .iadd, 1, []),
  (737, .iaload, 1, []),
  (738, .invokevirtual 94, 3, [174, 3, 0, 0, 6097, 6098, 6099]),
  (741, .pop, 1, []),
  (742, .goto 554, 3, []),
  (745, .aload_n 1, 1, []),
  (746, .aload_n 0, 1, []),
  (747, .iload_n 3, 1, []),
  (748, .iconst 1, 1, []),
  (749, .iadd, 1, []),
  (750, .iaload, 1, []),
  (751, .invokevirtual 95, 3, [82, 2, 0, 0, 3238, 3239, 4000]),
  (754, .pop, 1, []),
  (755, .aload_n 2, 1, []),
  (756, .aload_n 0, 1, []),
  (757, .iload_n 3, 1, []),
  (758, .iconst 1, 1, []),
  (759, .iadd, 1, []),
  (760, .iaload, 1, []),
  (761, .invokevirtual 98, 3, [175, 2, 0, 0, 6101, 6102, 6103]),
  (764, .pop, 1, []),
  (765, .goto 531, 3, []),
  (768, .aload_n 1, 1, []),
  (769, .aload_n 0, 1, []),
  (770, .iload_n 3, 1, []),
  (771, .iconst 1, 1, []),
  (772, .iadd, 1, []),
  (773, .iaload, 1, []),
  (774, .invokevirtual 99, 3, [83, 2, 0, 0, 4006, 4007, 4008]),
  (777, .pop, 1, []),
  (778, .aload_n 2, 1, []),
  (779, .aload_n 0, 1, []),
  (780, .iload_n 3, 1, []),
  (781, .iconst 1, 1, []),
  (782, .iadd, 1, []),
  (783, .iaload, 1, []),
  (784, .invokevirtual 102, 3, [176, 2, 0, 0, 6105, 6106, 6107]),
  (787, .pop, 1, []),
  (788, .goto 508, 3, []),
  (791, .aload_n 1, 1, []),
  (792, .aload_n 0, 1, []),
  (793, .iload_n 3, 1, []),
  (794, .iconst 1, 1, []),
  (795, .iadd, 1, []),
  (796, .iaload, 1, []),
  (797, .aload_n 0, 1, []),
  (798, .iload_n 3, 1, []),
  (799, .iconst 2, 1, []),
  (800, .iadd, 1, []),
  (801, .iaload, 1, []),
  (802, .aload_n 0, 1, []),
  (803, .iload_n 3, 1, []),
  (804, .iconst 3, 1, []),
  (805, .iadd, 1, []),
  (806, .iaload, 1, []),
  (807, .invokevirtual 103, 3, [84, 4, 0, 0, 4010, 4011, 4012]),
  (810, .pop2, 1, []),
  (811, .aload_n 2, 1, []),
  (812, .aload_n 0, 1, []),
  (813, .iload_n 3, 1, []),
  (814, .iconst 1, 1, []),
  (815, .iadd, 1, []),
  (816, .iaload, 1, []),
  (817, .aload_n 0, 1, []),
  (818, .iload_n 3, 1, []),
  (819, .iconst 2, 1, []),
  (820, .iadd, 1, []),
  (821, .iaload, 1, []),
  (822, .aload_n 0, 1, []),
  (823, .iload_n 3, 1, []),
  (824, .iconst 3, 1, []),
  (825, .iadd, 1, []),
  (826, .iaload, 1, []),
  (827, .invokevirtual 107, 3, [179, 4, 0, 0, 6109, 6110, 6111]),
  (830, .pop2, 1, []),
  (831, .goto 465, 3, []),
  (834, .aload_n 1, 1, []),
  (835, .aload_n 0, 1, []),
  (836, .iload_n 3, 1, []),
  (837, .iconst 1, 1, []),
  (838, .iadd, 1, []),
  (839, .iaload, 1, []),
  (840, .aload_n 0, 1, []),
  (841, .iload_n 3, 1, []),
  (842, .iconst 2, 1, []),
  (843, .iadd, 1, []),
  (844, .iaload, 1, []),
  (845, .invokevirtual 108, 3, [85, 3, 0, 0, 4018, 4019, 4020]),
  (848, .pop2, 1, []),
  (849, .aload_n 2, 1, []),
  (850, .aload_n 0, 1, []),
  (851, .iload_n 3, 1, []),
  (852, .iconst 1, 1, []),
  (853, .iadd, 1, []),
  (854, .iaload, 1, []),
  (855, .aload_n 0, 1, []),
  (856, .iload_n 3, 1, []),
  (857, .iconst 2, 1, []),
  (858, .iadd, 1, []),
  (859, .iaload, 1, []),
  (860, .invokevirtual 112, 3, [180, 3, 0, 0, 6122, 6123, 6124]),
  (863, .pop2, 1, []),
  (864, .goto 432, 3, []),
  (867, .aload_n 1, 1, []),
  (868, .aload_n 0, 1, []),
  (869, .iload_n 3, 1, []),
  (870, .iconst 1, 1, []),
  (871, .iadd, 1, []),
  (872, .iaload, 1, []),
  (873, .invokevirtual 113, 3, [86, 2, 0, 0, 4022, 4023, 4024]),
  (876, .pop, 1, []),
  (877, .aload_n 2, 1, []),
  (878, .aload_n 0, 1, []),
  (879, .iload_n 3, 1, []),
  (880, .iconst 1, 1, []),
  (881, .iadd, 1, []),
  (882, .iaload, 1, []),
  (883, .invokevirtual 116, 3, [181, 2, 0, 0, 6126, 6127, 6128]),
  (886, .pop, 1, []),
  (887, .goto 409, 3, []),
  (890, .aload_n 1, 1, []),
  (891, .invokevirtual 117, 3, [87, 1, 0, 0, 4026, 4027, 4028]),
  (894, .pop, 1, []),
  (895, .aload_n 2, 1, []),
  (896, .invokevirtual 120, 3, [182, 1, 0, 0, 6130, 6131, 6132]),
  (899, .pop, 1, []),
  (900, .goto 396, 3, []),
  (903, .aload_n 1, 1, []),
  (904, .aload_n 0, 1, []),
  (905, .iload_n 3, 1, []),
  (906, .iconst 1, 1, []),
  (907, .iadd, 1, []),
  (908, .iaload, 1, []),
  (909, .aload_n 0, 1, []),
  (910, .iload_n 3, 1, []),
  (911, .iconst 2, 1, []),
  (912, .iadd, 1, []),
  (913, .iaload, 1, []),
  (914, .invokevirtual 121, 3, [88, 3, 0, 0, 4030, 4031, 4032]),
  (917, .pop, 1, []),
  (918, .aload_n 2, 1, []),
  (919, .aload_n 0, 1, []),
  (920, .iload_n 3, 1, []),
  (921, .iconst 1, 1, []),
  (922, .iadd, 1, []),
  (923, .iaload, 1, []),
  (924, .aload_n 0, 1, []),
  (925, .iload_n 3, 1, []),
  (926, .iconst 2, 1, []),
  (927, .iadd, 1, []),
  (928, .iaload, 1, []),
  (929, .invokevirtual 124, 3, [183, 3, 0, 0, 6134, 6135, 6136]),
  (932, .pop, 1, []),
  (933, .goto 363, 3, []),
  (936, .aload_n 1, 1, []),
  (937, .invokevirtual 125, 3, [89, 1, 0, 0, 4044, 4045, 4046]),
  (940, .pop, 1, []),
  (941, .aload_n 2, 1, []),
  (942, .invokevirtual 128, 3, [184, 1, 0, 0, 6142, 6143, 6144]),
  (945, .pop, 1, []),
  (946, .goto 350, 3, []),
  (949, .aload_n 1, 1, []),
  (950, .invokevirtual 129, 3, [90, 1, 0, 0, 4049, 4050, 4051]),
  (953, .pop, 1, []),
  (954, .aload_n 2, 1, []),
  (955, .invokevirtual 132, 3, [185, 1, 0, 0, 6146, 6147, 6148]),
  (958, .pop, 1, []),
  (959, .goto 337, 3, []),
  (962, .aload_n 1, 1, []),
  (963, .aload_n 0, 1, []),
  (964, .iload_n 3, 1, []),
  (965, .iconst 1, 1, []),
  (966, .iadd, 1, []),
  (967, .iaload, 1, []),
  (968, .aload_n 0, 1, []),
  (969, .iload_n 3, 1, []),
  (970, .iconst 2, 1, []),
  (971, .iadd, 1, []),
  (972, .iaload, 1, []),
  (973, .aload_n 0, 1, []),
  (974, .iload_n 3, 1, []),
  (975, .iconst 3, 1, []),
  (976, .iadd, 1, []),
  (977, .iaload, 1, []),
  (978, .invokevirtual 133, 3, [91, 4, 0, 0, 4053, 4054, 4055]),
  (981, .pop, 1, []),
  (982, .aload_n 2, 1, []),
  (983, .aload_n 0, 1, []),
  (984, .iload_n 3, 1, []),
  (985, .iconst 1, 1, []),
  (986, .iadd, 1, []),
  (987, .iaload, 1, []),
  (988, .aload_n 0, 1, []),
  (989, .iload_n 3, 1, []),
  (990, .iconst 2, 1, []),
  (991, .iadd, 1, []),
  (992, .iaload, 1, []),
  (993, .aload_n 0, 1, []),
  (994, .iload_n 3, 1, []),
  (995, .iconst 3, 1, []),
  (996, .iadd, 1, []),
  (997, .iaload, 1, []),
  (998, .invokevirtual 136, 3, [194, 4, 0, 0, 6150, 6151, 6152]),
  (1001, .pop, 1, []),
  (1002, .goto 294, 3, []),
  (1005, .aload_n 1, 1, []),
  (1006, .aload_n 0, 1, []),
  (1007, .iload_n 3, 1, []),
  (1008, .iconst 1, 1, []),
  (1009, .iadd, 1, []),
  (1010, .iaload, 1, []),
  (1011, .invokevirtual 137, 3, [92, 2, 0, 0, 4073, 4074, 4075]),
  (1014, .pop, 1, []),
  (1015, .aload_n 2, 1, []),
  (1016, .aload_n 0, 1, []),
  (1017, .iload_n 3, 1, []),
  (1018, .iconst 1, 1, []),
  (1019, .iadd, 1, []),
  (1020, .iaload, 1, []),
  (1021, .invokevirtual 140, 3, [195, 2, 0, 0, 6186, 6187, 6188]),
  (1024, .pop, 1, []),
  (1025, .goto 271, 3, []),
  (1028, .aload_n 1, 1, []),
  (1029, .aload_n 0, 1, []),
  (1030, .iload_n 3, 1, []),
  (1031, .iconst 1, 1, []),
  (1032, .iadd, 1, []),
  (1033, .iaload, 1, []),
  (1034, .aload_n 0, 1, []),
  (1035, .iload_n 3, 1, []),
  (1036, .iconst 2, 1, []),
  (1037, .iadd, 1, []),
  (1038, .iaload, 1, []),
  (1039, .invokevirtual 141, 3, [93, 3, 0, 0, 4077, 4078, 4079]),
  (1042, .pop, 1, []),
  (1043, .aload_n 2, 1, []),
  (1044, .aload_n 0, 1, []),
  (1045, .iload_n 3, 1, []),
  (1046, .iconst 1, 1, []),
  (1047, .iadd, 1, []),
  (1048, .iaload, 1, []),
  (1049, .aload_n 0, 1, []),
  (1050, .iload_n 3, 1, []),
  (1051, .iconst 2, 1, []),
  (1052, .iadd, 1, []),
  (1053, .iaload, 1, []),
  (1054, .invokevirtual 144, 3, [196, 3, 0, 0, 6190, 6191, 6192]),
  (1057, .pop, 1, []),
  (1058, .goto 238, 3, []),
  (1061, .aload_n 1, 1, []),
  (1062, .aload_n 0, 1, []),
  (1063, .iload_n 3, 1, []),
  (1064, .iconst 1, 1, []),
  (1065, .iadd, 1, []),
  (1066, .iaload, 1, []),
  (1067, .invokevirtual 145, 3, [94, 2, 0, 0, 4082, 4083, 4084]),
  (1070, .pop, 1, []),
  (1071, .aload_n 2, 1, []),
  (1072, .aload_n 0, 1, []),
  (1073, .iload_n 3, 1, []),
  (1074, .iconst 1, 1, []),
  (1075, .iadd, 1, []),
  (1076, .iaload, 1, []),
  (1077, .invokevirtual 148, 3, [197, 2, 0, 0, 6194, 6195, 6196]),
  (1080, .pop, 1, []),
  (1081, .goto 215, 3, []),
  (1084, .aload_n 1, 1, []),
  (1085, .aload_n 0, 1, []),
  (1086, .iload_n 3, 1, []),
  (1087, .iconst 1, 1, []),
  (1088, .iadd, 1, []),
  (1089, .iaload, 1, []),
  (1090, .aload_n 0, 1, []),
  (1091, .iload_n 3, 1, []),
  (1092, .iconst 2, 1, []),
  (1093, .iadd, 1, []),
  (1094, .iaload, 1, []),
  (1095, .aload_n 0, 1, []),
  (1096, .iload_n 3, 1, []),
  (1097, .iconst 3, 1, []),
  (1098, .iadd, 1, []),
  (1099, .iaload, 1, []),
  (1100, .invokevirtual 149, 3, [95, 4, 0, 0, 4086, 4087, 4088]),
  (1103, .pop, 1, []),
  (1104, .aload_n 2, 1, []),
  (1105, .aload_n 0, 1, []),
  (1106, .iload_n 3, 1, []),
  (1107, .iconst 1, 1, []),
  (1108, .iadd, 1, []),
  (1109, .iaload, 1, []),
  (1110, .aload_n 0, 1, []),
  (1111, .iload_n 3, 1, []),
  (1112, .iconst 2, 1, []),
  (1113, .iadd, 1, []),
  (1114, .iaload, 1, []),
  (1115, .aload_n 0, 1, []),
  (1116, .iload_n 3, 1, []),
  (1117, .iconst 3, 1, []),
  (1118, .iadd, 1, []),
  (1119, .iaload, 1, []),
  (1120, .invokevirtual 152, 3, [199, 4, 0, 0, 6198, 6199, 6200]),
  (1123, .pop, 1, []),
  (1124, .goto 172, 3, []),
  (1127, .aload_n 1, 1, []),
  (1128, .aload_n 0, 1, []),
  (1129, .iload_n 3, 1, []),
  (1130, .iconst 1, 1, []),
  (1131, .iadd, 1, []),
  (1132, .iaload, 1, []),
  (1133, .aload_n 0, 1, []),
  (1134, .iload_n 3, 1, []),
  (1135, .iconst 2, 1, []),
  (1136, .iadd, 1, []),
  (1137, .iaload, 1, []),
  (1138, .aload_n 0, 1, []),
  (1139, .iload_n 3, 1, []),
  (1140, .iconst 3, 1, []),
  (1141, .iadd, 1, []),
  (1142, .iaload, 1, []),
  (1143, .i2l, 1, []),
  (1144, .bipush 32, 2, []),
  (1146, .lshl, 1, []),
  (1147, .aload_n 0, 1, []),
  (1148, .iload_n 3, 1, []),
  (1149, .iconst 4, 1, []),
  (1150, .iadd, 1, []),
  (1151, .iaload, 1, []),
  (1152, .i2l, 1, []),
  (1153, .ldc2_w 153, 3, [4294967295, 6218]),
  (1156, .land, 1, []),
  (1157, .lor, 1, []),
  (1158, .invokevirtual 155, 3, [96, 4, 0, 0, 4097, 4098, 4099]),
  (1161, .pop, 1, []),
  (1162, .aload_n 2, 1, []),
  (1163, .aload_n 0, 1, []),
  (1164, .iload_n 3, 1, []),
  (1165, .iconst 1, 1, []),
  (1166, .iadd, 1, []),
  (1167, .iaload, 1, []),
  (1168, .aload_n 0, 1, []),
  (1169, .iload_n 3, 1, []),
  (1170, .iconst 2, 1, []),
  (1171, .iadd, 1, []),
  (1172, .iaload, 1, []),
  (1173, .aload_n 0, 1, []),
  (1174, .iload_n 3, 1, []),
  (1175, .iconst 3, 1, []),
  (1176, .iadd, 1, []),
  (1177, .iaload, 1, []),
  (1178, .i2l, 1, []),
  (1179, .bipush 32, 2, []),
  (1181, .lshl, 1, []),
  (1182, .aload_n 0, 1, []),
  (1183, .iload_n 3, 1, []),
  (1184, .iconst 4, 1, []),
  (1185, .iadd, 1, []),
  (1186, .iaload, 1, []),
  (1187, .i2l, 1, []),
  (1188, .ldc2_w 153, 3, [4294967295, 6218]),
  (1191, .land, 1, []),
  (1192, .lor, 1, []),
  (1193, .invokevirtual 159, 3, [201, 4, 0, 0, 6202, 6203, 6204]),
  (1196, .pop, 1, []),
  (1197, .goto 99, 3, []),
  (1200, .aload_n 1, 1, []),
  (1201, .aload_n 0, 1, []),
  (1202, .iload_n 3, 1, []),
  (1203, .iconst 1, 1, []),
  (1204, .iadd, 1, []),
  (1205, .iaload, 1, []),
  (1206, .aload_n 0, 1, []),
  (1207, .iload_n 3, 1, []),
  (1208, .iconst 2, 1, []),
  (1209, .iadd, 1, []),
  (1210, .iaload, 1, []),
  (1211, .invokevirtual 160, 3, [97, 3, 0, 0, 4104, 4105, 4106]),
  (1214, .pop2, 1, []),
  (1215, .aload_n 2, 1, []),
  (1216, .aload_n 0, 1, []),
  (1217, .iload_n 3, 1, []),
  (1218, .iconst 1, 1, []),
  (1219, .iadd, 1, []),
  (1220, .iaload, 1, []),
  (1221, .aload_n 0, 1, []),
  (1222, .iload_n 3, 1, []),
  (1223, .iconst 2, 1, []),
  (1224, .iadd, 1, []),
  (1225, .iaload, 1, []),
  (1226, .invokevirtual 163, 3, [202, 3, 0, 0, 6210, 6211, 6212]),
  (1229, .pop2, 1, []),
  (1230, .goto 66, 3, []),
  (1233, .aload_n 1, 1, []),
  (1234, .aload_n 0, 1, []),
  (1235, .iload_n 3, 1, []),
  (1236, .iconst 1, 1, []),
  (1237, .iadd, 1, []),
  (1238, .iaload, 1, []),
  (1239, .aload_n 0, 1, []),
  (1240, .iload_n 3, 1, []),
  (1241, .iconst 2, 1, []),
  (1242, .iadd, 1, []),
  (1243, .iaload, 1, []),
  (1244, .aload_n 0, 1, []),
  (1245, .iload_n 3, 1, []),
  (1246, .iconst 3, 1, []),
  (1247, .iadd, 1, []),
  (1248, .iaload, 1, []),
  (1249, .aload_n 0, 1, []),
  (1250, .iload_n 3, 1, []),
  (1251, .iconst 4, 1, []),
  (1252, .iadd, 1, []),
  (1253, .iaload, 1, []),
  (1254, .aload_n 0, 1, []),
  (1255, .iload_n 3, 1, []),
  (1256, .iconst 5, 1, []),
  (1257, .iadd, 1, []),
  (1258, .iaload, 1, []),
  (1259, .invokevirtual 164, 3, [98, 6, 0, 0, 4108, 4109, 4110]),
  (1262, .pop, 1, []),
  (1263, .aload_n 2, 1, []),
  (1264, .aload_n 0, 1, []),
  (1265, .iload_n 3, 1, []),
  (1266, .iconst 1, 1, []),
  (1267, .iadd, 1, []),
  (1268, .iaload, 1, []),
  (1269, .aload_n 0, 1, []),
  (1270, .iload_n 3, 1, []),
  (1271, .iconst 2, 1, []),
  (1272, .iadd, 1, []),
  (1273, .iaload, 1, []),
  (1274, .aload_n 0, 1, []),
  (1275, .iload_n 3, 1, []),
  (1276, .iconst 3, 1, []),
  (1277, .iadd, 1, []),
  (1278, .iaload, 1, []),
  (1279, .aload_n 0, 1, []),
  (1280, .iload_n 3, 1, []),
  (1281, .iconst 4, 1, []),
  (1282, .iadd, 1, []),
  (1283, .iaload, 1, []),
  (1284, .aload_n 0, 1, []),
  (1285, .iload_n 3, 1, []),
  (1286, .iconst 5, 1, []),
  (1287, .iadd, 1, []),
  (1288, .iaload, 1, []),
  (1289, .invokevirtual 167, 3, [203, 6, 0, 0, 6214, 6215, 6216]),
  (1292, .pop, 1, []),
  (1293, .goto 3, 3, []),
  (1296, .iinc 3 6, 3, []),
  (1299, .goto (-1281), 3, []),
  (1302, .iconst 1, 1, []),
  (1303, .ireturn, 1, [])]
def c_1 : List En := [
  (0, .aload_n 0, 1, []),
  (1, .invokespecial 3, 3, [9999, 1, 1, 0, 1216]),
  (4, .aload_n 0, 1, []),
  (5, .bipush 20, 2, []),
  (7, .newarray .int, 2, []),
  (9, .putfield 11, 3, [0, 3, 0, 1223]),
  (12, .return_, 1, [])]
def c_2 : List En := [
  (0, .iload_n 1, 1, []),
  (1, .iload_n 2, 1, []),
  (2, .invokestatic 15, 3, [3, 2, 2, 0, 4061, 4062, 0]),
  (5, .istore 5, 2, []),
  (7, .iload 5, 2, []),
  (9, .ifCond .lt 17, 3, []),
  (12, .iload 5, 2, []),
  (14, .bipush 7, 2, []),
  (16, .if_icmp .ge 10, 3, []),
  (19, .iload 4, 2, []),
  (21, .bipush 40, 2, []),
  (23, .if_icmp .le 5, 3, []),
  (26, .iconst 0, 1, []),
  (27, .ireturn, 1, []),
  (28, .getstatic 19, 3, [1, 0, 4064]),
  (31, .iload_n 1, 1, []),
  (32, .bipush 7, 2, []),
  (34, .imul, 1, []),
  (35, .iload 5, 2, []),
  (37, .iadd, 1, []),
  (38, .iaload, 1, []),
  (39, .istore 6, 2, []),
  (41, .getstatic 22, 3, [0, 1, 4066]),
  (44, .iload 5, 2, []),
  (46, .iaload, 1, []),
  (47, .istore 7, 2, []),
  (49, .iload 4, 2, []),
  (51, .iconst 1, 1, []),
  (52, .iadd, 1, []),
  (53, .istore 8, 2, []),
  (55, .aload_n 0, 1, []),
  (56, .iload 6, 2, []),
  (58, .invokevirtual 25, 3, [4, 2, 0, 0, 4068, 4070, 51]),
  (61, .iload 6, 2, []),
  (63, .lookupswitch 267 #[(10, 97), (11, 104), (12, 122), (20, 137), (30, 151), (40, 164), (50, 188), (51, 200), (60, 213), (70, 229), (71, 251)], 97, []),
  (160, .iload_n 3, 1, []),
  (161, .aload_n 0, 1, []),
  (162, .getfield 29, 3, [0, 0, 0, 1217]),
  (165, .iadd, 1, []),
  (166, .ireturn, 1, []),
  (167, .aload_n 0, 1, []),
  (168, .iconst 0, 1, []),
  (169, .aload_n 0, 1, []),
  (170, .getfield 33, 3, [0, 1, 0, 1219]),
  (173, .iload_n 3, 1, []),
  (174, .iload 8, 2, []),
  (176, .invokevirtual 36, 3, [2, 5, 0, 0, 4072, 4059, 50]),
  (179, .aload_n 0, 1, []),
  (180, .getfield 40, 3, [0, 2, 0, 1221]),
  (183, .isub, 1, []),
  (184, .ireturn, 1, []),
  (185, .aload_n 0, 1, []),
  (186, .iconst 1, 1, []),
  (187, .aload_n 0, 1, []),
  (188, .getfield 33, 3, [0, 1, 0, 1219]),
  (191, .iload_n 3, 1, []),
  (192, .iload 8, 2, []),
  (194, .invokevirtual 36, 3, [2, 5, 0, 0, 4072, 4059, 50]),
  (197, .iconst 2, 1, []),
  (198, .imul, 1, []),
  (199, .ireturn, 1, []),
  (200, .aload_n 0, 1, []),
  (201, .iconst 1, 1, []),
  (202, .iload 7, 2, []),
  (204, .iload_n 3, 1, []),
  (205, .iload 8, 2, []),
  (207, .invokevirtual 36, 3, [2, 5, 0, 0, 4072, 4059, 50]),
  (210, .bipush 6, 2, []),
  (212, .ixor, 1, []),
  (213, .ireturn, 1, []),
  (214, .aload_n 0, 1, []),
  (215, .iconst 0, 1, []),
  (216, .iload 7, 2, []),
  (218, .iload_n 3, 1, []),
  (219, .iconst 3, 1, []),
  (220, .imul, 1, []),
  (221, .iload 8, 2, []),
  (223, .invokevirtual 36, 3, [2, 5, 0, 0, 4072, 4059, 50]),
  (226, .ireturn, 1, []),
  (227, .aload_n 0, 1, []),
  (228, .iconst 2, 1, []),
  (229, .iload 7, 2, []),
  (231, .iload_n 3, 1, []),
  (232, .iload 8, 2, []),
  (234, .invokevirtual 36, 3, [2, 5, 0, 0, 4072, 4059, 50]),
  (237, .aload_n 0, 1, []),
  (238, .iconst 1, 1, []),
  (239, .aload_n 0, 1, []),
  (240, .getfield 33, 3, [0, 1, 0, 1219]),
  (243, .iconst 1, 1, []),
  (244, .iload 8, 2, []),
  (246, .invokevirtual 36, 3, [2, 5, 0, 0, 4072, 4059, 50]),
  (249, .iadd, 1, []),
  (250, .ireturn, 1, []),
  (251, .aload_n 0, 1, []),
  (252, .iconst 0, 1, []),
  (253, .iload 7, 2, []),
  (255, .iload_n 3, 1, []),
  (256, .iload 8, 2, []),
  (258, .invokevirtual 36, 3, [2, 5, 0, 0, 4072, 4059, 50]),
  (261, .ineg, 1, []),
  (262, .ireturn, 1, []),
  (263, .aload_n 0, 1, []),
  (264, .iconst 1, 1, []),
  (265, .iload 7, 2, []),
  (267, .iload_n 3, 1, []),
  (268, .iconst 1, 1, []),
  (269, .iadd, 1, []),
  (270, .iload 8, 2, []),
  (272, .invokevirtual 36, 3, [2, 5, 0, 0, 4072, 4059, 50]),
  (275, .ireturn, 1, []),
  (276, .aload_n 0, 1, []),
  (277, .iconst 2, 1, []),
  (278, .iload 7, 2, []),
  (280, .iload_n 3, 1, []),
  (281, .aload_n 0, 1, []),
  (282, .getfield 29, 3, [0, 0, 0, 1217]),
  (285, .isub, 1, []),
  (286, .iload 8, 2, []),
  (288, .invokevirtual 36, 3, [2, 5, 0, 0, 4072, 4059, 50]),
  (291, .ireturn, 1, []),
  (292, .aload_n 0, 1, []),
  (293, .iconst 1, 1, []),
  (294, .iload 7, 2, []),
  (296, .iload_n 3, 1, []),
  (297, .iload 8, 2, []),
  (299, .invokevirtual 36, 3, [2, 5, 0, 0, 4072, 4059, 50]),
  (302, .aload_n 0, 1, []),
  (303, .iconst 0, 1, []),
  (304, .iload 7, 2, []),
  (306, .iconst 2, 1, []),
  (307, .iload 8, 2, []),
  (309, .invokevirtual 36, 3, [2, 5, 0, 0, 4072, 4059, 50]),
  (312, .iadd, 1, []),
  (313, .ireturn, 1, []),
  (314, .aload_n 0, 1, []),
  (315, .iconst 0, 1, []),
  (316, .iload 7, 2, []),
  (318, .iload_n 3, 1, []),
  (319, .iload 8, 2, []),
  (321, .invokevirtual 36, 3, [2, 5, 0, 0, 4072, 4059, 50]),
  (324, .aload_n 0, 1, []),
  (325, .getfield 40, 3, [0, 2, 0, 1221]),
  (328, .ixor, 1, []),
  (329, .ireturn, 1, []),
  (330, .iconst 0, 1, []),
  (331, .ireturn, 1, [])]
def c_3 : List En := [
  (0, .iload_n 0, 1, []),
  (1, .ifCond .lt 8, 3, []),
  (4, .iload_n 0, 1, []),
  (5, .iconst 2, 1, []),
  (6, .if_icmp .le 5, 3, []),
  (9, .iconst (-1), 1, []),
  (10, .ireturn, 1, []),
  (11, .iload_n 1, 1, []),
  (12, .istore_n 2, 1, []),
  (13, .iconst 0, 1, []),
  (14, .istore_n 3, 1, []),
  (15, .iload_n 3, 1, []),
  (16, .bipush 7, 2, []),
  (18, .if_icmp .ge 40, 3, []),
  (21, .iload_n 2, 1, []),
  (22, .ifCond .lt 36, 3, []),
  (25, .iload_n 2, 1, []),
  (26, .bipush 7, 2, []),
  (28, .if_icmp .ge 30, 3, []),
  (31, .getstatic 19, 3, [1, 0, 4064]),
  (34, .iload_n 0, 1, []),
  (35, .bipush 7, 2, []),
  (37, .imul, 1, []),
  (38, .iload_n 2, 1, []),
  (39, .iadd, 1, []),
  (40, .iaload, 1, []),
  (41, .ifCond .eq 5, 3, []),
  (44, .iload_n 2, 1, []),
  (45, .ireturn, 1, []),
  (46, .getstatic 22, 3, [0, 1, 4066]),
  (49, .iload_n 2, 1, []),
  (50, .iaload, 1, []),
  (51, .istore_n 2, 1, []),
  (52, .iinc 3 1, 3, []),
  (55, .goto (-40), 3, []),
  (58, .iconst (-1), 1, []),
  (59, .ireturn, 1, [])]
def c_4 : List En := [
  (0, .aload_n 0, 1, []),
  (1, .getfield 43, 3, [0, 4, 0, 1225]),
  (4, .ifCond .lt 22, 3, []),
  (7, .aload_n 0, 1, []),
  (8, .getfield 43, 3, [0, 4, 0, 1225]),
  (11, .bipush 20, 2, []),
  (13, .if_icmp .ge 13, 3, []),
  (16, .aload_n 0, 1, []),
  (17, .getfield 11, 3, [0, 3, 0, 1223]),
  (20, .aload_n 0, 1, []),
  (21, .getfield 43, 3, [0, 4, 0, 1225]),
  (24, .iload_n 1, 1, []),
  (25, .iastore, 1, []),
  (26, .aload_n 0, 1, []),
  (27, .dup, 1, []),
  (28, .getfield 43, 3, [0, 4, 0, 1225]),
  (31, .iconst 1, 1, []),
  (32, .iadd, 1, []),
  (33, .putfield 43, 3, [0, 4, 0, 1225]),
  (36, .return_, 1, [])]
def c_5 : List En := [
  (0, .aload_n 0, 1, []),
  (1, .invokespecial 3, 3, [9999, 1, 1, 0, 1099]),
  (4, .aload_n 0, 1, []),
  (5, .new 9, 3, [2, 1100]),
  (8, .dup, 1, []),
  (9, .invokespecial 11, 3, [25, 1, 1, 1, 1101, 1029, 0]),
  (12, .putfield 12, 3, [1, 0, 0, 1127]),
  (15, .aload_n 0, 1, []),
  (16, .new 18, 3, [5, 1102]),
  (19, .dup, 1, []),
  (20, .invokespecial 20, 3, [53, 1, 1, 1, 1104, 1105, 0]),
  (23, .putfield 21, 3, [1, 1, 0, 1129]),
  (26, .aload_n 0, 1, []),
  (27, .bipush 6, 2, []),
  (29, .newarray .int, 2, []),
  (31, .putfield 25, 3, [1, 2, 0, 1130]),
  (34, .aload_n 0, 1, []),
  (35, .bipush 7, 2, []),
  (37, .newarray .int, 2, []),
  (39, .putfield 29, 3, [1, 3, 0, 1131]),
  (42, .aload_n 0, 1, []),
  (43, .bipush 7, 2, []),
  (45, .newarray .int, 2, []),
  (47, .putfield 32, 3, [1, 4, 0, 1132]),
  (50, .aload_n 0, 1, []),
  (51, .bipush 7, 2, []),
  (53, .newarray .int, 2, []),
  (55, .putfield 35, 3, [1, 5, 0, 1134]),
  (58, .aload_n 0, 1, []),
  (59, .bipush 7, 2, []),
  (61, .newarray .int, 2, []),
  (63, .putfield 38, 3, [1, 6, 0, 1136]),
  (66, .aload_n 0, 1, []),
  (67, .bipush 7, 2, []),
  (69, .newarray .int, 2, []),
  (71, .putfield 41, 3, [1, 7, 0, 1138]),
  (74, .aload_n 0, 1, []),
  (75, .bipush 7, 2, []),
  (77, .newarray .int, 2, []),
  (79, .putfield 44, 3, [1, 8, 0, 1140]),
  (82, .return_, 1, [])]
def c_6 : List En := [
  (0, .aload_n 0, 1, []),
  (1, .getfield 12, 3, [1, 0, 0, 1127]),
  (4, .aload_n 1, 1, []),
  (5, .invokevirtual 47, 3, [33, 2, 0, 1, 2094, 2096, 6]),
  (8, .aload_n 0, 1, []),
  (9, .aload_n 2, 1, []),
  (10, .putfield 21, 3, [1, 1, 0, 1129]),
  (13, .aload_n 0, 1, []),
  (14, .iconst 0, 1, []),
  (15, .putfield 51, 3, [1, 9, 0, 1141]),
  (18, .aload_n 0, 1, []),
  (19, .iconst 0, 1, []),
  (20, .putfield 55, 3, [1, 12, 0, 1145]),
  (23, .aload_n 0, 1, []),
  (24, .iconst (-1), 1, []),
  (25, .putfield 59, 3, [1, 13, 0, 1147]),
  (28, .aload_n 0, 1, []),
  (29, .iconst (-1), 1, []),
  (30, .putfield 62, 3, [1, 15, 0, 1149]),
  (33, .return_, 1, [])]
def c_7 : List En := [
  (0, .aload_n 0, 1, []),
  (1, .iload_n 1, 1, []),
  (2, .putfield 59, 3, [1, 13, 0, 1147]),
  (5, .aload_n 0, 1, []),
  (6, .iload_n 2, 1, []),
  (7, .putfield 65, 3, [1, 14, 0, 1148]),
  (10, .return_, 1, [])]
def c_8 : List En := [
  (0, .aload_n 0, 1, []),
  (1, .iload_n 1, 1, []),
  (2, .putfield 62, 3, [1, 15, 0, 1149]),
  (5, .aload_n 0, 1, []),
  (6, .iload_n 2, 1, []),
  (7, .putfield 68, 3, [1, 16, 0, 1150]),
  (10, .return_, 1, [])]
def c_9 : List En := [
  (0, .aload_n 0, 1, []),
  (1, .invokevirtual 71, 3, [10, 1, 0, 0, 3176, 2103, 7]),
  (4, .istore_n 1, 1, []),
  (5, .aload_n 0, 1, []),
  (6, .getfield 12, 3, [1, 0, 0, 1127]),
  (9, .dup, 1, []),
  (10, .getfield 75, 3, [2, 7, 1, 1053]),
  (13, .iload_n 1, 1, []),
  (14, .ior, 1, []),
  (15, .putfield 75, 3, [2, 7, 1, 1053]),
  (18, .aload_n 0, 1, []),
  (19, .getfield 12, 3, [1, 0, 0, 1127]),
  (22, .dup, 1, []),
  (23, .getfield 78, 3, [2, 8, 1, 1055]),
  (26, .iconst 1, 1, []),
  (27, .iadd, 1, []),
  (28, .putfield 78, 3, [2, 8, 1, 1055]),
  (31, .iload_n 1, 1, []),
  (32, .ireturn, 1, [])]
def c_10 : List En := [
  (0, .aload_n 0, 1, []),
  (1, .aload_n 0, 1, []),
  (2, .getfield 12, 3, [1, 0, 0, 1127]),
  (5, .getfield 75, 3, [2, 7, 1, 1053]),
  (8, .aload_n 0, 1, []),
  (9, .getfield 51, 3, [1, 9, 0, 1141]),
  (12, .iconst (-1), 1, []),
  (13, .ixor, 1, []),
  (14, .iand, 1, []),
  (15, .putfield 81, 3, [1, 10, 0, 1143]),
  (18, .aload_n 0, 1, []),
  (19, .aload_n 0, 1, []),
  (20, .getfield 12, 3, [1, 0, 0, 1127]),
  (23, .invokevirtual 84, 3, [29, 1, 0, 1, 2105, 2107, 8]),
  (26, .aload_n 0, 1, []),
  (27, .getfield 51, 3, [1, 9, 0, 1141]),
  (30, .iconst (-1), 1, []),
  (31, .ixor, 1, []),
  (32, .iand, 1, []),
  (33, .putfield 87, 3, [1, 11, 0, 1144]),
  (36, .aload_n 0, 1, []),
  (37, .invokevirtual 90, 3, [11, 1, 0, 0, 2113, 2115, 10]),
  (40, .aload_n 0, 1, []),
  (41, .invokevirtual 93, 3, [13, 1, 0, 0, 2152, 2154, 16]),
  (44, .aload_n 0, 1, []),
  (45, .invokevirtual 96, 3, [14, 1, 0, 0, 2175, 2177, 20]),
  (48, .aload_n 0, 1, []),
  (49, .invokevirtual 99, 3, [20, 1, 0, 0, 2179, 2181, 21]),
  (52, .istore_n 1, 1, []),
  (53, .iconst 0, 1, []),
  (54, .istore_n 2, 1, []),
  (55, .iconst 0, 1, []),
  (56, .istore_n 3, 1, []),
  (57, .iconst 0, 1, []),
  (58, .istore 4, 2, []),
  (60, .iload 4, 2, []),
  (62, .iload_n 1, 1, []),
  (63, .if_icmp .ge 70, 3, []),
  (66, .iload 4, 2, []),
  (68, .bipush 7, 2, []),
  (70, .if_icmp .ge 63, 3, []),
  (73, .aload_n 0, 1, []),
  (74, .getfield 44, 3, [1, 8, 0, 1140]),
  (77, .iload 4, 2, []),
  (79, .iaload, 1, []),
  (80, .istore 5, 2, []),
  (82, .aload_n 0, 1, []),
  (83, .aload_n 0, 1, []),
  (84, .getfield 38, 3, [1, 6, 0, 1136]),
  (87, .iload 5, 2, []),
  (89, .iaload, 1, []),
  (90, .invokevirtual 102, 3, [18, 2, 0, 0, 2198, 2200, 25]),
  (93, .iload_n 2, 1, []),
  (94, .iconst (-1), 1, []),
  (95, .ixor, 1, []),
  (96, .iand, 1, []),
  (97, .istore 6, 2, []),
  (99, .aload_n 0, 1, []),
  (100, .iload 6, 2, []),
  (102, .invokevirtual 106, 3, [19, 2, 0, 0, 2203, 2205, 26]),
  (105, .aload_n 0, 1, []),
  (106, .getfield 41, 3, [1, 7, 0, 1138]),
  (109, .iload 5, 2, []),
  (111, .iaload, 1, []),
  (112, .if_icmp .le 15, 3, []),
  (115, .iload_n 3, 1, []),
  (116, .iconst 1, 1, []),
  (117, .iload 5, 2, []),
  (119, .ishl, 1, []),
  (120, .ior, 1, []),
  (121, .istore_n 3, 1, []),
  (122, .iload_n 2, 1, []),
  (123, .iload 6, 2, []),
  (125, .ior, 1, []),
  (126, .istore_n 2, 1, []),
  (127, .iinc 4 1, 3, []),
  (130, .goto (-70), 3, []),
  (133, .iload_n 3, 1, []),
  (134, .ireturn, 1, [])]
def c_11 : List En := [
  (0, .aload_n 0, 1, []),
  (1, .getfield 29, 3, [1, 3, 0, 1131]),
  (4, .aload_n 0, 1, []),
  (5, .getfield 55, 3, [1, 12, 0, 1145]),
  (8, .ifCond .eq 10, 3, []),
  (11, .aload_n 0, 1, []),
  (12, .getfield 81, 3, [1, 10, 0, 1143]),
  (15, .goto 4, 3, []),
  (18, .iconst 0, 1, []),
  (19, .invokestatic 109, 3, [221, 2, 2, 0, 2117, 2007, 0]),
  (22, .iconst 0, 1, []),
  (23, .istore_n 1, 1, []),
  (24, .iload_n 1, 1, []),
  (25, .bipush 7, 2, []),
  (27, .if_icmp .ge 100, 3, []),
  (30, .aload_n 0, 1, []),
  (31, .getfield 81, 3, [1, 10, 0, 1143]),
  (34, .iload_n 1, 1, []),
  (35, .invokestatic 115, 3, [104, 2, 2, 1, 2118, 2080, 0]),
  (38, .ifCond .eq 83, 3, []),
  (41, .aload_n 0, 1, []),
  (42, .iload_n 1, 1, []),
  (43, .aload_n 0, 1, []),
  (44, .getfield 12, 3, [1, 0, 0, 1127]),
  (47, .getfield 119, 3, [2, 3, 1, 1042]),
  (50, .iload_n 1, 1, []),
  (51, .iaload, 1, []),
  (52, .invokevirtual 122, 3, [24, 3, 0, 0, 2119, 2121, 11]),
  (55, .aload_n 0, 1, []),
  (56, .getfield 32, 3, [1, 4, 0, 1132]),
  (59, .iload_n 1, 1, []),
  (60, .aload_n 0, 1, []),
  (61, .getfield 21, 3, [1, 1, 0, 1129]),
  (64, .iconst 0, 1, []),
  (65, .invokevirtual 126, 3, [57, 2, 0, 1, 2126, 2128, 12]),
  (68, .ifCond .eq 18, 3, []),
  (71, .aload_n 0, 1, []),
  (72, .getfield 21, 3, [1, 1, 0, 1129]),
  (75, .iconst 0, 1, []),
  (76, .aload_n 0, 1, []),
  (77, .getfield 25, 3, [1, 2, 0, 1130]),
  (80, .invokevirtual 130, 3, [58, 3, 0, 1, 2130, 2132, 13]),
  (83, .goto 4, 3, []),
  (86, .iconst 1, 1, []),
  (87, .iastore, 1, []),
  (88, .aload_n 0, 1, []),
  (89, .getfield 35, 3, [1, 5, 0, 1134]),
  (92, .iload_n 1, 1, []),
  (93, .aload_n 0, 1, []),
  (94, .getfield 12, 3, [1, 0, 0, 1127]),
  (97, .getfield 134, 3, [2, 5, 1, 1048]),
  (100, .iload_n 1, 1, []),
  (101, .iaload, 1, []),
  (102, .aload_n 0, 1, []),
  (103, .getfield 21, 3, [1, 1, 0, 1129]),
  (106, .iconst 1, 1, []),
  (107, .aload_n 0, 1, []),
  (108, .getfield 25, 3, [1, 2, 0, 1130]),
  (111, .invokevirtual 130, 3, [58, 3, 0, 1, 2130, 2132, 13]),
  (114, .iadd, 1, []),
  (115, .iastore, 1, []),
  (116, .aload_n 0, 1, []),
  (117, .iload_n 1, 1, []),
  (118, .invokevirtual 137, 3, [12, 2, 0, 0, 2145, 2147, 15]),
  (121, .iinc 1 1, 3, []),
  (124, .goto (-100), 3, []),
  (127, .return_, 1, [])]
def c_12 : List En := [
  (0, .iconst 0, 1, []),
  (1, .istore_n 2, 1, []),
  (2, .iload_n 2, 1, []),
  (3, .bipush 7, 2, []),
  (5, .if_icmp .ge 44, 3, []),
  (8, .iload_n 2, 1, []),
  (9, .aload_n 0, 1, []),
  (10, .getfield 12, 3, [1, 0, 0, 1127]),
  (13, .getfield 119, 3, [2, 3, 1, 1042]),
  (16, .iload_n 1, 1, []),
  (17, .iaload, 1, []),
  (18, .isub, 1, []),
  (19, .invokestatic 141, 3, [206, 1, 2, 0, 2149, 2150, 0]),
  (22, .aload_n 0, 1, []),
  (23, .getfield 32, 3, [1, 4, 0, 1132]),
  (26, .iload_n 1, 1, []),
  (27, .iaload, 1, []),
  (28, .if_icmp .gt 15, 3, []),
  (31, .aload_n 0, 1, []),
  (32, .getfield 29, 3, [1, 3, 0, 1131]),
  (35, .iload_n 2, 1, []),
  (36, .dup2, 1, []),
  (37, .iaload, 1, []),
  (38, .iconst 1, 1, []),
  (39, .iload_n 1, 1, []),
  (40, .ishl, 1, []),
  (41, .ior, 1, []),
  (42, .iastore, 1, []),
  (43, .iinc 2 1, 3, []),
  (46, .goto (-44), 3, []),
  (49, .return_, 1, [])]
def c_13 : List En := [
  (0, .iconst 0, 1, []),
  (1, .istore_n 1, 1, []),
  (2, .iload_n 1, 1, []),
  (3, .bipush 7, 2, []),
  (5, .if_icmp .ge 46, 3, []),
  (8, .aload_n 0, 1, []),
  (9, .getfield 87, 3, [1, 11, 0, 1144]),
  (12, .iload_n 1, 1, []),
  (13, .invokestatic 115, 3, [104, 2, 2, 1, 2118, 2080, 0]),
  (16, .ifCond .eq 29, 3, []),
  (19, .aload_n 0, 1, []),
  (20, .getfield 38, 3, [1, 6, 0, 1136]),
  (23, .iload_n 1, 1, []),
  (24, .iload_n 1, 1, []),
  (25, .aload_n 0, 1, []),
  (26, .getfield 59, 3, [1, 13, 0, 1147]),
  (29, .if_icmp .ne 10, 3, []),
  (32, .aload_n 0, 1, []),
  (33, .getfield 65, 3, [1, 14, 0, 1148]),
  (36, .goto 8, 3, []),
  (39, .aload_n 0, 1, []),
  (40, .iload_n 1, 1, []),
  (41, .invokevirtual 146, 3, [15, 2, 0, 0, 2156, 2158, 17]),
  (44, .iastore, 1, []),
  (45, .iinc 1 1, 3, []),
  (48, .goto (-46), 3, []),
  (51, .aload_n 0, 1, []),
  (52, .getfield 12, 3, [1, 0, 0, 1127]),
  (55, .aload_n 0, 1, []),
  (56, .getfield 62, 3, [1, 15, 0, 1149]),
  (59, .invokevirtual 149, 3, [26, 2, 0, 1, 2174, 2073, 1]),
  (62, .ifCond .eq 35, 3, []),
  (65, .aload_n 0, 1, []),
  (66, .getfield 12, 3, [1, 0, 0, 1127]),
  (69, .aload_n 0, 1, []),
  (70, .getfield 68, 3, [1, 16, 0, 1150]),
  (73, .invokevirtual 149, 3, [26, 2, 0, 1, 2174, 2073, 1]),
  (76, .ifCond .eq 21, 3, []),
  (79, .aload_n 0, 1, []),
  (80, .getfield 38, 3, [1, 6, 0, 1136]),
  (83, .aload_n 0, 1, []),
  (84, .getfield 62, 3, [1, 15, 0, 1149]),
  (87, .aload_n 0, 1, []),
  (88, .getfield 38, 3, [1, 6, 0, 1136]),
  (91, .aload_n 0, 1, []),
  (92, .getfield 68, 3, [1, 16, 0, 1150]),
  (95, .iaload, 1, []),
  (96, .iastore, 1, []),
  (97, .return_, 1, [])]
def c_14 : List En := [
  (0, .iconst 0, 1, []),
  (1, .istore_n 1, 1, []),
  (2, .iload_n 1, 1, []),
  (3, .bipush 7, 2, []),
  (5, .if_icmp .ge 96, 3, []),
  (8, .aload_n 0, 1, []),
  (9, .getfield 87, 3, [1, 11, 0, 1144]),
  (12, .iload_n 1, 1, []),
  (13, .invokestatic 115, 3, [104, 2, 2, 1, 2118, 2080, 0]),
  (16, .ifCond .eq 79, 3, []),
  (19, .aload_n 0, 1, []),
  (20, .iload_n 1, 1, []),
  (21, .aload_n 0, 1, []),
  (22, .getfield 38, 3, [1, 6, 0, 1136]),
  (25, .iload_n 1, 1, []),
  (26, .iaload, 1, []),
  (27, .invokevirtual 122, 3, [24, 3, 0, 0, 2119, 2121, 11]),
  (30, .aload_n 0, 1, []),
  (31, .getfield 41, 3, [1, 7, 0, 1138]),
  (34, .iload_n 1, 1, []),
  (35, .aload_n 0, 1, []),
  (36, .getfield 12, 3, [1, 0, 0, 1127]),
  (39, .getfield 134, 3, [2, 5, 1, 1048]),
  (42, .iload_n 1, 1, []),
  (43, .iaload, 1, []),
  (44, .aload_n 0, 1, []),
  (45, .getfield 12, 3, [1, 0, 0, 1127]),
  (48, .getfield 150, 3, [2, 4, 1, 1045]),
  (51, .iload_n 1, 1, []),
  (52, .iaload, 1, []),
  (53, .iadd, 1, []),
  (54, .aload_n 0, 1, []),
  (55, .getfield 21, 3, [1, 1, 0, 1129]),
  (58, .iconst 2, 1, []),
  (59, .aload_n 0, 1, []),
  (60, .getfield 25, 3, [1, 2, 0, 1130]),
  (63, .invokevirtual 130, 3, [58, 3, 0, 1, 2130, 2132, 13]),
  (66, .iadd, 1, []),
  (67, .aload_n 0, 1, []),
  (68, .getfield 12, 3, [1, 0, 0, 1127]),
  (71, .getfield 153, 3, [2, 1, 1, 1036]),
  (74, .iload_n 1, 1, []),
  (75, .iaload, 1, []),
  (76, .iconst 4, 1, []),
  (77, .if_icmp .ne 15, 3, []),
  (80, .aload_n 0, 1, []),
  (81, .getfield 12, 3, [1, 0, 0, 1127]),
  (84, .getfield 156, 3, [2, 2, 1, 1039]),
  (87, .iload_n 1, 1, []),
  (88, .iaload, 1, []),
  (89, .goto 4, 3, []),
  (92, .iconst 0, 1, []),
  (93, .iadd, 1, []),
  (94, .iastore, 1, []),
  (95, .iinc 1 1, 3, []),
  (98, .goto (-96), 3, []),
  (101, .return_, 1, [])]
def c_15 : List En := [
  (0, .aload_n 0, 1, []),
  (1, .getfield 12, 3, [1, 0, 0, 1127]),
  (4, .getfield 119, 3, [2, 3, 1, 1042]),
  (7, .iload_n 1, 1, []),
  (8, .iaload, 1, []),
  (9, .istore_n 2, 1, []),
  (10, .aload_n 0, 1, []),
  (11, .getfield 12, 3, [1, 0, 0, 1127]),
  (14, .getfield 153, 3, [2, 1, 1, 1036]),
  (17, .iload_n 1, 1, []),
  (18, .iaload, 1, []),
  (19, .tableswitch 85 1 6 #[37, 49, 85, 37, 55, 61], 37, []),
  (56, .iload_n 2, 1, []),
  (57, .iconst 3, 1, []),
  (58, .if_icmp .gt 7, 3, []),
  (61, .iconst 0, 1, []),
  (62, .goto 5, 3, []),
  (65, .bipush 6, 2, []),
  (67, .ireturn, 1, []),
  (68, .aload_n 0, 1, []),
  (69, .iload_n 1, 1, []),
  (70, .invokevirtual 159, 3, [16, 2, 0, 0, 2160, 2162, 18]),
  (73, .ireturn, 1, []),
  (74, .aload_n 0, 1, []),
  (75, .iload_n 2, 1, []),
  (76, .invokevirtual 162, 3, [17, 2, 0, 0, 2164, 2166, 19]),
  (79, .ireturn, 1, []),
  (80, .aload_n 0, 1, []),
  (81, .getfield 12, 3, [1, 0, 0, 1127]),
  (84, .getfield 165, 3, [2, 6, 1, 1051]),
  (87, .iload_n 1, 1, []),
  (88, .iconst 4, 1, []),
  (89, .imul, 1, []),
  (90, .aload_n 0, 1, []),
  (91, .getfield 12, 3, [1, 0, 0, 1127]),
  (94, .getfield 78, 3, [2, 8, 1, 1055]),
  (97, .iconst 4, 1, []),
  (98, .invokestatic 168, 3, [205, 2, 2, 0, 2123, 2124, 0]),
  (101, .iadd, 1, []),
  (102, .iaload, 1, []),
  (103, .ireturn, 1, []),
  (104, .iload_n 2, 1, []),
  (105, .ireturn, 1, [])]
def c_16 : List En := [
  (0, .aload_n 0, 1, []),
  (1, .getfield 87, 3, [1, 11, 0, 1144]),
  (4, .iconst 1, 1, []),
  (5, .iload_n 1, 1, []),
  (6, .ishl, 1, []),
  (7, .iconst (-1), 1, []),
  (8, .ixor, 1, []),
  (9, .iand, 1, []),
  (10, .istore_n 2, 1, []),
  (11, .iconst (-1), 1, []),
  (12, .istore_n 3, 1, []),
  (13, .aload_n 0, 1, []),
  (14, .getfield 12, 3, [1, 0, 0, 1127]),
  (17, .getfield 119, 3, [2, 3, 1, 1042]),
  (20, .iload_n 1, 1, []),
  (21, .iaload, 1, []),
  (22, .istore 4, 2, []),
  (24, .iconst 0, 1, []),
  (25, .istore 5, 2, []),
  (27, .iload 5, 2, []),
  (29, .bipush 7, 2, []),
  (31, .if_icmp .ge 55, 3, []),
  (34, .iload_n 2, 1, []),
  (35, .iload 5, 2, []),
  (37, .invokestatic 115, 3, [104, 2, 2, 1, 2118, 2080, 0]),
  (40, .ifCond .eq 40, 3, []),
  (43, .aload_n 0, 1, []),
  (44, .getfield 12, 3, [1, 0, 0, 1127]),
  (47, .getfield 134, 3, [2, 5, 1, 1048]),
  (50, .iload 5, 2, []),
  (52, .iaload, 1, []),
  (53, .iload_n 3, 1, []),
  (54, .if_icmp .le 26, 3, []),
  (57, .aload_n 0, 1, []),
  (58, .getfield 12, 3, [1, 0, 0, 1127]),
  (61, .getfield 134, 3, [2, 5, 1, 1048]),
  (64, .iload 5, 2, []),
  (66, .iaload, 1, []),
  (67, .istore_n 3, 1, []),
  (68, .aload_n 0, 1, []),
  (69, .getfield 12, 3, [1, 0, 0, 1127]),
  (72, .getfield 119, 3, [2, 3, 1, 1042]),
  (75, .iload 5, 2, []),
  (77, .iaload, 1, []),
  (78, .istore 4, 2, []),
  (80, .iinc 5 1, 3, []),
  (83, .goto (-56), 3, []),
  (86, .iload 4, 2, []),
  (88, .ireturn, 1, [])]
def c_17 : List En := [
  (0, .iconst 0, 1, []),
  (1, .istore_n 2, 1, []),
  (2, .bipush 8, 2, []),
  (4, .istore_n 3, 1, []),
  (5, .bipush 7, 2, []),
  (7, .istore 4, 2, []),
  (9, .iconst 0, 1, []),
  (10, .istore 5, 2, []),
  (12, .iload 5, 2, []),
  (14, .bipush 7, 2, []),
  (16, .if_icmp .ge 59, 3, []),
  (19, .aload_n 0, 1, []),
  (20, .getfield 29, 3, [1, 3, 0, 1131]),
  (23, .iload 5, 2, []),
  (25, .iaload, 1, []),
  (26, .invokestatic 172, 3, [204, 1, 2, 0, 2168, 2169, 0]),
  (29, .istore 6, 2, []),
  (31, .iload 5, 2, []),
  (33, .iload_n 1, 1, []),
  (34, .isub, 1, []),
  (35, .invokestatic 141, 3, [206, 1, 2, 0, 2149, 2150, 0]),
  (38, .istore 7, 2, []),
  (40, .iload 6, 2, []),
  (42, .iload_n 3, 1, []),
  (43, .if_icmp .lt 16, 3, []),
  (46, .iload 6, 2, []),
  (48, .iload_n 3, 1, []),
  (49, .if_icmp .ne 20, 3, []),
  (52, .iload 7, 2, []),
  (54, .iload 4, 2, []),
  (56, .if_icmp .ge 13, 3, []),
  (59, .iload 5, 2, []),
  (61, .istore_n 2, 1, []),
  (62, .iload 6, 2, []),
  (64, .istore_n 3, 1, []),
  (65, .iload 7, 2, []),
  (67, .istore 4, 2, []),
  (69, .iinc 5 1, 3, []),
  (72, .goto (-60), 3, []),
  (75, .iload_n 2, 1, []),
  (76, .ireturn, 1, [])]
def c_18 : List En := [
  (0, .iload_n 1, 1, []),
  (1, .invokestatic 177, 3, [103, 1, 2, 1, 2202, 2061, 0]),
  (4, .ifCond .eq 12, 3, []),
  (7, .aload_n 0, 1, []),
  (8, .getfield 29, 3, [1, 3, 0, 1131]),
  (11, .iload_n 1, 1, []),
  (12, .iaload, 1, []),
  (13, .goto 4, 3, []),
  (16, .iconst 0, 1, []),
  (17, .ireturn, 1, [])]
def c_19 : List En := [
  (0, .iconst 0, 1, []),
  (1, .istore_n 2, 1, []),
  (2, .iconst 0, 1, []),
  (3, .istore_n 3, 1, []),
  (4, .iload_n 3, 1, []),
  (5, .bipush 7, 2, []),
  (7, .if_icmp .ge 26, 3, []),
  (10, .iload_n 1, 1, []),
  (11, .iload_n 3, 1, []),
  (12, .invokestatic 115, 3, [104, 2, 2, 1, 2118, 2080, 0]),
  (15, .ifCond .eq 12, 3, []),
  (18, .iload_n 2, 1, []),
  (19, .aload_n 0, 1, []),
  (20, .getfield 35, 3, [1, 5, 0, 1134]),
  (23, .iload_n 3, 1, []),
  (24, .iaload, 1, []),
  (25, .iadd, 1, []),
  (26, .istore_n 2, 1, []),
  (27, .iinc 3 1, 3, []),
  (30, .goto (-26), 3, []),
  (33, .iload_n 2, 1, []),
  (34, .ireturn, 1, [])]
def c_20 : List En := [
  (0, .iconst 0, 1, []),
  (1, .istore_n 1, 1, []),
  (2, .iconst 0, 1, []),
  (3, .istore_n 2, 1, []),
  (4, .iload_n 2, 1, []),
  (5, .bipush 7, 2, []),
  (7, .if_icmp .ge 35, 3, []),
  (10, .aload_n 0, 1, []),
  (11, .getfield 87, 3, [1, 11, 0, 1144]),
  (14, .iload_n 2, 1, []),
  (15, .invokestatic 115, 3, [104, 2, 2, 1, 2118, 2080, 0]),
  (18, .ifCond .eq 18, 3, []),
  (21, .iload_n 2, 1, []),
  (22, .aload_n 0, 1, []),
  (23, .getfield 62, 3, [1, 15, 0, 1149]),
  (26, .if_icmp .eq 10, 3, []),
  (29, .aload_n 0, 1, []),
  (30, .iload_n 2, 1, []),
  (31, .iload_n 1, 1, []),
  (32, .invokevirtual 180, 3, [21, 3, 0, 0, 2183, 2185, 22]),
  (35, .istore_n 1, 1, []),
  (36, .iinc 2 1, 3, []),
  (39, .goto (-35), 3, []),
  (42, .aload_n 0, 1, []),
  (43, .getfield 62, 3, [1, 15, 0, 1149]),
  (46, .ifCond .ge 7, 3, []),
  (49, .iload_n 1, 1, []),
  (50, .goto 8, 3, []),
  (53, .aload_n 0, 1, []),
  (54, .iload_n 1, 1, []),
  (55, .invokevirtual 183, 3, [22, 2, 0, 0, 2194, 2196, 24]),
  (58, .ireturn, 1, [])]
def c_21 : List En := [
  (0, .iload_n 2, 1, []),
  (1, .bipush 6, 2, []),
  (3, .invokestatic 186, 3, [208, 2, 2, 0, 2187, 2188, 0]),
  (6, .istore_n 3, 1, []),
  (7, .iload_n 3, 1, []),
  (8, .ifCond .le 43, 3, []),
  (11, .aload_n 0, 1, []),
  (12, .aload_n 0, 1, []),
  (13, .getfield 44, 3, [1, 8, 0, 1140]),
  (16, .iload_n 3, 1, []),
  (17, .iconst 1, 1, []),
  (18, .isub, 1, []),
  (19, .iaload, 1, []),
  (20, .invokevirtual 189, 3, [23, 2, 0, 0, 2190, 2192, 23]),
  (23, .aload_n 0, 1, []),
  (24, .iload_n 1, 1, []),
  (25, .invokevirtual 189, 3, [23, 2, 0, 0, 2190, 2192, 23]),
  (28, .if_icmp .ge 23, 3, []),
  (31, .aload_n 0, 1, []),
  (32, .getfield 44, 3, [1, 8, 0, 1140]),
  (35, .iload_n 3, 1, []),
  (36, .aload_n 0, 1, []),
  (37, .getfield 44, 3, [1, 8, 0, 1140]),
  (40, .iload_n 3, 1, []),
  (41, .iconst 1, 1, []),
  (42, .isub, 1, []),
  (43, .iaload, 1, []),
  (44, .iastore, 1, []),
  (45, .iinc 3 (-1), 3, []),
  (48, .goto (-41), 3, []),
  (51, .aload_n 0, 1, []),
  (52, .getfield 44, 3, [1, 8, 0, 1140]),
  (55, .iload_n 3, 1, []),
  (56, .iload_n 1, 1, []),
  (57, .iastore, 1, []),
  (58, .iload_n 2, 1, []),
  (59, .iconst 1, 1, []),
  (60, .iadd, 1, []),
  (61, .ireturn, 1, [])]
def c_22 : List En := [
  (0, .iload_n 1, 1, []),
  (1, .bipush 6, 2, []),
  (3, .invokestatic 186, 3, [208, 2, 2, 0, 2187, 2188, 0]),
  (6, .istore_n 2, 1, []),
  (7, .iload_n 2, 1, []),
  (8, .ifCond .le 38, 3, []),
  (11, .aload_n 0, 1, []),
  (12, .getfield 44, 3, [1, 8, 0, 1140]),
  (15, .iload_n 2, 1, []),
  (16, .iconst 1, 1, []),
  (17, .isub, 1, []),
  (18, .iaload, 1, []),
  (19, .aload_n 0, 1, []),
  (20, .getfield 68, 3, [1, 16, 0, 1150]),
  (23, .if_icmp .eq 23, 3, []),
  (26, .aload_n 0, 1, []),
  (27, .getfield 44, 3, [1, 8, 0, 1140]),
  (30, .iload_n 2, 1, []),
  (31, .aload_n 0, 1, []),
  (32, .getfield 44, 3, [1, 8, 0, 1140]),
  (35, .iload_n 2, 1, []),
  (36, .iconst 1, 1, []),
  (37, .isub, 1, []),
  (38, .iaload, 1, []),
  (39, .iastore, 1, []),
  (40, .iinc 2 (-1), 3, []),
  (43, .goto (-36), 3, []),
  (46, .aload_n 0, 1, []),
  (47, .getfield 44, 3, [1, 8, 0, 1140]),
  (50, .iload_n 2, 1, []),
  (51, .aload_n 0, 1, []),
  (52, .getfield 62, 3, [1, 15, 0, 1149]),
  (55, .iastore, 1, []),
  (56, .iload_n 1, 1, []),
  (57, .iconst 1, 1, []),
  (58, .iadd, 1, []),
  (59, .ireturn, 1, [])]
def c_23 : List En := [
  (0, .aload_n 0, 1, []),
  (1, .getfield 12, 3, [1, 0, 0, 1127]),
  (4, .getfield 153, 3, [2, 1, 1, 1036]),
  (7, .iload_n 1, 1, []),
  (8, .iaload, 1, []),
  (9, .iconst 3, 1, []),
  (10, .if_icmp .eq 17, 3, []),
  (13, .aload_n 0, 1, []),
  (14, .getfield 12, 3, [1, 0, 0, 1127]),
  (17, .getfield 153, 3, [2, 1, 1, 1036]),
  (20, .iload_n 1, 1, []),
  (21, .iaload, 1, []),
  (22, .bipush 6, 2, []),
  (24, .if_icmp .ne 7, 3, []),
  (27, .iconst 1, 1, []),
  (28, .goto 4, 3, []),
  (31, .iconst 0, 1, []),
  (32, .istore_n 2, 1, []),
  (33, .iload_n 2, 1, []),
  (34, .ifCond .eq 15, 3, []),
  (37, .aload_n 0, 1, []),
  (38, .getfield 12, 3, [1, 0, 0, 1127]),
  (41, .getfield 150, 3, [2, 4, 1, 1045]),
  (44, .iload_n 1, 1, []),
  (45, .iaload, 1, []),
  (46, .goto 17, 3, []),
  (49, .aload_n 0, 1, []),
  (50, .getfield 12, 3, [1, 0, 0, 1127]),
  (53, .getfield 150, 3, [2, 4, 1, 1045]),
  (56, .iload_n 1, 1, []),
  (57, .iaload, 1, []),
  (58, .bipush 9, 2, []),
  (60, .iadd, 1, []),
  (61, .iconst 1, 1, []),
  (62, .iadd, 1, []),
  (63, .ireturn, 1, [])]
def c_24 : List En := [
  (0, .aload_n 0, 1, []),
  (1, .getfield 25, 3, [1, 2, 0, 1130]),
  (4, .iconst 0, 1, []),
  (5, .iload_n 1, 1, []),
  (6, .iastore, 1, []),
  (7, .aload_n 0, 1, []),
  (8, .getfield 25, 3, [1, 2, 0, 1130]),
  (11, .iconst 1, 1, []),
  (12, .aload_n 0, 1, []),
  (13, .getfield 12, 3, [1, 0, 0, 1127]),
  (16, .getfield 153, 3, [2, 1, 1, 1036]),
  (19, .iload_n 1, 1, []),
  (20, .iaload, 1, []),
  (21, .iastore, 1, []),
  (22, .aload_n 0, 1, []),
  (23, .getfield 25, 3, [1, 2, 0, 1130]),
  (26, .iconst 2, 1, []),
  (27, .iload_n 2, 1, []),
  (28, .iastore, 1, []),
  (29, .aload_n 0, 1, []),
  (30, .getfield 25, 3, [1, 2, 0, 1130]),
  (33, .iconst 3, 1, []),
  (34, .aload_n 0, 1, []),
  (35, .getfield 12, 3, [1, 0, 0, 1127]),
  (38, .getfield 134, 3, [2, 5, 1, 1048]),
  (41, .iload_n 1, 1, []),
  (42, .iaload, 1, []),
  (43, .iastore, 1, []),
  (44, .aload_n 0, 1, []),
  (45, .getfield 25, 3, [1, 2, 0, 1130]),
  (48, .iconst 4, 1, []),
  (49, .aload_n 0, 1, []),
  (50, .getfield 12, 3, [1, 0, 0, 1127]),
  (53, .getfield 150, 3, [2, 4, 1, 1045]),
  (56, .iload_n 1, 1, []),
  (57, .iaload, 1, []),
  (58, .iastore, 1, []),
  (59, .aload_n 0, 1, []),
  (60, .getfield 25, 3, [1, 2, 0, 1130]),
  (63, .iconst 5, 1, []),
  (64, .aload_n 0, 1, []),
  (65, .getfield 12, 3, [1, 0, 0, 1127]),
  (68, .getfield 78, 3, [2, 8, 1, 1055]),
  (71, .bipush 10, 2, []),
  (73, .invokestatic 168, 3, [205, 2, 2, 0, 2123, 2124, 0]),
  (76, .iastore, 1, []),
  (77, .return_, 1, [])]
def c_25 : List En := [
  (0, .aload_n 0, 1, []),
  (1, .invokespecial 3, 3, [9999, 1, 1, 0, 1031]),
  (4, .aload_n 0, 1, []),
  (5, .bipush 7, 2, []),
  (7, .newarray .int, 2, []),
  (9, .putfield 9, 3, [2, 1, 0, 1034]),
  (12, .aload_n 0, 1, []),
  (13, .bipush 7, 2, []),
  (15, .newarray .int, 2, []),
  (17, .putfield 15, 3, [2, 2, 0, 1037]),
  (20, .aload_n 0, 1, []),
  (21, .bipush 7, 2, []),
  (23, .newarray .int, 2, []),
  (25, .putfield 18, 3, [2, 3, 0, 1040]),
  (28, .aload_n 0, 1, []),
  (29, .bipush 7, 2, []),
  (31, .newarray .int, 2, []),
  (33, .putfield 21, 3, [2, 4, 0, 1043]),
  (36, .aload_n 0, 1, []),
  (37, .bipush 7, 2, []),
  (39, .newarray .int, 2, []),
  (41, .putfield 24, 3, [2, 5, 0, 1046]),
  (44, .aload_n 0, 1, []),
  (45, .bipush 28, 2, []),
  (47, .newarray .int, 2, []),
  (49, .putfield 27, 3, [2, 6, 0, 1049]),
  (52, .aload_n 0, 1, []),
  (53, .bipush 12, 2, []),
  (55, .newarray .int, 2, []),
  (57, .putfield 30, 3, [2, 10, 0, 1060]),
  (60, .aload_n 0, 1, []),
  (61, .iconst (-1), 1, []),
  (62, .putfield 33, 3, [2, 12, 0, 1064]),
  (65, .return_, 1, [])]
def c_26 : List En := [
  (0, .iload_n 1, 1, []),
  (1, .ifCond .lt 21, 3, []),
  (4, .iload_n 1, 1, []),
  (5, .aload_n 0, 1, []),
  (6, .getfield 37, 3, [2, 0, 0, 1032]),
  (9, .if_icmp .ge 13, 3, []),
  (12, .iload_n 1, 1, []),
  (13, .bipush 7, 2, []),
  (15, .if_icmp .ge 7, 3, []),
  (18, .iconst 1, 1, []),
  (19, .goto 4, 3, []),
  (22, .iconst 0, 1, []),
  (23, .ireturn, 1, [])]
def c_27 : List En := [
  (0, .aload_n 0, 1, []),
  (1, .getfield 40, 3, [2, 7, 0, 1052]),
  (4, .iload_n 1, 1, []),
  (5, .invokestatic 43, 3, [104, 2, 2, 1, 2079, 2080, 0]),
  (8, .ireturn, 1, [])]
def c_28 : List En := [
  (0, .iconst 1, 1, []),
  (1, .aload_n 0, 1, []),
  (2, .getfield 37, 3, [2, 0, 0, 1032]),
  (5, .ishl, 1, []),
  (6, .iconst 1, 1, []),
  (7, .isub, 1, []),
  (8, .ireturn, 1, [])]
def c_29 : List En := [
  (0, .aload_n 0, 1, []),
  (1, .invokevirtual 47, 3, [28, 1, 0, 0, 2109, 2111, 9]),
  (4, .aload_n 0, 1, []),
  (5, .getfield 40, 3, [2, 7, 0, 1052]),
  (8, .iconst (-1), 1, []),
  (9, .ixor, 1, []),
  (10, .iand, 1, []),
  (11, .ireturn, 1, [])]
def c_30 : List En := [
  (0, .iload_n 1, 1, []),
  (1, .aload_n 0, 1, []),
  (2, .invokevirtual 47, 3, [28, 1, 0, 0, 2109, 2111, 9]),
  (5, .iconst (-1), 1, []),
  (6, .ixor, 1, []),
  (7, .iand, 1, []),
  (8, .ifCond .ne 7, 3, []),
  (11, .iconst 1, 1, []),
  (12, .goto 4, 3, []),
  (15, .iconst 0, 1, []),
  (16, .ireturn, 1, [])]
def c_31 : List En := [
  (0, .aload_n 0, 1, []),
  (1, .getfield 37, 3, [2, 0, 0, 1032]),
  (4, .istore 6, 2, []),
  (6, .iload 6, 2, []),
  (8, .ifCond .lt 10, 3, []),
  (11, .iload 6, 2, []),
  (13, .bipush 7, 2, []),
  (15, .if_icmp .lt 6, 3, []),
  (18, .bipush (-4), 2, []),
  (20, .ireturn, 1, []),
  (21, .aload_n 0, 1, []),
  (22, .getfield 9, 3, [2, 1, 0, 1034]),
  (25, .iload 6, 2, []),
  (27, .iload_n 1, 1, []),
  (28, .iastore, 1, []),
  (29, .aload_n 0, 1, []),
  (30, .getfield 15, 3, [2, 2, 0, 1037]),
  (33, .iload 6, 2, []),
  (35, .iload_n 2, 1, []),
  (36, .iastore, 1, []),
  (37, .aload_n 0, 1, []),
  (38, .getfield 18, 3, [2, 3, 0, 1040]),
  (41, .iload 6, 2, []),
  (43, .iload_n 3, 1, []),
  (44, .iastore, 1, []),
  (45, .aload_n 0, 1, []),
  (46, .getfield 21, 3, [2, 4, 0, 1043]),
  (49, .iload 6, 2, []),
  (51, .iload 4, 2, []),
  (53, .iastore, 1, []),
  (54, .aload_n 0, 1, []),
  (55, .getfield 24, 3, [2, 5, 0, 1046]),
  (58, .iload 6, 2, []),
  (60, .iload 5, 2, []),
  (62, .iastore, 1, []),
  (63, .aload_n 0, 1, []),
  (64, .dup, 1, []),
  (65, .getfield 37, 3, [2, 0, 0, 1032]),
  (68, .iconst 1, 1, []),
  (69, .iadd, 1, []),
  (70, .putfield 37, 3, [2, 0, 0, 1032]),
  (73, .iload 6, 2, []),
  (75, .ireturn, 1, [])]
def c_32 : List En := [
  (0, .iload_n 1, 1, []),
  (1, .istore_n 2, 1, []),
  (2, .bipush 6, 2, []),
  (4, .istore_n 3, 1, []),
  (5, .iload_n 3, 1, []),
  (6, .ifCond .lt 37, 3, []),
  (9, .aload_n 0, 1, []),
  (10, .getfield 40, 3, [2, 7, 0, 1052]),
  (13, .iload_n 3, 1, []),
  (14, .invokestatic 43, 3, [104, 2, 2, 1, 2079, 2080, 0]),
  (17, .ifCond .eq 20, 3, []),
  (20, .aload_n 0, 1, []),
  (21, .getfield 18, 3, [2, 3, 0, 1040]),
  (24, .iload_n 3, 1, []),
  (25, .iload_n 2, 1, []),
  (26, .bipush 7, 2, []),
  (28, .invokestatic 51, 3, [205, 2, 2, 0, 3229, 2124, 0]),
  (31, .iastore, 1, []),
  (32, .iload_n 2, 1, []),
  (33, .bipush 7, 2, []),
  (35, .idiv, 1, []),
  (36, .istore_n 2, 1, []),
  (37, .iinc 3 (-1), 3, []),
  (40, .goto (-35), 3, []),
  (43, .return_, 1, [])]
def c_33 : List En := [
  (0, .aload_n 0, 1, []),
  (1, .aload_n 1, 1, []),
  (2, .getfield 37, 3, [2, 0, 0, 1032]),
  (5, .putfield 37, 3, [2, 0, 0, 1032]),
  (8, .aload_n 1, 1, []),
  (9, .getfield 9, 3, [2, 1, 0, 1034]),
  (12, .iconst 0, 1, []),
  (13, .aload_n 0, 1, []),
  (14, .getfield 9, 3, [2, 1, 0, 1034]),
  (17, .iconst 0, 1, []),
  (18, .bipush 7, 2, []),
  (20, .invokestatic 57, 3, [9998, 5, 2, 0, 2098]),
  (23, .aload_n 1, 1, []),
  (24, .getfield 15, 3, [2, 2, 0, 1037]),
  (27, .iconst 0, 1, []),
  (28, .aload_n 0, 1, []),
  (29, .getfield 15, 3, [2, 2, 0, 1037]),
  (32, .iconst 0, 1, []),
  (33, .bipush 7, 2, []),
  (35, .invokestatic 57, 3, [9998, 5, 2, 0, 2098]),
  (38, .aload_n 1, 1, []),
  (39, .getfield 18, 3, [2, 3, 0, 1040]),
  (42, .iconst 0, 1, []),
  (43, .aload_n 0, 1, []),
  (44, .getfield 18, 3, [2, 3, 0, 1040]),
  (47, .iconst 0, 1, []),
  (48, .bipush 7, 2, []),
  (50, .invokestatic 57, 3, [9998, 5, 2, 0, 2098]),
  (53, .aload_n 1, 1, []),
  (54, .getfield 21, 3, [2, 4, 0, 1043]),
  (57, .iconst 0, 1, []),
  (58, .aload_n 0, 1, []),
  (59, .getfield 21, 3, [2, 4, 0, 1043]),
  (62, .iconst 0, 1, []),
  (63, .bipush 7, 2, []),
  (65, .invokestatic 57, 3, [9998, 5, 2, 0, 2098]),
  (68, .aload_n 1, 1, []),
  (69, .getfield 24, 3, [2, 5, 0, 1046]),
  (72, .iconst 0, 1, []),
  (73, .aload_n 0, 1, []),
  (74, .getfield 24, 3, [2, 5, 0, 1046]),
  (77, .iconst 0, 1, []),
  (78, .bipush 7, 2, []),
  (80, .invokestatic 57, 3, [9998, 5, 2, 0, 2098]),
  (83, .aload_n 1, 1, []),
  (84, .getfield 27, 3, [2, 6, 0, 1049]),
  (87, .iconst 0, 1, []),
  (88, .aload_n 0, 1, []),
  (89, .getfield 27, 3, [2, 6, 0, 1049]),
  (92, .iconst 0, 1, []),
  (93, .bipush 28, 2, []),
  (95, .invokestatic 57, 3, [9998, 5, 2, 0, 2098]),
  (98, .aload_n 0, 1, []),
  (99, .aload_n 1, 1, []),
  (100, .getfield 40, 3, [2, 7, 0, 1052]),
  (103, .putfield 40, 3, [2, 7, 0, 1052]),
  (106, .aload_n 0, 1, []),
  (107, .aload_n 1, 1, []),
  (108, .getfield 63, 3, [2, 8, 0, 1057]),
  (111, .putfield 63, 3, [2, 8, 0, 1057]),
  (114, .aload_n 0, 1, []),
  (115, .aload_n 1, 1, []),
  (116, .getfield 66, 3, [2, 9, 0, 1058]),
  (119, .putfield 66, 3, [2, 9, 0, 1058]),
  (122, .aload_n 1, 1, []),
  (123, .getfield 30, 3, [2, 10, 0, 1060]),
  (126, .iconst 0, 1, []),
  (127, .aload_n 0, 1, []),
  (128, .getfield 30, 3, [2, 10, 0, 1060]),
  (131, .iconst 0, 1, []),
  (132, .bipush 12, 2, []),
  (134, .invokestatic 57, 3, [9998, 5, 2, 0, 2098]),
  (137, .aload_n 0, 1, []),
  (138, .aload_n 1, 1, []),
  (139, .getfield 69, 3, [2, 11, 0, 1062]),
  (142, .putfield 69, 3, [2, 11, 0, 1062]),
  (145, .aload_n 0, 1, []),
  (146, .aload_n 1, 1, []),
  (147, .getfield 33, 3, [2, 12, 0, 1064]),
  (150, .putfield 33, 3, [2, 12, 0, 1064]),
  (153, .return_, 1, [])]
def c_34 : List En := [
  (0, .aload_n 0, 1, []),
  (1, .invokespecial 1, 3, [9999, 1, 1, 0, 2003]),
  (4, .aload_n 0, 1, []),
  (5, .bipush 6, 2, []),
  (7, .newarray .int, 2, []),
  (9, .putfield 9, 3, [3, 0, 0, 2009]),
  (12, .aload_n 0, 1, []),
  (13, .bipush 6, 2, []),
  (15, .newarray .int, 2, []),
  (17, .putfield 13, 3, [3, 1, 0, 2011]),
  (20, .aload_n 0, 1, []),
  (21, .bipush 6, 2, []),
  (23, .bipush 60, 2, []),
  (25, .multianewarray 16 2, 4, [2004]),
  (29, .putfield 18, 3, [3, 2, 0, 2012]),
  (32, .aload_n 0, 1, []),
  (33, .getfield 9, 3, [3, 0, 0, 2009]),
  (36, .iconst (-1), 1, []),
  (37, .invokestatic 21, 3, [221, 2, 2, 0, 2006, 2007, 0]),
  (40, .return_, 1, [])]
def c_35 : List En := [
  (0, .iload_n 1, 1, []),
  (1, .ifCond .lt 13, 3, []),
  (4, .iload_n 1, 1, []),
  (5, .bipush 6, 2, []),
  (7, .if_icmp .ge 7, 3, []),
  (10, .iconst 1, 1, []),
  (11, .goto 4, 3, []),
  (14, .iconst 0, 1, []),
  (15, .ireturn, 1, [])]
def c_36 : List En := [
  (0, .aload_n 0, 1, []),
  (1, .iload_n 1, 1, []),
  (2, .invokevirtual 27, 3, [35, 2, 0, 0, 4042, 4036, 48]),
  (5, .ifCond .eq 33, 3, []),
  (8, .lload_n 2, 1, []),
  (9, .lconst 0, 1, []),
  (10, .lcmp, 1, []),
  (11, .ifCond .lt 27, 3, []),
  (14, .lload_n 2, 1, []),
  (15, .aload_n 0, 1, []),
  (16, .getfield 13, 3, [3, 1, 0, 2011]),
  (19, .iload_n 1, 1, []),
  (20, .iaload, 1, []),
  (21, .i2l, 1, []),
  (22, .lcmp, 1, []),
  (23, .ifCond .ge 15, 3, []),
  (26, .lload_n 2, 1, []),
  (27, .ldc2_w 31, 3, [60, 4043]),
  (30, .lcmp, 1, []),
  (31, .ifCond .ge 7, 3, []),
  (34, .iconst 1, 1, []),
  (35, .goto 4, 3, []),
  (38, .iconst 0, 1, []),
  (39, .ireturn, 1, [])]
def c_37 : List En := [
  (0, .aload_n 0, 1, []),
  (1, .iload_n 1, 1, []),
  (2, .invokevirtual 27, 3, [35, 2, 0, 0, 4042, 4036, 48]),
  (5, .ifCond .eq 31, 3, []),
  (8, .iload_n 2, 1, []),
  (9, .ifCond .lt 27, 3, []),
  (12, .iload_n 3, 1, []),
  (13, .ifCond .lt 23, 3, []),
  (16, .iload_n 2, 1, []),
  (17, .i2l, 1, []),
  (18, .iload_n 3, 1, []),
  (19, .i2l, 1, []),
  (20, .ladd, 1, []),
  (21, .aload_n 0, 1, []),
  (22, .getfield 13, 3, [3, 1, 0, 2011]),
  (25, .iload_n 1, 1, []),
  (26, .iaload, 1, []),
  (27, .i2l, 1, []),
  (28, .lcmp, 1, []),
  (29, .ifCond .gt 7, 3, []),
  (32, .iconst 1, 1, []),
  (33, .goto 4, 3, []),
  (36, .iconst 0, 1, []),
  (37, .ireturn, 1, [])]
def c_38 : List En := [
  (0, .aload_n 0, 1, []),
  (1, .iload_n 1, 1, []),
  (2, .invokevirtual 27, 3, [35, 2, 0, 0, 4042, 4036, 48]),
  (5, .ifCond .eq 27, 3, []),
  (8, .aload_n 0, 1, []),
  (9, .getfield 9, 3, [3, 0, 0, 2009]),
  (12, .iload_n 1, 1, []),
  (13, .iload_n 2, 1, []),
  (14, .iastore, 1, []),
  (15, .aload_n 0, 1, []),
  (16, .getfield 13, 3, [3, 1, 0, 2011]),
  (19, .iload_n 1, 1, []),
  (20, .iload_n 3, 1, []),
  (21, .iastore, 1, []),
  (22, .aload_n 0, 1, []),
  (23, .getfield 18, 3, [3, 2, 0, 2012]),
  (26, .iload_n 1, 1, []),
  (27, .aaload, 1, []),
  (28, .lconst 0, 1, []),
  (29, .invokestatic 33, 3, [220, 2, 2, 0, 4094, 4095, 0]),
  (32, .return_, 1, [])]
def c_39 : List En := [
  (0, .iload_n 0, 1, []),
  (1, .tableswitch 61 0 4 #[35, 40, 45, 61, 49], 35, []),
  (36, .lload_n 1, 1, []),
  (37, .l2i, 1, []),
  (38, .i2b, 1, []),
  (39, .i2l, 1, []),
  (40, .lreturn, 1, []),
  (41, .lload_n 1, 1, []),
  (42, .l2i, 1, []),
  (43, .i2s, 1, []),
  (44, .i2l, 1, []),
  (45, .lreturn, 1, []),
  (46, .lload_n 1, 1, []),
  (47, .l2i, 1, []),
  (48, .i2l, 1, []),
  (49, .lreturn, 1, []),
  (50, .lload_n 1, 1, []),
  (51, .lconst 0, 1, []),
  (52, .lcmp, 1, []),
  (53, .ifCond .eq 7, 3, []),
  (56, .lconst 1, 1, []),
  (57, .goto 4, 3, []),
  (60, .lconst 0, 1, []),
  (61, .lreturn, 1, []),
  (62, .lload_n 1, 1, []),
  (63, .lreturn, 1, [])]
def c_40 : List En := [
  (0, .aload_n 0, 1, []),
  (1, .invokespecial 3, 3, [9999, 1, 1, 0, 1194]),
  (4, .aload_n 0, 1, []),
  (5, .bipush 100, 2, []),
  (7, .newarray .int, 2, []),
  (9, .putfield 9, 3, [4, 0, 0, 1197]),
  (12, .aload_n 0, 1, []),
  (13, .new 15, 3, [5, 1195]),
  (16, .dup, 1, []),
  (17, .invokespecial 17, 3, [53, 1, 1, 1, 1196, 1105, 0]),
  (20, .putfield 18, 3, [4, 3, 0, 1201]),
  (23, .return_, 1, [])]
def c_41 : List En := [
  (0, .aload_n 0, 1, []),
  (1, .getfield 22, 3, [4, 1, 0, 1198]),
  (4, .ifCond .lt 12, 3, []),
  (7, .aload_n 0, 1, []),
  (8, .getfield 22, 3, [4, 1, 0, 1198]),
  (11, .bipush 100, 2, []),
  (13, .if_icmp .lt 5, 3, []),
  (16, .iconst 0, 1, []),
  (17, .ireturn, 1, []),
  (18, .aload_n 0, 1, []),
  (19, .getfield 9, 3, [4, 0, 0, 1197]),
  (22, .aload_n 0, 1, []),
  (23, .getfield 22, 3, [4, 1, 0, 1198]),
  (26, .iload_n 1, 1, []),
  (27, .iastore, 1, []),
  (28, .aload_n 0, 1, []),
  (29, .dup, 1, []),
  (30, .getfield 22, 3, [4, 1, 0, 1198]),
  (33, .iconst 1, 1, []),
  (34, .iadd, 1, []),
  (35, .putfield 22, 3, [4, 1, 0, 1198]),
  (38, .iconst 1, 1, []),
  (39, .ireturn, 1, [])]
def c_42 : List En := [
  (0, .aload_n 0, 1, []),
  (1, .aload_n 1, 1, []),
  (2, .putfield 18, 3, [4, 3, 0, 1201]),
  (5, .aload_n 0, 1, []),
  (6, .getfield 18, 3, [4, 3, 0, 1201]),
  (9, .invokevirtual 26, 3, [54, 1, 0, 1, 2235, 2237, 29]),
  (12, .aload_n 0, 1, []),
  (13, .iconst 0, 1, []),
  (14, .putfield 29, 3, [4, 2, 0, 1200]),
  (17, .aload_n 0, 1, []),
  (18, .invokevirtual 32, 3, [43, 1, 0, 0, 2239, 3001, 30]),
  (21, .istore_n 2, 1, []),
  (22, .iconst 1, 1, []),
  (23, .istore_n 3, 1, []),
  (24, .iload_n 3, 1, []),
  (25, .bipush 10, 2, []),
  (27, .if_icmp .ge 46, 3, []),
  (30, .iload_n 2, 1, []),
  (31, .ifCond .eq 42, 3, []),
  (34, .aload_n 0, 1, []),
  (35, .getfield 29, 3, [4, 2, 0, 1200]),
  (38, .aload_n 0, 1, []),
  (39, .getfield 22, 3, [4, 1, 0, 1198]),
  (42, .if_icmp .ge 31, 3, []),
  (45, .aload_n 0, 1, []),
  (46, .bipush 59, 2, []),
  (48, .invokevirtual 36, 3, [50, 2, 0, 0, 3007, 3009, 32]),
  (51, .ifCond .eq 14, 3, []),
  (54, .aload_n 0, 1, []),
  (55, .invokevirtual 32, 3, [43, 1, 0, 0, 2239, 3001, 30]),
  (58, .ifCond .eq 7, 3, []),
  (61, .iconst 1, 1, []),
  (62, .goto 4, 3, []),
  (65, .iconst 0, 1, []),
  (66, .istore_n 2, 1, []),
  (67, .iinc 3 1, 3, []),
  (70, .goto (-46), 3, []),
  (73, .iload_n 2, 1, []),
  (74, .ifCond .eq 18, 3, []),
  (77, .aload_n 0, 1, []),
  (78, .getfield 29, 3, [4, 2, 0, 1200]),
  (81, .aload_n 0, 1, []),
  (82, .getfield 22, 3, [4, 1, 0, 1198]),
  (85, .if_icmp .ne 7, 3, []),
  (88, .iconst (-1), 1, []),
  (89, .goto 7, 3, []),
  (92, .aload_n 0, 1, []),
  (93, .getfield 29, 3, [4, 2, 0, 1200]),
  (96, .ireturn, 1, [])]
def c_43 : List En := [
  (0, .aload_n 0, 1, []),
  (1, .invokevirtual 40, 3, [44, 1, 0, 0, 3003, 3005, 31]),
  (4, .istore_n 1, 1, []),
  (5, .iload_n 1, 1, []),
  (6, .ifCond .lt 12, 3, []),
  (9, .aload_n 0, 1, []),
  (10, .bipush 32, 2, []),
  (12, .invokevirtual 36, 3, [50, 2, 0, 0, 3007, 3009, 32]),
  (15, .ifCond .ne 5, 3, []),
  (18, .iconst 0, 1, []),
  (19, .ireturn, 1, []),
  (20, .aload_n 0, 1, []),
  (21, .invokevirtual 44, 3, [45, 1, 0, 0, 3070, 3072, 35]),
  (24, .istore_n 2, 1, []),
  (25, .iload_n 2, 1, []),
  (26, .ifCond .lt 20, 3, []),
  (29, .aload_n 0, 1, []),
  (30, .bipush 32, 2, []),
  (32, .invokevirtual 36, 3, [50, 2, 0, 0, 3007, 3009, 32]),
  (35, .ifCond .eq 11, 3, []),
  (38, .aload_n 0, 1, []),
  (39, .iconst 0, 1, []),
  (40, .invokevirtual 47, 3, [46, 2, 0, 0, 3074, 3076, 36]),
  (43, .ifCond .ne 5, 3, []),
  (46, .iconst 0, 1, []),
  (47, .ireturn, 1, []),
  (48, .aload_n 0, 1, []),
  (49, .getfield 18, 3, [4, 3, 0, 1201]),
  (52, .iload_n 1, 1, []),
  (53, .iload_n 2, 1, []),
  (54, .invokevirtual 51, 3, [56, 3, 0, 1, 3154, 3156, 41]),
  (57, .iconst 1, 1, []),
  (58, .ireturn, 1, [])]
def c_44 : List En := [
  (0, .aload_n 0, 1, []),
  (1, .bipush 114, 2, []),
  (3, .invokevirtual 36, 3, [50, 2, 0, 0, 3007, 3009, 32]),
  (6, .ifCond .eq 18, 3, []),
  (9, .aload_n 0, 1, []),
  (10, .ldc 55, 2, [1, 0, 3015]),
  (12, .invokevirtual 57, 3, [51, 2, 0, 0, 3016, 3018, 34]),
  (15, .ifCond .eq 7, 3, []),
  (18, .iconst 0, 1, []),
  (19, .goto 4, 3, []),
  (22, .iconst (-1), 1, []),
  (23, .ireturn, 1, []),
  (24, .aload_n 0, 1, []),
  (25, .bipush 104, 2, []),
  (27, .invokevirtual 36, 3, [50, 2, 0, 0, 3007, 3009, 32]),
  (30, .ifCond .eq 18, 3, []),
  (33, .aload_n 0, 1, []),
  (34, .ldc 61, 2, [1, 1, 3068]),
  (36, .invokevirtual 57, 3, [51, 2, 0, 0, 3016, 3018, 34]),
  (39, .ifCond .eq 7, 3, []),
  (42, .iconst 1, 1, []),
  (43, .goto 4, 3, []),
  (46, .iconst (-1), 1, []),
  (47, .ireturn, 1, []),
  (48, .aload_n 0, 1, []),
  (49, .bipush 100, 2, []),
  (51, .invokevirtual 36, 3, [50, 2, 0, 0, 3007, 3009, 32]),
  (54, .ifCond .eq 16, 3, []),
  (57, .aload_n 0, 1, []),
  (58, .ldc 63, 2, [1, 2, 3069]),
  (60, .invokevirtual 57, 3, [51, 2, 0, 0, 3016, 3018, 34]),
  (63, .ifCond .eq 7, 3, []),
  (66, .iconst 2, 1, []),
  (67, .goto 4, 3, []),
  (70, .iconst (-1), 1, []),
  (71, .ireturn, 1, [])]
def c_45 : List En := [
  (0, .iconst 0, 1, []),
  (1, .istore_n 1, 1, []),
  (2, .iconst 0, 1, []),
  (3, .istore_n 2, 1, []),
  (4, .iload_n 2, 1, []),
  (5, .iconst 2, 1, []),
  (6, .if_icmp .ge 72, 3, []),
  (9, .aload_n 0, 1, []),
  (10, .invokevirtual 65, 3, [49, 1, 0, 0, 3011, 3013, 33]),
  (13, .ifCond .eq 65, 3, []),
  (16, .aload_n 0, 1, []),
  (17, .getfield 9, 3, [4, 0, 0, 1197]),
  (20, .aload_n 0, 1, []),
  (21, .getfield 29, 3, [4, 2, 0, 1200]),
  (24, .iaload, 1, []),
  (25, .bipush 48, 2, []),
  (27, .if_icmp .lt 51, 3, []),
  (30, .aload_n 0, 1, []),
  (31, .getfield 9, 3, [4, 0, 0, 1197]),
  (34, .aload_n 0, 1, []),
  (35, .getfield 29, 3, [4, 2, 0, 1200]),
  (38, .iaload, 1, []),
  (39, .bipush 57, 2, []),
  (41, .if_icmp .gt 37, 3, []),
  (44, .iload_n 1, 1, []),
  (45, .bipush 10, 2, []),
  (47, .imul, 1, []),
  (48, .aload_n 0, 1, []),
  (49, .getfield 9, 3, [4, 0, 0, 1197]),
  (52, .aload_n 0, 1, []),
  (53, .getfield 29, 3, [4, 2, 0, 1200]),
  (56, .iaload, 1, []),
  (57, .iadd, 1, []),
  (58, .bipush 48, 2, []),
  (60, .isub, 1, []),
  (61, .istore_n 1, 1, []),
  (62, .aload_n 0, 1, []),
  (63, .dup, 1, []),
  (64, .getfield 29, 3, [4, 2, 0, 1200]),
  (67, .iconst 1, 1, []),
  (68, .iadd, 1, []),
  (69, .putfield 29, 3, [4, 2, 0, 1200]),
  (72, .iinc 2 1, 3, []),
  (75, .goto (-71), 3, []),
  (78, .iload_n 2, 1, []),
  (79, .ifCond .ne 7, 3, []),
  (82, .iconst (-1), 1, []),
  (83, .goto 4, 3, []),
  (86, .iload_n 1, 1, []),
  (87, .ireturn, 1, [])]
def c_46 : List En := [
  (0, .aload_n 0, 1, []),
  (1, .iload_n 1, 1, []),
  (2, .invokevirtual 68, 3, [47, 2, 0, 0, 3078, 3080, 37]),
  (5, .istore_n 2, 1, []),
  (6, .iconst 0, 1, []),
  (7, .istore_n 3, 1, []),
  (8, .iload_n 3, 1, []),
  (9, .bipush 100, 2, []),
  (11, .if_icmp .ge 37, 3, []),
  (14, .iload_n 2, 1, []),
  (15, .ifCond .eq 33, 3, []),
  (18, .aload_n 0, 1, []),
  (19, .bipush 124, 2, []),
  (21, .invokevirtual 36, 3, [50, 2, 0, 0, 3007, 3009, 32]),
  (24, .ifCond .eq 24, 3, []),
  (27, .aload_n 0, 1, []),
  (28, .iload_n 1, 1, []),
  (29, .invokevirtual 68, 3, [47, 2, 0, 0, 3078, 3080, 37]),
  (32, .istore_n 2, 1, []),
  (33, .aload_n 0, 1, []),
  (34, .getfield 18, 3, [4, 3, 0, 1201]),
  (37, .bipush (-3), 2, []),
  (39, .invokevirtual 71, 3, [55, 2, 0, 1, 3086, 3088, 39]),
  (42, .iinc 3 1, 3, []),
  (45, .goto (-37), 3, []),
  (48, .iload_n 2, 1, []),
  (49, .ireturn, 1, [])]
def c_47 : List En := [
  (0, .aload_n 0, 1, []),
  (1, .iload_n 1, 1, []),
  (2, .invokevirtual 75, 3, [48, 2, 0, 0, 3082, 3084, 38]),
  (5, .istore_n 2, 1, []),
  (6, .iconst 0, 1, []),
  (7, .istore_n 3, 1, []),
  (8, .iload_n 3, 1, []),
  (9, .bipush 100, 2, []),
  (11, .if_icmp .ge 37, 3, []),
  (14, .iload_n 2, 1, []),
  (15, .ifCond .eq 33, 3, []),
  (18, .aload_n 0, 1, []),
  (19, .bipush 38, 2, []),
  (21, .invokevirtual 36, 3, [50, 2, 0, 0, 3007, 3009, 32]),
  (24, .ifCond .eq 24, 3, []),
  (27, .aload_n 0, 1, []),
  (28, .iload_n 1, 1, []),
  (29, .invokevirtual 75, 3, [48, 2, 0, 0, 3082, 3084, 38]),
  (32, .istore_n 2, 1, []),
  (33, .aload_n 0, 1, []),
  (34, .getfield 18, 3, [4, 3, 0, 1201]),
  (37, .bipush (-2), 2, []),
  (39, .invokevirtual 71, 3, [55, 2, 0, 1, 3086, 3088, 39]),
  (42, .iinc 3 1, 3, []),
  (45, .goto (-37), 3, []),
  (48, .iload_n 2, 1, []),
  (49, .ireturn, 1, [])]
def c_48 : List En := [
  (0, .iload_n 1, 1, []),
  (1, .iconst 4, 1, []),
  (2, .if_icmp .ge 30, 3, []),
  (5, .aload_n 0, 1, []),
  (6, .bipush 33, 2, []),
  (8, .invokevirtual 36, 3, [50, 2, 0, 0, 3007, 3009, 32]),
  (11, .ifCond .eq 21, 3, []),
  (14, .aload_n 0, 1, []),
  (15, .iload_n 1, 1, []),
  (16, .iconst 1, 1, []),
  (17, .iadd, 1, []),
  (18, .invokevirtual 75, 3, [48, 2, 0, 0, 3082, 3084, 38]),
  (21, .istore_n 2, 1, []),
  (22, .aload_n 0, 1, []),
  (23, .getfield 18, 3, [4, 3, 0, 1201]),
  (26, .iconst (-1), 1, []),
  (27, .invokevirtual 71, 3, [55, 2, 0, 1, 3086, 3088, 39]),
  (30, .iload_n 2, 1, []),
  (31, .ireturn, 1, []),
  (32, .iload_n 1, 1, []),
  (33, .iconst 4, 1, []),
  (34, .if_icmp .ge 37, 3, []),
  (37, .aload_n 0, 1, []),
  (38, .bipush 40, 2, []),
  (40, .invokevirtual 36, 3, [50, 2, 0, 0, 3007, 3009, 32]),
  (43, .ifCond .eq 28, 3, []),
  (46, .aload_n 0, 1, []),
  (47, .iload_n 1, 1, []),
  (48, .iconst 1, 1, []),
  (49, .iadd, 1, []),
  (50, .invokevirtual 47, 3, [46, 2, 0, 0, 3074, 3076, 36]),
  (53, .ifCond .eq 16, 3, []),
  (56, .aload_n 0, 1, []),
  (57, .bipush 41, 2, []),
  (59, .invokevirtual 36, 3, [50, 2, 0, 0, 3007, 3009, 32]),
  (62, .ifCond .eq 7, 3, []),
  (65, .iconst 1, 1, []),
  (66, .goto 4, 3, []),
  (69, .iconst 0, 1, []),
  (70, .ireturn, 1, []),
  (71, .aload_n 0, 1, []),
  (72, .ldc 78, 2, [1, 3, 3090]),
  (74, .invokevirtual 80, 3, [52, 2, 0, 0, 3091, 3093, 40]),
  (77, .istore_n 2, 1, []),
  (78, .iload_n 2, 1, []),
  (79, .ifCond .ge 7, 3, []),
  (82, .iconst (-1), 1, []),
  (83, .goto 9, 3, []),
  (86, .aload_n 0, 1, []),
  (87, .ldc 84, 2, [1, 4, 3150]),
  (89, .invokevirtual 80, 3, [52, 2, 0, 0, 3091, 3093, 40]),
  (92, .istore_n 3, 1, []),
  (93, .iload_n 3, 1, []),
  (94, .ifCond .ge 7, 3, []),
  (97, .iconst (-1), 1, []),
  (98, .goto 7, 3, []),
  (101, .aload_n 0, 1, []),
  (102, .invokevirtual 44, 3, [45, 1, 0, 0, 3070, 3072, 35]),
  (105, .istore 4, 2, []),
  (107, .iload 4, 2, []),
  (109, .ifCond .ge 5, 3, []),
  (112, .iconst 0, 1, []),
  (113, .ireturn, 1, []),
  (114, .aload_n 0, 1, []),
  (115, .getfield 18, 3, [4, 3, 0, 1201]),
  (118, .iload_n 2, 1, []),
  (119, .iload_n 3, 1, []),
  (120, .iload 4, 2, []),
  (122, .invokestatic 86, 3, [60, 3, 2, 1, 3151, 3152, 0]),
  (125, .invokevirtual 71, 3, [55, 2, 0, 1, 3086, 3088, 39]),
  (128, .iconst 1, 1, []),
  (129, .ireturn, 1, [])]
def c_49 : List En := [
  (0, .aload_n 0, 1, []),
  (1, .getfield 29, 3, [4, 2, 0, 1200]),
  (4, .ifCond .lt 27, 3, []),
  (7, .aload_n 0, 1, []),
  (8, .getfield 29, 3, [4, 2, 0, 1200]),
  (11, .aload_n 0, 1, []),
  (12, .getfield 22, 3, [4, 1, 0, 1198]),
  (15, .if_icmp .ge 16, 3, []),
  (18, .aload_n 0, 1, []),
  (19, .getfield 29, 3, [4, 2, 0, 1200]),
  (22, .bipush 100, 2, []),
  (24, .if_icmp .ge 7, 3, []),
  (27, .iconst 1, 1, []),
  (28, .goto 4, 3, []),
  (31, .iconst 0, 1, []),
  (32, .ireturn, 1, [])]
def c_50 : List En := [
  (0, .aload_n 0, 1, []),
  (1, .invokevirtual 65, 3, [49, 1, 0, 0, 3011, 3013, 33]),
  (4, .ifCond .eq 16, 3, []),
  (7, .aload_n 0, 1, []),
  (8, .getfield 9, 3, [4, 0, 0, 1197]),
  (11, .aload_n 0, 1, []),
  (12, .getfield 29, 3, [4, 2, 0, 1200]),
  (15, .iaload, 1, []),
  (16, .iload_n 1, 1, []),
  (17, .if_icmp .eq 5, 3, []),
  (20, .iconst 0, 1, []),
  (21, .ireturn, 1, []),
  (22, .aload_n 0, 1, []),
  (23, .dup, 1, []),
  (24, .getfield 29, 3, [4, 2, 0, 1200]),
  (27, .iconst 1, 1, []),
  (28, .iadd, 1, []),
  (29, .putfield 29, 3, [4, 2, 0, 1200]),
  (32, .iconst 1, 1, []),
  (33, .ireturn, 1, [])]
def c_51 : List En := [
  (0, .iconst 0, 1, []),
  (1, .istore_n 2, 1, []),
  (2, .iload_n 2, 1, []),
  (3, .aload_n 1, 1, []),
  (4, .invokevirtual 90, 3, [209, 1, 0, 0, 3020, 3021, 3022]),
  (7, .if_icmp .ge 23, 3, []),
  (10, .aload_n 0, 1, []),
  (11, .aload_n 1, 1, []),
  (12, .iload_n 2, 1, []),
  (13, .invokevirtual 95, 3, [210, 2, 0, 0, 3030, 3031, 3032]),
  (16, .invokevirtual 36, 3, [50, 2, 0, 0, 3007, 3009, 32]),
  (19, .ifCond .ne 5, 3, []),
  (22, .iconst 0, 1, []),
  (23, .ireturn, 1, []),
  (24, .iinc 2 1, 3, []),
  (27, .goto (-25), 3, []),
  (30, .iconst 1, 1, []),
  (31, .ireturn, 1, [])]
def c_52 : List En := [
  (0, .aload_n 0, 1, []),
  (1, .invokevirtual 65, 3, [49, 1, 0, 0, 3011, 3013, 33]),
  (4, .ifCond .eq 20, 3, []),
  (7, .aload_n 1, 1, []),
  (8, .aload_n 0, 1, []),
  (9, .getfield 9, 3, [4, 0, 0, 1197]),
  (12, .aload_n 0, 1, []),
  (13, .getfield 29, 3, [4, 2, 0, 1200]),
  (16, .iaload, 1, []),
  (17, .i2c, 1, []),
  (18, .invokevirtual 99, 3, [211, 2, 0, 0, 3095, 3096, 3097]),
  (21, .goto 4, 3, []),
  (24, .iconst (-1), 1, []),
  (25, .istore_n 2, 1, []),
  (26, .iload_n 2, 1, []),
  (27, .ifCond .lt 13, 3, []),
  (30, .aload_n 0, 1, []),
  (31, .dup, 1, []),
  (32, .getfield 29, 3, [4, 2, 0, 1200]),
  (35, .iconst 1, 1, []),
  (36, .iadd, 1, []),
  (37, .putfield 29, 3, [4, 2, 0, 1200]),
  (40, .iload_n 2, 1, []),
  (41, .ireturn, 1, [])]
def c_53 : List En := [
  (0, .aload_n 0, 1, []),
  (1, .invokespecial 3, 3, [9999, 1, 1, 0, 1107]),
  (4, .aload_n 0, 1, []),
  (5, .bipush 10, 2, []),
  (7, .newarray .int, 2, []),
  (9, .putfield 11, 3, [5, 1, 0, 1109]),
  (12, .aload_n 0, 1, []),
  (13, .bipush 10, 2, []),
  (15, .newarray .int, 2, []),
  (17, .putfield 15, 3, [5, 2, 0, 1110]),
  (20, .aload_n 0, 1, []),
  (21, .bipush 10, 2, []),
  (23, .newarray .int, 2, []),
  (25, .putfield 18, 3, [5, 3, 0, 1111]),
  (28, .aload_n 0, 1, []),
  (29, .bipush 100, 2, []),
  (31, .newarray .int, 2, []),
  (33, .putfield 21, 3, [5, 4, 0, 1112]),
  (36, .return_, 1, [])]
def c_54 : List En := [
  (0, .aload_n 0, 1, []),
  (1, .iconst 0, 1, []),
  (2, .putfield 24, 3, [5, 0, 0, 1108]),
  (5, .aload_n 0, 1, []),
  (6, .iconst 0, 1, []),
  (7, .putfield 28, 3, [5, 5, 0, 1113]),
  (10, .return_, 1, [])]
def c_55 : List En := [
  (0, .aload_n 0, 1, []),
  (1, .getfield 28, 3, [5, 5, 0, 1113]),
  (4, .bipush 100, 2, []),
  (6, .if_icmp .ge 23, 3, []),
  (9, .aload_n 0, 1, []),
  (10, .getfield 21, 3, [5, 4, 0, 1112]),
  (13, .aload_n 0, 1, []),
  (14, .getfield 28, 3, [5, 5, 0, 1113]),
  (17, .iload_n 1, 1, []),
  (18, .iastore, 1, []),
  (19, .aload_n 0, 1, []),
  (20, .dup, 1, []),
  (21, .getfield 28, 3, [5, 5, 0, 1113]),
  (24, .iconst 1, 1, []),
  (25, .iadd, 1, []),
  (26, .putfield 28, 3, [5, 5, 0, 1113]),
  (29, .return_, 1, [])]
def c_56 : List En := [
  (0, .aload_n 0, 1, []),
  (1, .getfield 24, 3, [5, 0, 0, 1108]),
  (4, .bipush 10, 2, []),
  (6, .if_icmp .ge 46, 3, []),
  (9, .aload_n 0, 1, []),
  (10, .getfield 11, 3, [5, 1, 0, 1109]),
  (13, .aload_n 0, 1, []),
  (14, .getfield 24, 3, [5, 0, 0, 1108]),
  (17, .iload_n 1, 1, []),
  (18, .iastore, 1, []),
  (19, .aload_n 0, 1, []),
  (20, .getfield 15, 3, [5, 2, 0, 1110]),
  (23, .aload_n 0, 1, []),
  (24, .getfield 24, 3, [5, 0, 0, 1108]),
  (27, .iload_n 2, 1, []),
  (28, .iastore, 1, []),
  (29, .aload_n 0, 1, []),
  (30, .getfield 18, 3, [5, 3, 0, 1111]),
  (33, .aload_n 0, 1, []),
  (34, .getfield 24, 3, [5, 0, 0, 1108]),
  (37, .aload_n 0, 1, []),
  (38, .getfield 28, 3, [5, 5, 0, 1113]),
  (41, .iastore, 1, []),
  (42, .aload_n 0, 1, []),
  (43, .dup, 1, []),
  (44, .getfield 24, 3, [5, 0, 0, 1108]),
  (47, .iconst 1, 1, []),
  (48, .iadd, 1, []),
  (49, .putfield 24, 3, [5, 0, 0, 1108]),
  (52, .return_, 1, [])]
def c_57 : List En := [
  (0, .iconst 0, 1, []),
  (1, .istore_n 2, 1, []),
  (2, .iload_n 2, 1, []),
  (3, .aload_n 0, 1, []),
  (4, .getfield 24, 3, [5, 0, 0, 1108]),
  (7, .if_icmp .ge 27, 3, []),
  (10, .iload_n 2, 1, []),
  (11, .bipush 10, 2, []),
  (13, .if_icmp .ge 21, 3, []),
  (16, .aload_n 0, 1, []),
  (17, .getfield 11, 3, [5, 1, 0, 1109]),
  (20, .iload_n 2, 1, []),
  (21, .iaload, 1, []),
  (22, .iload_n 1, 1, []),
  (23, .if_icmp .ne 5, 3, []),
  (26, .iconst 1, 1, []),
  (27, .ireturn, 1, []),
  (28, .iinc 2 1, 3, []),
  (31, .goto (-29), 3, []),
  (34, .iconst 0, 1, []),
  (35, .ireturn, 1, [])]
def c_58 : List En := [
  (0, .iconst 0, 1, []),
  (1, .istore_n 3, 1, []),
  (2, .iconst 0, 1, []),
  (3, .istore 4, 2, []),
  (5, .iconst 0, 1, []),
  (6, .istore 5, 2, []),
  (8, .iload 5, 2, []),
  (10, .aload_n 0, 1, []),
  (11, .getfield 24, 3, [5, 0, 0, 1108]),
  (14, .if_icmp .ge 63, 3, []),
  (17, .iload 5, 2, []),
  (19, .bipush 10, 2, []),
  (21, .if_icmp .ge 56, 3, []),
  (24, .aload_n 0, 1, []),
  (25, .getfield 11, 3, [5, 1, 0, 1109]),
  (28, .iload 5, 2, []),
  (30, .iaload, 1, []),
  (31, .iload_n 1, 1, []),
  (32, .if_icmp .ne 30, 3, []),
  (35, .aload_n 0, 1, []),
  (36, .iload 4, 2, []),
  (38, .aload_n 0, 1, []),
  (39, .getfield 18, 3, [5, 3, 0, 1111]),
  (42, .iload 5, 2, []),
  (44, .iaload, 1, []),
  (45, .aload_n 2, 1, []),
  (46, .invokevirtual 31, 3, [59, 4, 0, 0, 2134, 2136, 14]),
  (49, .ifCond .eq 13, 3, []),
  (52, .iload_n 3, 1, []),
  (53, .aload_n 0, 1, []),
  (54, .getfield 15, 3, [5, 2, 0, 1110]),
  (57, .iload 5, 2, []),
  (59, .iaload, 1, []),
  (60, .iadd, 1, []),
  (61, .istore_n 3, 1, []),
  (62, .aload_n 0, 1, []),
  (63, .getfield 18, 3, [5, 3, 0, 1111]),
  (66, .iload 5, 2, []),
  (68, .iaload, 1, []),
  (69, .istore 4, 2, []),
  (71, .iinc 5 1, 3, []),
  (74, .goto (-66), 3, []),
  (77, .iload_n 3, 1, []),
  (78, .ireturn, 1, [])]
def c_59 : List En := [
  (0, .lconst 0, 1, []),
  (1, .lstore 4, 2, []),
  (3, .iload_n 1, 1, []),
  (4, .iconst 0, 1, []),
  (5, .invokestatic 35, 3, [207, 2, 2, 0, 2138, 2139, 0]),
  (8, .istore 6, 2, []),
  (10, .iload 6, 2, []),
  (12, .iload_n 2, 1, []),
  (13, .if_icmp .ge 112, 3, []),
  (16, .iload 6, 2, []),
  (18, .bipush 100, 2, []),
  (20, .if_icmp .ge 105, 3, []),
  (23, .aload_n 0, 1, []),
  (24, .getfield 21, 3, [5, 4, 0, 1112]),
  (27, .iload 6, 2, []),
  (29, .iaload, 1, []),
  (30, .istore 7, 2, []),
  (32, .lload 4, 2, []),
  (34, .lconst 1, 1, []),
  (35, .land, 1, []),
  (36, .lstore 8, 2, []),
  (38, .iload 7, 2, []),
  (40, .iconst (-1), 1, []),
  (41, .if_icmp .ne 12, 3, []),
  (44, .lload 4, 2, []),
  (46, .lconst 1, 1, []),
  (47, .lxor, 1, []),
  (48, .lstore 4, 2, []),
  (50, .goto 69, 3, []),
  (53, .iload 7, 2, []),
  (55, .bipush (-2), 2, []),
  (57, .if_icmp .ne 21, 3, []),
  (60, .lload 4, 2, []),
  (62, .iconst 1, 1, []),
  (63, .lshr, 1, []),
  (64, .lconst 1, 1, []),
  (65, .lload 8, 2, []),
  (67, .lsub, 1, []),
  (68, .ldc2_w 41, 3, [18446744073709551615, 2141]),
  (71, .lxor, 1, []),
  (72, .land, 1, []),
  (73, .lstore 4, 2, []),
  (75, .goto 44, 3, []),
  (78, .iload 7, 2, []),
  (80, .bipush (-3), 2, []),
  (82, .if_icmp .ne 15, 3, []),
  (85, .lload 4, 2, []),
  (87, .iconst 1, 1, []),
  (88, .lshr, 1, []),
  (89, .lload 8, 2, []),
  (91, .lor, 1, []),
  (92, .lstore 4, 2, []),
  (94, .goto 25, 3, []),
  (97, .lload 4, 2, []),
  (99, .iconst 1, 1, []),
  (100, .lshl, 1, []),
  (101, .iload 7, 2, []),
  (103, .aload_n 3, 1, []),
  (104, .invokestatic 43, 3, [61, 2, 2, 0, 2142, 2143, 0]),
  (107, .ifCond .eq 7, 3, []),
  (110, .iconst 1, 1, []),
  (111, .goto 4, 3, []),
  (114, .iconst 0, 1, []),
  (115, .i2l, 1, []),
  (116, .lor, 1, []),
  (117, .lstore 4, 2, []),
  (119, .iinc 6 1, 3, []),
  (122, .goto (-112), 3, []),
  (125, .lload 4, 2, []),
  (127, .lconst 1, 1, []),
  (128, .land, 1, []),
  (129, .lconst 1, 1, []),
  (130, .lcmp, 1, []),
  (131, .ifCond .ne 7, 3, []),
  (134, .iconst 1, 1, []),
  (135, .goto 4, 3, []),
  (138, .iconst 0, 1, []),
  (139, .ireturn, 1, [])]
def c_60 : List En := [
  (0, .iload_n 0, 1, []),
  (1, .iconst 3, 1, []),
  (2, .imul, 1, []),
  (3, .iload_n 1, 1, []),
  (4, .iadd, 1, []),
  (5, .bipush 100, 2, []),
  (7, .imul, 1, []),
  (8, .iload_n 2, 1, []),
  (9, .iadd, 1, []),
  (10, .ireturn, 1, [])]
def c_61 : List En := [
  (0, .iload_n 0, 1, []),
  (1, .bipush 100, 2, []),
  (3, .idiv, 1, []),
  (4, .iconst 3, 1, []),
  (5, .idiv, 1, []),
  (6, .istore_n 2, 1, []),
  (7, .iload_n 2, 1, []),
  (8, .ifCond .lt 9, 3, []),
  (11, .iload_n 2, 1, []),
  (12, .aload_n 1, 1, []),
  (13, .arraylength, 1, []),
  (14, .if_icmp .lt 5, 3, []),
  (17, .iconst 0, 1, []),
  (18, .ireturn, 1, []),
  (19, .aload_n 1, 1, []),
  (20, .iload_n 2, 1, []),
  (21, .iaload, 1, []),
  (22, .istore_n 3, 1, []),
  (23, .iload_n 0, 1, []),
  (24, .bipush 100, 2, []),
  (26, .irem, 1, []),
  (27, .istore 4, 2, []),
  (29, .iload_n 0, 1, []),
  (30, .bipush 100, 2, []),
  (32, .idiv, 1, []),
  (33, .iconst 3, 1, []),
  (34, .irem, 1, []),
  (35, .lookupswitch 49 #[(0, 25), (1, 37)], 25, []),
  (60, .iload_n 3, 1, []),
  (61, .iload 4, 2, []),
  (63, .if_icmp .ge 7, 3, []),
  (66, .iconst 1, 1, []),
  (67, .goto 4, 3, []),
  (70, .iconst 0, 1, []),
  (71, .ireturn, 1, []),
  (72, .iload_n 3, 1, []),
  (73, .iload 4, 2, []),
  (75, .if_icmp .ne 7, 3, []),
  (78, .iconst 1, 1, []),
  (79, .goto 4, 3, []),
  (82, .iconst 0, 1, []),
  (83, .ireturn, 1, []),
  (84, .iload_n 3, 1, []),
  (85, .iload 4, 2, []),
  (87, .if_icmp .le 7, 3, []),
  (90, .iconst 1, 1, []),
  (91, .goto 4, 3, []),
  (94, .iconst 0, 1, []),
  (95, .ireturn, 1, [])]
def c_62 : List En := [
  (0, .aload_n 0, 1, []),
  (1, .invokespecial 3, 3, [9999, 1, 1, 0, 1023]),
  (4, .aload_n 0, 1, []),
  (5, .new 9, 3, [2, 1026]),
  (8, .dup, 1, []),
  (9, .invokespecial 11, 3, [25, 1, 1, 1, 1028, 1029, 0]),
  (12, .putfield 12, 3, [6, 0, 0, 2022]),
  (15, .aload_n 0, 1, []),
  (16, .new 9, 3, [2, 1026]),
  (19, .dup, 1, []),
  (20, .invokespecial 11, 3, [25, 1, 1, 1, 1028, 1029, 0]),
  (23, .putfield 18, 3, [6, 1, 0, 2023]),
  (26, .aload_n 0, 1, []),
  (27, .new 21, 3, [1, 1094]),
  (30, .dup, 1, []),
  (31, .invokespecial 23, 3, [5, 1, 1, 1, 1096, 1097, 0]),
  (34, .putfield 24, 3, [6, 3, 0, 2025]),
  (37, .aload_n 0, 1, []),
  (38, .bipush 6, 2, []),
  (40, .anewarray 28, 3, [1186]),
  (43, .putfield 30, 3, [6, 4, 0, 2026]),
  (46, .aload_n 0, 1, []),
  (47, .new 28, 3, [5, 1186]),
  (50, .dup, 1, []),
  (51, .invokespecial 34, 3, [53, 1, 1, 1, 1188, 1105, 0]),
  (54, .putfield 35, 3, [6, 5, 0, 2027]),
  (57, .aload_n 0, 1, []),
  (58, .new 39, 3, [4, 1189]),
  (61, .dup, 1, []),
  (62, .invokespecial 41, 3, [40, 1, 1, 1, 1191, 1192, 0]),
  (65, .putfield 42, 3, [6, 7, 0, 2029]),
  (68, .aload_n 0, 1, []),
  (69, .new 46, 3, [0, 1211]),
  (72, .dup, 1, []),
  (73, .invokespecial 48, 3, [1, 1, 1, 1, 1213, 1214, 0]),
  (76, .putfield 49, 3, [6, 8, 0, 2030]),
  (79, .aload_n 0, 1, []),
  (80, .new 53, 3, [3, 1238]),
  (83, .dup, 1, []),
  (84, .invokespecial 55, 3, [34, 1, 1, 1, 2000, 2001, 0]),
  (87, .putfield 56, 3, [6, 9, 0, 2031]),
  (90, .iconst 0, 1, []),
  (91, .istore_n 1, 1, []),
  (92, .iload_n 1, 1, []),
  (93, .bipush 6, 2, []),
  (95, .if_icmp .ge 22, 3, []),
  (98, .aload_n 0, 1, []),
  (99, .getfield 30, 3, [6, 4, 0, 2026]),
  (102, .iload_n 1, 1, []),
  (103, .new 28, 3, [5, 1186]),
  (106, .dup, 1, []),
  (107, .invokespecial 34, 3, [53, 1, 1, 1, 1188, 1105, 0]),
  (110, .aastore, 1, []),
  (111, .iinc 1 1, 3, []),
  (114, .goto (-22), 3, []),
  (117, .return_, 1, [])]
def c_63 : List En := [
  (0, .iload_n 1, 1, []),
  (1, .ifCond .lt 9, 3, []),
  (4, .iload_n 1, 1, []),
  (5, .bipush 7, 2, []),
  (7, .if_icmp .lt 5, 3, []),
  (10, .iconst (-1), 1, []),
  (11, .ireturn, 1, []),
  (12, .iload_n 2, 1, []),
  (13, .invokestatic 60, 3, [102, 1, 2, 0, 2057, 2058, 0]),
  (16, .ifCond .eq 26, 3, []),
  (19, .iload_n 3, 1, []),
  (20, .invokestatic 64, 3, [103, 1, 2, 0, 2060, 2061, 0]),
  (23, .ifCond .eq 19, 3, []),
  (26, .iload 4, 2, []),
  (28, .invokestatic 60, 3, [102, 1, 2, 0, 2057, 2058, 0]),
  (31, .ifCond .eq 11, 3, []),
  (34, .iload 5, 2, []),
  (36, .invokestatic 60, 3, [102, 1, 2, 0, 2057, 2058, 0]),
  (39, .ifCond .ne 6, 3, []),
  (42, .bipush (-2), 2, []),
  (44, .ireturn, 1, []),
  (45, .aload_n 0, 1, []),
  (46, .getfield 12, 3, [6, 0, 0, 2022]),
  (49, .iload_n 1, 1, []),
  (50, .iload_n 2, 1, []),
  (51, .iload_n 3, 1, []),
  (52, .iload 4, 2, []),
  (54, .iload 5, 2, []),
  (56, .invokevirtual 67, 3, [31, 6, 0, 1, 2063, 2065, 0]),
  (59, .ireturn, 1, [])]
def c_64 : List En := [
  (0, .aload_n 0, 1, []),
  (1, .getfield 12, 3, [6, 0, 0, 2022]),
  (4, .iload_n 1, 1, []),
  (5, .invokevirtual 71, 3, [26, 2, 0, 1, 2071, 2073, 1]),
  (8, .ifCond .ne 5, 3, []),
  (11, .iconst (-1), 1, []),
  (12, .ireturn, 1, []),
  (13, .iload_n 2, 1, []),
  (14, .tableswitch 128 0 9 #[54, 64, 74, 84, 94, 104, 121, 121, 121, 121], 54, []),
  (68, .aload_n 0, 1, []),
  (69, .getfield 12, 3, [6, 0, 0, 2022]),
  (72, .getfield 74, 3, [2, 1, 1, 1035]),
  (75, .iload_n 1, 1, []),
  (76, .iaload, 1, []),
  (77, .ireturn, 1, []),
  (78, .aload_n 0, 1, []),
  (79, .getfield 12, 3, [6, 0, 0, 2022]),
  (82, .getfield 78, 3, [2, 2, 1, 1038]),
  (85, .iload_n 1, 1, []),
  (86, .iaload, 1, []),
  (87, .ireturn, 1, []),
  (88, .aload_n 0, 1, []),
  (89, .getfield 12, 3, [6, 0, 0, 2022]),
  (92, .getfield 81, 3, [2, 3, 1, 1041]),
  (95, .iload_n 1, 1, []),
  (96, .iaload, 1, []),
  (97, .ireturn, 1, []),
  (98, .aload_n 0, 1, []),
  (99, .getfield 12, 3, [6, 0, 0, 2022]),
  (102, .getfield 84, 3, [2, 4, 1, 1044]),
  (105, .iload_n 1, 1, []),
  (106, .iaload, 1, []),
  (107, .ireturn, 1, []),
  (108, .aload_n 0, 1, []),
  (109, .getfield 12, 3, [6, 0, 0, 2022]),
  (112, .getfield 87, 3, [2, 5, 1, 1047]),
  (115, .iload_n 1, 1, []),
  (116, .iaload, 1, []),
  (117, .ireturn, 1, []),
  (118, .aload_n 0, 1, []),
  (119, .getfield 12, 3, [6, 0, 0, 2022]),
  (122, .iload_n 1, 1, []),
  (123, .invokevirtual 90, 3, [27, 2, 0, 1, 2075, 2077, 2]),
  (126, .ifCond .eq 7, 3, []),
  (129, .iconst 1, 1, []),
  (130, .goto 4, 3, []),
  (133, .iconst 0, 1, []),
  (134, .ireturn, 1, []),
  (135, .aload_n 0, 1, []),
  (136, .iload_n 1, 1, []),
  (137, .iload_n 2, 1, []),
  (138, .invokevirtual 93, 3, [99, 3, 0, 0, 2082, 2084, 3]),
  (141, .ireturn, 1, []),
  (142, .iconst (-1), 1, []),
  (143, .ireturn, 1, [])]
def c_65 : List En := [
  (0, .aload_n 0, 1, []),
  (1, .getfield 12, 3, [6, 0, 0, 2022]),
  (4, .iload_n 1, 1, []),
  (5, .invokevirtual 71, 3, [26, 2, 0, 1, 2071, 2073, 1]),
  (8, .ifCond .eq 12, 3, []),
  (11, .iload_n 2, 1, []),
  (12, .ifCond .lt 8, 3, []),
  (15, .iload_n 2, 1, []),
  (16, .iconst 1, 1, []),
  (17, .if_icmp .le 5, 3, []),
  (20, .iconst (-1), 1, []),
  (21, .ireturn, 1, []),
  (22, .iload_n 2, 1, []),
  (23, .ifCond .ne 13, 3, []),
  (26, .iload_n 3, 1, []),
  (27, .invokestatic 64, 3, [103, 1, 2, 0, 2060, 2061, 0]),
  (30, .ifCond .ne 16, 3, []),
  (33, .goto 10, 3, []),
  (36, .iload_n 3, 1, []),
  (37, .invokestatic 60, 3, [102, 1, 2, 0, 2057, 2058, 0]),
  (40, .ifCond .ne 6, 3, []),
  (43, .bipush (-2), 2, []),
  (45, .ireturn, 1, []),
  (46, .iload_n 2, 1, []),
  (47, .ifCond .ne 15, 3, []),
  (50, .aload_n 0, 1, []),
  (51, .getfield 12, 3, [6, 0, 0, 2022]),
  (54, .getfield 81, 3, [2, 3, 1, 1041]),
  (57, .iload_n 1, 1, []),
  (58, .iaload, 1, []),
  (59, .goto 12, 3, []),
  (62, .aload_n 0, 1, []),
  (63, .getfield 12, 3, [6, 0, 0, 2022]),
  (66, .getfield 87, 3, [2, 5, 1, 1047]),
  (69, .iload_n 1, 1, []),
  (70, .iaload, 1, []),
  (71, .istore 4, 2, []),
  (73, .iload_n 2, 1, []),
  (74, .ifCond .ne 16, 3, []),
  (77, .aload_n 0, 1, []),
  (78, .getfield 12, 3, [6, 0, 0, 2022]),
  (81, .getfield 81, 3, [2, 3, 1, 1041]),
  (84, .iload_n 1, 1, []),
  (85, .iload_n 3, 1, []),
  (86, .iastore, 1, []),
  (87, .goto 13, 3, []),
  (90, .aload_n 0, 1, []),
  (91, .getfield 12, 3, [6, 0, 0, 2022]),
  (94, .getfield 87, 3, [2, 5, 1, 1047]),
  (97, .iload_n 1, 1, []),
  (98, .iload_n 3, 1, []),
  (99, .iastore, 1, []),
  (100, .iload 4, 2, []),
  (102, .ireturn, 1, [])]
def c_66 : List En := [
  (0, .aload_n 0, 1, []),
  (1, .getfield 12, 3, [6, 0, 0, 2022]),
  (4, .iload_n 1, 1, []),
  (5, .invokevirtual 71, 3, [26, 2, 0, 1, 2071, 2073, 1]),
  (8, .ifCond .ne 5, 3, []),
  (11, .iconst (-1), 1, []),
  (12, .ireturn, 1, []),
  (13, .aload_n 0, 1, []),
  (14, .getfield 12, 3, [6, 0, 0, 2022]),
  (17, .iload_n 1, 1, []),
  (18, .invokevirtual 90, 3, [27, 2, 0, 1, 2075, 2077, 2]),
  (21, .ifCond .eq 7, 3, []),
  (24, .iconst 1, 1, []),
  (25, .goto 4, 3, []),
  (28, .iconst 0, 1, []),
  (29, .istore_n 3, 1, []),
  (30, .iload_n 2, 1, []),
  (31, .ifCond .eq 21, 3, []),
  (34, .aload_n 0, 1, []),
  (35, .getfield 12, 3, [6, 0, 0, 2022]),
  (38, .dup, 1, []),
  (39, .getfield 97, 3, [2, 7, 1, 1054]),
  (42, .iconst 1, 1, []),
  (43, .iload_n 1, 1, []),
  (44, .ishl, 1, []),
  (45, .ior, 1, []),
  (46, .putfield 97, 3, [2, 7, 1, 1054]),
  (49, .goto 20, 3, []),
  (52, .aload_n 0, 1, []),
  (53, .getfield 12, 3, [6, 0, 0, 2022]),
  (56, .dup, 1, []),
  (57, .getfield 97, 3, [2, 7, 1, 1054]),
  (60, .iconst 1, 1, []),
  (61, .iload_n 1, 1, []),
  (62, .ishl, 1, []),
  (63, .iconst (-1), 1, []),
  (64, .ixor, 1, []),
  (65, .iand, 1, []),
  (66, .putfield 97, 3, [2, 7, 1, 1054]),
  (69, .iload_n 3, 1, []),
  (70, .ireturn, 1, [])]
def c_67 : List En := [
  (0, .aload_n 0, 1, []),
  (1, .getfield 12, 3, [6, 0, 0, 2022]),
  (4, .iload_n 1, 1, []),
  (5, .invokevirtual 71, 3, [26, 2, 0, 1, 2071, 2073, 1]),
  (8, .ifCond .eq 12, 3, []),
  (11, .iload_n 2, 1, []),
  (12, .ifCond .lt 8, 3, []),
  (15, .iload_n 2, 1, []),
  (16, .iconst 4, 1, []),
  (17, .if_icmp .lt 5, 3, []),
  (20, .iconst (-1), 1, []),
  (21, .ireturn, 1, []),
  (22, .iload_n 3, 1, []),
  (23, .invokestatic 64, 3, [103, 1, 2, 0, 2060, 2061, 0]),
  (26, .ifCond .ne 6, 3, []),
  (29, .bipush (-2), 2, []),
  (31, .ireturn, 1, []),
  (32, .aload_n 0, 1, []),
  (33, .getfield 12, 3, [6, 0, 0, 2022]),
  (36, .getfield 74, 3, [2, 1, 1, 1035]),
  (39, .iload_n 1, 1, []),
  (40, .iaload, 1, []),
  (41, .bipush 6, 2, []),
  (43, .if_icmp .eq 6, 3, []),
  (46, .bipush (-3), 2, []),
  (48, .ireturn, 1, []),
  (49, .aload_n 0, 1, []),
  (50, .getfield 12, 3, [6, 0, 0, 2022]),
  (53, .getfield 101, 3, [2, 6, 1, 1050]),
  (56, .iload_n 1, 1, []),
  (57, .iconst 4, 1, []),
  (58, .imul, 1, []),
  (59, .iload_n 2, 1, []),
  (60, .iadd, 1, []),
  (61, .iaload, 1, []),
  (62, .istore 4, 2, []),
  (64, .aload_n 0, 1, []),
  (65, .getfield 12, 3, [6, 0, 0, 2022]),
  (68, .getfield 101, 3, [2, 6, 1, 1050]),
  (71, .iload_n 1, 1, []),
  (72, .iconst 4, 1, []),
  (73, .imul, 1, []),
  (74, .iload_n 2, 1, []),
  (75, .iadd, 1, []),
  (76, .iload_n 3, 1, []),
  (77, .iastore, 1, []),
  (78, .iload 4, 2, []),
  (80, .ireturn, 1, [])]
def c_68 : List En := [
  (0, .iload_n 1, 1, []),
  (1, .ifCond .lt 9, 3, []),
  (4, .iload_n 1, 1, []),
  (5, .bipush 127, 2, []),
  (7, .if_icmp .le 6, 3, []),
  (10, .bipush (-2), 2, []),
  (12, .ireturn, 1, []),
  (13, .aload_n 0, 1, []),
  (14, .getfield 42, 3, [6, 7, 0, 2029]),
  (17, .iload_n 1, 1, []),
  (18, .invokevirtual 104, 3, [41, 2, 0, 1, 2223, 2225, 27]),
  (21, .ifCond .eq 13, 3, []),
  (24, .aload_n 0, 1, []),
  (25, .getfield 42, 3, [6, 7, 0, 2029]),
  (28, .getfield 107, 3, [4, 1, 1, 1199]),
  (31, .goto 5, 3, []),
  (34, .bipush (-4), 2, []),
  (36, .ireturn, 1, [])]
def c_69 : List En := [
  (0, .aload_n 0, 1, []),
  (1, .getfield 110, 3, [6, 6, 0, 2028]),
  (4, .bipush 6, 2, []),
  (6, .if_icmp .lt 6, 3, []),
  (9, .bipush (-4), 2, []),
  (11, .ireturn, 1, []),
  (12, .aload_n 0, 1, []),
  (13, .getfield 42, 3, [6, 7, 0, 2029]),
  (16, .aload_n 0, 1, []),
  (17, .getfield 30, 3, [6, 4, 0, 2026]),
  (20, .aload_n 0, 1, []),
  (21, .getfield 110, 3, [6, 6, 0, 2028]),
  (24, .aaload, 1, []),
  (25, .invokevirtual 113, 3, [42, 2, 0, 1, 2231, 2233, 28]),
  (28, .istore_n 1, 1, []),
  (29, .aload_n 0, 1, []),
  (30, .getfield 42, 3, [6, 7, 0, 2029]),
  (33, .iconst 0, 1, []),
  (34, .putfield 107, 3, [4, 1, 1, 1199]),
  (37, .iload_n 1, 1, []),
  (38, .ifCond .lt 8, 3, []),
  (41, .bipush (-10), 2, []),
  (43, .iload_n 1, 1, []),
  (44, .isub, 1, []),
  (45, .ireturn, 1, []),
  (46, .aload_n 0, 1, []),
  (47, .getfield 12, 3, [6, 0, 0, 2022]),
  (50, .aload_n 0, 1, []),
  (51, .getfield 110, 3, [6, 6, 0, 2028]),
  (54, .putfield 117, 3, [2, 12, 1, 1065]),
  (57, .aload_n 0, 1, []),
  (58, .dup, 1, []),
  (59, .getfield 110, 3, [6, 6, 0, 2028]),
  (62, .iconst 1, 1, []),
  (63, .iadd, 1, []),
  (64, .putfield 110, 3, [6, 6, 0, 2028]),
  (67, .aload_n 0, 1, []),
  (68, .getfield 12, 3, [6, 0, 0, 2022]),
  (71, .getfield 117, 3, [2, 12, 1, 1065]),
  (74, .ireturn, 1, [])]
def c_70 : List En := [
  (0, .iload_n 1, 1, []),
  (1, .tableswitch 51 0 2 #[27, 35, 43], 27, []),
  (28, .aload_n 0, 1, []),
  (29, .getfield 12, 3, [6, 0, 0, 2022]),
  (32, .getfield 120, 3, [2, 8, 1, 1056]),
  (35, .ireturn, 1, []),
  (36, .aload_n 0, 1, []),
  (37, .getfield 12, 3, [6, 0, 0, 2022]),
  (40, .invokevirtual 123, 3, [29, 1, 0, 1, 3163, 2107, 8]),
  (43, .ireturn, 1, []),
  (44, .aload_n 0, 1, []),
  (45, .getfield 12, 3, [6, 0, 0, 2022]),
  (48, .getfield 97, 3, [2, 7, 1, 1054]),
  (51, .ireturn, 1, []),
  (52, .iconst (-1), 1, []),
  (53, .ireturn, 1, [])]
def c_71 : List En := [
  (0, .aload_n 0, 1, []),
  (1, .getfield 12, 3, [6, 0, 0, 2022]),
  (4, .getfield 120, 3, [2, 8, 1, 1056]),
  (7, .sipush 999, 3, []),
  (10, .if_icmp .lt 6, 3, []),
  (13, .bipush (-3), 2, []),
  (15, .ireturn, 1, []),
  (16, .aload_n 0, 1, []),
  (17, .invokevirtual 127, 3, [100, 1, 0, 0, 2086, 2088, 4]),
  (20, .aload_n 0, 1, []),
  (21, .getfield 24, 3, [6, 3, 0, 2025]),
  (24, .invokevirtual 130, 3, [10, 1, 0, 1, 2101, 2103, 7]),
  (27, .istore_n 1, 1, []),
  (28, .aload_n 0, 1, []),
  (29, .getfield 12, 3, [6, 0, 0, 2022]),
  (32, .dup, 1, []),
  (33, .getfield 97, 3, [2, 7, 1, 1054]),
  (36, .iload_n 1, 1, []),
  (37, .ior, 1, []),
  (38, .putfield 97, 3, [2, 7, 1, 1054]),
  (41, .aload_n 0, 1, []),
  (42, .getfield 12, 3, [6, 0, 0, 2022]),
  (45, .dup, 1, []),
  (46, .getfield 120, 3, [2, 8, 1, 1056]),
  (49, .iconst 1, 1, []),
  (50, .iadd, 1, []),
  (51, .putfield 120, 3, [2, 8, 1, 1056]),
  (54, .iload_n 1, 1, []),
  (55, .ireturn, 1, [])]
def c_72 : List En := [
  (0, .iload_n 2, 1, []),
  (1, .ifCond .lt 8, 3, []),
  (4, .iload_n 2, 1, []),
  (5, .iconst 1, 1, []),
  (6, .if_icmp .le 5, 3, []),
  (9, .iconst (-1), 1, []),
  (10, .ireturn, 1, []),
  (11, .iload_n 1, 1, []),
  (12, .ifCond .lt 9, 3, []),
  (15, .iload_n 1, 1, []),
  (16, .bipush 30, 2, []),
  (18, .if_icmp .le 6, 3, []),
  (21, .bipush (-2), 2, []),
  (23, .ireturn, 1, []),
  (24, .aload_n 0, 1, []),
  (25, .invokevirtual 127, 3, [100, 1, 0, 0, 2086, 2088, 4]),
  (28, .iconst 0, 1, []),
  (29, .istore_n 3, 1, []),
  (30, .iconst 0, 1, []),
  (31, .istore 4, 2, []),
  (33, .iload 4, 2, []),
  (35, .iload_n 1, 1, []),
  (36, .if_icmp .ge 22, 3, []),
  (39, .iload_n 3, 1, []),
  (40, .aload_n 0, 1, []),
  (41, .getfield 24, 3, [6, 3, 0, 2025]),
  (44, .invokevirtual 133, 3, [9, 1, 0, 1, 3172, 3174, 42]),
  (47, .invokestatic 136, 3, [204, 1, 2, 0, 3177, 2169, 0]),
  (50, .iadd, 1, []),
  (51, .istore_n 3, 1, []),
  (52, .iinc 4 1, 3, []),
  (55, .goto (-22), 3, []),
  (58, .iload_n 2, 1, []),
  (59, .ifCond .ne 16, 3, []),
  (62, .aload_n 0, 1, []),
  (63, .getfield 24, 3, [6, 3, 0, 2025]),
  (66, .getfield 142, 3, [1, 0, 1, 1128]),
  (69, .invokevirtual 123, 3, [29, 1, 0, 1, 3163, 2107, 8]),
  (72, .goto 4, 3, []),
  (75, .iload_n 3, 1, []),
  (76, .ireturn, 1, [])]
def c_73 : List En := [
  (0, .iload_n 1, 1, []),
  (1, .ifCond .lt 8, 3, []),
  (4, .iload_n 1, 1, []),
  (5, .iconst 1, 1, []),
  (6, .if_icmp .le 5, 3, []),
  (9, .iconst (-1), 1, []),
  (10, .ireturn, 1, []),
  (11, .aload_n 0, 1, []),
  (12, .invokevirtual 127, 3, [100, 1, 0, 0, 2086, 2088, 4]),
  (15, .iconst 0, 1, []),
  (16, .istore_n 2, 1, []),
  (17, .iload_n 2, 1, []),
  (18, .bipush 30, 2, []),
  (20, .if_icmp .gt 49, 3, []),
  (23, .aload_n 0, 1, []),
  (24, .getfield 24, 3, [6, 3, 0, 2025]),
  (27, .getfield 142, 3, [1, 0, 1, 1128]),
  (30, .invokevirtual 123, 3, [29, 1, 0, 1, 3163, 2107, 8]),
  (33, .istore_n 3, 1, []),
  (34, .iload_n 3, 1, []),
  (35, .invokestatic 136, 3, [204, 1, 2, 0, 3177, 2169, 0]),
  (38, .iconst 1, 1, []),
  (39, .if_icmp .gt 16, 3, []),
  (42, .iload_n 1, 1, []),
  (43, .ifCond .ne 10, 3, []),
  (46, .iload_n 3, 1, []),
  (47, .invokestatic 145, 3, [105, 1, 2, 0, 3182, 3183, 0]),
  (50, .goto 4, 3, []),
  (53, .iload_n 2, 1, []),
  (54, .ireturn, 1, []),
  (55, .aload_n 0, 1, []),
  (56, .getfield 24, 3, [6, 3, 0, 2025]),
  (59, .invokevirtual 133, 3, [9, 1, 0, 1, 3172, 3174, 42]),
  (62, .pop, 1, []),
  (63, .iinc 2 1, 3, []),
  (66, .goto (-49), 3, []),
  (69, .bipush (-5), 2, []),
  (71, .ireturn, 1, [])]
def c_74 : List En := [
  (0, .iload_n 1, 1, []),
  (1, .ifCond .lt 8, 3, []),
  (4, .iload_n 1, 1, []),
  (5, .iconst 1, 1, []),
  (6, .if_icmp .le 5, 3, []),
  (9, .iconst (-1), 1, []),
  (10, .ireturn, 1, []),
  (11, .bipush (-5), 2, []),
  (13, .istore_n 2, 1, []),
  (14, .bipush (-5), 2, []),
  (16, .istore_n 3, 1, []),
  (17, .aload_n 0, 1, []),
  (18, .getfield 12, 3, [6, 0, 0, 2022]),
  (21, .invokevirtual 123, 3, [29, 1, 0, 1, 3163, 2107, 8]),
  (24, .istore 4, 2, []),
  (26, .aload_n 0, 1, []),
  (27, .invokevirtual 127, 3, [100, 1, 0, 0, 2086, 2088, 4]),
  (30, .iconst 0, 1, []),
  (31, .istore 5, 2, []),
  (33, .iload 5, 2, []),
  (35, .bipush 7, 2, []),
  (37, .if_icmp .ge 65, 3, []),
  (40, .iload 4, 2, []),
  (42, .iload 5, 2, []),
  (44, .invokestatic 148, 3, [104, 2, 2, 0, 3185, 2080, 0]),
  (47, .ifCond .eq 49, 3, []),
  (50, .aload_n 0, 1, []),
  (51, .getfield 24, 3, [6, 3, 0, 2025]),
  (54, .getfield 142, 3, [1, 0, 1, 1128]),
  (57, .aload_n 0, 1, []),
  (58, .getfield 12, 3, [6, 0, 0, 2022]),
  (61, .getfield 97, 3, [2, 7, 1, 1054]),
  (64, .iconst 1, 1, []),
  (65, .iload 5, 2, []),
  (67, .ishl, 1, []),
  (68, .ior, 1, []),
  (69, .putfield 97, 3, [2, 7, 1, 1054]),
  (72, .aload_n 0, 1, []),
  (73, .getfield 24, 3, [6, 3, 0, 2025]),
  (76, .invokevirtual 130, 3, [10, 1, 0, 1, 2101, 2103, 7]),
  (79, .invokestatic 136, 3, [204, 1, 2, 0, 3177, 2169, 0]),
  (82, .istore 6, 2, []),
  (84, .iload 6, 2, []),
  (86, .iload_n 3, 1, []),
  (87, .if_icmp .le 9, 3, []),
  (90, .iload 6, 2, []),
  (92, .istore_n 3, 1, []),
  (93, .iload 5, 2, []),
  (95, .istore_n 2, 1, []),
  (96, .iinc 5 1, 3, []),
  (99, .goto (-66), 3, []),
  (102, .iload_n 1, 1, []),
  (103, .ifCond .ne 7, 3, []),
  (106, .iload_n 2, 1, []),
  (107, .goto 4, 3, []),
  (110, .iload_n 3, 1, []),
  (111, .ireturn, 1, [])]
def c_75 : List En := [
  (0, .aload_n 0, 1, []),
  (1, .getfield 12, 3, [6, 0, 0, 2022]),
  (4, .iload_n 1, 1, []),
  (5, .invokevirtual 71, 3, [26, 2, 0, 1, 2071, 2073, 1]),
  (8, .ifCond .eq 12, 3, []),
  (11, .iload_n 2, 1, []),
  (12, .ifCond .lt 8, 3, []),
  (15, .iload_n 2, 1, []),
  (16, .iconst 1, 1, []),
  (17, .if_icmp .le 5, 3, []),
  (20, .iconst (-1), 1, []),
  (21, .ireturn, 1, []),
  (22, .aload_n 0, 1, []),
  (23, .getfield 12, 3, [6, 0, 0, 2022]),
  (26, .iload_n 1, 1, []),
  (27, .invokevirtual 90, 3, [27, 2, 0, 1, 2075, 2077, 2]),
  (30, .ifCond .ne 6, 3, []),
  (33, .bipush (-3), 2, []),
  (35, .ireturn, 1, []),
  (36, .iconst 0, 1, []),
  (37, .istore_n 3, 1, []),
  (38, .iconst (-1), 1, []),
  (39, .istore 4, 2, []),
  (41, .iconst 0, 1, []),
  (42, .istore 5, 2, []),
  (44, .iload 5, 2, []),
  (46, .bipush 7, 2, []),
  (48, .if_icmp .ge 35, 3, []),
  (51, .aload_n 0, 1, []),
  (52, .iload_n 1, 1, []),
  (53, .iload 5, 2, []),
  (55, .invokevirtual 152, 3, [101, 3, 0, 0, 3194, 3196, 43]),
  (58, .invokestatic 136, 3, [204, 1, 2, 0, 3177, 2169, 0]),
  (61, .istore 6, 2, []),
  (63, .iload 6, 2, []),
  (65, .iload 4, 2, []),
  (67, .if_icmp .le 10, 3, []),
  (70, .iload 6, 2, []),
  (72, .istore 4, 2, []),
  (74, .iload 5, 2, []),
  (76, .istore_n 3, 1, []),
  (77, .iinc 5 1, 3, []),
  (80, .goto (-36), 3, []),
  (83, .iload_n 2, 1, []),
  (84, .ifCond .ne 7, 3, []),
  (87, .iload_n 3, 1, []),
  (88, .goto 5, 3, []),
  (91, .iload 4, 2, []),
  (93, .ireturn, 1, [])]
def c_76 : List En := [
  (0, .aload_n 0, 1, []),
  (1, .getfield 12, 3, [6, 0, 0, 2022]),
  (4, .iload_n 1, 1, []),
  (5, .invokevirtual 71, 3, [26, 2, 0, 1, 2071, 2073, 1]),
  (8, .ifCond .ne 5, 3, []),
  (11, .iconst (-1), 1, []),
  (12, .ireturn, 1, []),
  (13, .aload_n 0, 1, []),
  (14, .getfield 12, 3, [6, 0, 0, 2022]),
  (17, .iload_n 1, 1, []),
  (18, .invokevirtual 90, 3, [27, 2, 0, 1, 2075, 2077, 2]),
  (21, .ifCond .eq 6, 3, []),
  (24, .bipush (-3), 2, []),
  (26, .ireturn, 1, []),
  (27, .iconst 0, 1, []),
  (28, .istore_n 2, 1, []),
  (29, .iconst 0, 1, []),
  (30, .istore_n 3, 1, []),
  (31, .iload_n 3, 1, []),
  (32, .bipush 7, 2, []),
  (34, .if_icmp .ge 42, 3, []),
  (37, .aload_n 0, 1, []),
  (38, .invokevirtual 127, 3, [100, 1, 0, 0, 2086, 2088, 4]),
  (41, .aload_n 0, 1, []),
  (42, .getfield 24, 3, [6, 3, 0, 2025]),
  (45, .iload_n 1, 1, []),
  (46, .iload_n 3, 1, []),
  (47, .invokevirtual 155, 3, [7, 3, 0, 1, 3202, 3204, 44]),
  (50, .aload_n 0, 1, []),
  (51, .getfield 24, 3, [6, 3, 0, 2025]),
  (54, .invokevirtual 130, 3, [10, 1, 0, 1, 2101, 2103, 7]),
  (57, .iload_n 1, 1, []),
  (58, .invokestatic 148, 3, [104, 2, 2, 0, 3185, 2080, 0]),
  (61, .ifCond .ne 9, 3, []),
  (64, .iload_n 2, 1, []),
  (65, .iconst 1, 1, []),
  (66, .iload_n 3, 1, []),
  (67, .ishl, 1, []),
  (68, .ior, 1, []),
  (69, .istore_n 2, 1, []),
  (70, .iinc 3 1, 3, []),
  (73, .goto (-42), 3, []),
  (76, .iload_n 2, 1, []),
  (77, .ireturn, 1, [])]
def c_77 : List En := [
  (0, .aload_n 0, 1, []),
  (1, .getfield 12, 3, [6, 0, 0, 2022]),
  (4, .iload_n 1, 1, []),
  (5, .invokevirtual 71, 3, [26, 2, 0, 1, 2071, 2073, 1]),
  (8, .ifCond .ne 5, 3, []),
  (11, .iconst (-1), 1, []),
  (12, .ireturn, 1, []),
  (13, .aload_n 0, 1, []),
  (14, .getfield 12, 3, [6, 0, 0, 2022]),
  (17, .iload_n 1, 1, []),
  (18, .invokevirtual 90, 3, [27, 2, 0, 1, 2075, 2077, 2]),
  (21, .ifCond .eq 6, 3, []),
  (24, .bipush (-3), 2, []),
  (26, .ireturn, 1, []),
  (27, .aload_n 0, 1, []),
  (28, .invokevirtual 127, 3, [100, 1, 0, 0, 2086, 2088, 4]),
  (31, .iconst 0, 1, []),
  (32, .istore_n 2, 1, []),
  (33, .iload_n 2, 1, []),
  (34, .bipush 9, 2, []),
  (36, .if_icmp .gt 38, 3, []),
  (39, .aload_n 0, 1, []),
  (40, .getfield 24, 3, [6, 3, 0, 2025]),
  (43, .getfield 142, 3, [1, 0, 1, 1128]),
  (46, .getfield 87, 3, [2, 5, 1, 1047]),
  (49, .iload_n 1, 1, []),
  (50, .iload_n 2, 1, []),
  (51, .iastore, 1, []),
  (52, .aload_n 0, 1, []),
  (53, .getfield 24, 3, [6, 3, 0, 2025]),
  (56, .invokevirtual 130, 3, [10, 1, 0, 1, 2101, 2103, 7]),
  (59, .iload_n 1, 1, []),
  (60, .invokestatic 148, 3, [104, 2, 2, 0, 3185, 2080, 0]),
  (63, .ifCond .ne 5, 3, []),
  (66, .iload_n 2, 1, []),
  (67, .ireturn, 1, []),
  (68, .iinc 2 1, 3, []),
  (71, .goto (-38), 3, []),
  (74, .bipush (-5), 2, []),
  (76, .ireturn, 1, [])]
def c_78 : List En := [
  (0, .aload_n 0, 1, []),
  (1, .invokevirtual 127, 3, [100, 1, 0, 0, 2086, 2088, 4]),
  (4, .aload_n 0, 1, []),
  (5, .getfield 24, 3, [6, 3, 0, 2025]),
  (8, .iconst 1, 1, []),
  (9, .putfield 159, 3, [1, 12, 1, 1146]),
  (12, .aload_n 0, 1, []),
  (13, .getfield 24, 3, [6, 3, 0, 2025]),
  (16, .invokevirtual 130, 3, [10, 1, 0, 1, 2101, 2103, 7]),
  (19, .invokestatic 145, 3, [105, 1, 2, 0, 3182, 3183, 0]),
  (22, .ireturn, 1, [])]
def c_79 : List En := [
  (0, .aload_n 0, 1, []),
  (1, .getfield 12, 3, [6, 0, 0, 2022]),
  (4, .iload_n 1, 1, []),
  (5, .invokevirtual 71, 3, [26, 2, 0, 1, 2071, 2073, 1]),
  (8, .ifCond .ne 5, 3, []),
  (11, .iconst (-1), 1, []),
  (12, .ireturn, 1, []),
  (13, .aload_n 0, 1, []),
  (14, .getfield 12, 3, [6, 0, 0, 2022]),
  (17, .iload_n 1, 1, []),
  (18, .invokevirtual 90, 3, [27, 2, 0, 1, 2075, 2077, 2]),
  (21, .ifCond .ne 6, 3, []),
  (24, .bipush (-3), 2, []),
  (26, .ireturn, 1, []),
  (27, .aload_n 0, 1, []),
  (28, .invokevirtual 127, 3, [100, 1, 0, 0, 2086, 2088, 4]),
  (31, .aload_n 0, 1, []),
  (32, .getfield 24, 3, [6, 3, 0, 2025]),
  (35, .aload_n 0, 1, []),
  (36, .getfield 12, 3, [6, 0, 0, 2022]),
  (39, .getfield 97, 3, [2, 7, 1, 1054]),
  (42, .iconst 1, 1, []),
  (43, .iload_n 1, 1, []),
  (44, .ishl, 1, []),
  (45, .iconst (-1), 1, []),
  (46, .ixor, 1, []),
  (47, .iand, 1, []),
  (48, .putfield 163, 3, [1, 9, 1, 1142]),
  (51, .aload_n 0, 1, []),
  (52, .getfield 24, 3, [6, 3, 0, 2025]),
  (55, .invokevirtual 130, 3, [10, 1, 0, 1, 2101, 2103, 7]),
  (58, .invokestatic 136, 3, [204, 1, 2, 0, 3177, 2169, 0]),
  (61, .ireturn, 1, [])]
def c_80 : List En := [
  (0, .iload_n 1, 1, []),
  (1, .iconst (-1), 1, []),
  (2, .if_icmp .lt 8, 3, []),
  (5, .iload_n 1, 1, []),
  (6, .iconst 3, 1, []),
  (7, .if_icmp .lt 5, 3, []),
  (10, .iconst (-1), 1, []),
  (11, .ireturn, 1, []),
  (12, .aload_n 0, 1, []),
  (13, .getfield 12, 3, [6, 0, 0, 2022]),
  (16, .getfield 97, 3, [2, 7, 1, 1054]),
  (19, .invokestatic 136, 3, [204, 1, 2, 0, 3177, 2169, 0]),
  (22, .istore_n 2, 1, []),
  (23, .iload_n 2, 1, []),
  (24, .iconst 3, 1, []),
  (25, .if_icmp .le 6, 3, []),
  (28, .bipush (-9), 2, []),
  (30, .ireturn, 1, []),
  (31, .iconst (-1), 1, []),
  (32, .istore_n 3, 1, []),
  (33, .iconst 0, 1, []),
  (34, .istore 4, 2, []),
  (36, .iload_n 2, 1, []),
  (37, .invokestatic 166, 3, [106, 1, 2, 0, 3222, 3223, 0]),
  (40, .istore 5, 2, []),
  (42, .aload_n 0, 1, []),
  (43, .invokevirtual 127, 3, [100, 1, 0, 0, 2086, 2088, 4]),
  (46, .iconst 0, 1, []),
  (47, .istore 6, 2, []),
  (49, .iload 6, 2, []),
  (51, .iload 5, 2, []),
  (53, .if_icmp .ge 46, 3, []),
  (56, .aload_n 0, 1, []),
  (57, .getfield 24, 3, [6, 3, 0, 2025]),
  (60, .getfield 142, 3, [1, 0, 1, 1128]),
  (63, .iload 6, 2, []),
  (65, .invokevirtual 169, 3, [32, 2, 0, 1, 3225, 3227, 45]),
  (68, .aload_n 0, 1, []),
  (69, .getfield 24, 3, [6, 3, 0, 2025]),
  (72, .invokevirtual 130, 3, [10, 1, 0, 1, 2101, 2103, 7]),
  (75, .invokestatic 136, 3, [204, 1, 2, 0, 3177, 2169, 0]),
  (78, .istore 7, 2, []),
  (80, .iload 7, 2, []),
  (82, .iload_n 3, 1, []),
  (83, .if_icmp .le 10, 3, []),
  (86, .iload 7, 2, []),
  (88, .istore_n 3, 1, []),
  (89, .iload 6, 2, []),
  (91, .istore 4, 2, []),
  (93, .iinc 6 1, 3, []),
  (96, .goto (-47), 3, []),
  (99, .iload_n 1, 1, []),
  (100, .iconst (-1), 1, []),
  (101, .if_icmp .ne 5, 3, []),
  (104, .iload_n 3, 1, []),
  (105, .ireturn, 1, []),
  (106, .iload_n 1, 1, []),
  (107, .iload_n 2, 1, []),
  (108, .if_icmp .ge 20, 3, []),
  (111, .iload 4, 2, []),
  (113, .iload_n 2, 1, []),
  (114, .iconst 1, 1, []),
  (115, .isub, 1, []),
  (116, .iload_n 1, 1, []),
  (117, .isub, 1, []),
  (118, .invokestatic 166, 3, [106, 1, 2, 0, 3222, 3223, 0]),
  (121, .idiv, 1, []),
  (122, .bipush 7, 2, []),
  (124, .irem, 1, []),
  (125, .goto 5, 3, []),
  (128, .bipush (-5), 2, []),
  (130, .ireturn, 1, [])]
def c_81 : List En := [
  (0, .aload_n 0, 1, []),
  (1, .getfield 12, 3, [6, 0, 0, 2022]),
  (4, .iload_n 1, 1, []),
  (5, .invokevirtual 71, 3, [26, 2, 0, 1, 2071, 2073, 1]),
  (8, .ifCond .eq 14, 3, []),
  (11, .aload_n 0, 1, []),
  (12, .getfield 12, 3, [6, 0, 0, 2022]),
  (15, .iload_n 2, 1, []),
  (16, .invokevirtual 71, 3, [26, 2, 0, 1, 2071, 2073, 1]),
  (19, .ifCond .ne 5, 3, []),
  (22, .iconst (-1), 1, []),
  (23, .ireturn, 1, []),
  (24, .iload_n 1, 1, []),
  (25, .iload_n 2, 1, []),
  (26, .if_icmp .ne 6, 3, []),
  (29, .bipush (-2), 2, []),
  (31, .ireturn, 1, []),
  (32, .aload_n 0, 1, []),
  (33, .getfield 12, 3, [6, 0, 0, 2022]),
  (36, .iload_n 1, 1, []),
  (37, .invokevirtual 90, 3, [27, 2, 0, 1, 2075, 2077, 2]),
  (40, .ifCond .ne 14, 3, []),
  (43, .aload_n 0, 1, []),
  (44, .getfield 12, 3, [6, 0, 0, 2022]),
  (47, .iload_n 2, 1, []),
  (48, .invokevirtual 90, 3, [27, 2, 0, 1, 2075, 2077, 2]),
  (51, .ifCond .eq 6, 3, []),
  (54, .bipush (-3), 2, []),
  (56, .ireturn, 1, []),
  (57, .aload_n 0, 1, []),
  (58, .invokevirtual 127, 3, [100, 1, 0, 0, 2086, 2088, 4]),
  (61, .aload_n 0, 1, []),
  (62, .getfield 24, 3, [6, 3, 0, 2025]),
  (65, .iload_n 1, 1, []),
  (66, .iload_n 2, 1, []),
  (67, .invokevirtual 173, 3, [8, 3, 0, 1, 3234, 3236, 46]),
  (70, .aload_n 0, 1, []),
  (71, .getfield 24, 3, [6, 3, 0, 2025]),
  (74, .invokevirtual 130, 3, [10, 1, 0, 1, 2101, 2103, 7]),
  (77, .iload_n 1, 1, []),
  (78, .invokestatic 148, 3, [104, 2, 2, 0, 3185, 2080, 0]),
  (81, .ifCond .eq 7, 3, []),
  (84, .iconst 0, 1, []),
  (85, .goto 4, 3, []),
  (88, .iconst 1, 1, []),
  (89, .ireturn, 1, [])]
def c_82 : List En := [
  (0, .aload_n 0, 1, []),
  (1, .getfield 12, 3, [6, 0, 0, 2022]),
  (4, .iload_n 1, 1, []),
  (5, .invokevirtual 176, 3, [30, 2, 0, 1, 4002, 4004, 47]),
  (8, .ifCond .ne 6, 3, []),
  (11, .bipush (-2), 2, []),
  (13, .ireturn, 1, []),
  (14, .aload_n 0, 1, []),
  (15, .getfield 12, 3, [6, 0, 0, 2022]),
  (18, .getfield 179, 3, [2, 9, 1, 1059]),
  (21, .istore_n 2, 1, []),
  (22, .aload_n 0, 1, []),
  (23, .getfield 12, 3, [6, 0, 0, 2022]),
  (26, .iload_n 1, 1, []),
  (27, .putfield 179, 3, [2, 9, 1, 1059]),
  (30, .iload_n 2, 1, []),
  (31, .ireturn, 1, [])]
def c_83 : List En := [
  (0, .aload_n 0, 1, []),
  (1, .getfield 12, 3, [6, 0, 0, 2022]),
  (4, .iload_n 1, 1, []),
  (5, .invokevirtual 71, 3, [26, 2, 0, 1, 2071, 2073, 1]),
  (8, .ifCond .ne 5, 3, []),
  (11, .iconst (-1), 1, []),
  (12, .ireturn, 1, []),
  (13, .aload_n 0, 1, []),
  (14, .getfield 12, 3, [6, 0, 0, 2022]),
  (17, .iload_n 1, 1, []),
  (18, .invokevirtual 90, 3, [27, 2, 0, 1, 2075, 2077, 2]),
  (21, .ifCond .ne 6, 3, []),
  (24, .bipush (-3), 2, []),
  (26, .ireturn, 1, []),
  (27, .iconst 0, 1, []),
  (28, .istore_n 2, 1, []),
  (29, .iconst 0, 1, []),
  (30, .istore_n 3, 1, []),
  (31, .iload_n 3, 1, []),
  (32, .bipush 7, 2, []),
  (34, .if_icmp .ge 31, 3, []),
  (37, .aload_n 0, 1, []),
  (38, .iload_n 1, 1, []),
  (39, .iload_n 3, 1, []),
  (40, .invokevirtual 152, 3, [101, 3, 0, 0, 3194, 3196, 43]),
  (43, .aload_n 0, 1, []),
  (44, .getfield 12, 3, [6, 0, 0, 2022]),
  (47, .getfield 179, 3, [2, 9, 1, 1059]),
  (50, .if_icmp .ne 9, 3, []),
  (53, .iload_n 2, 1, []),
  (54, .iconst 1, 1, []),
  (55, .iload_n 3, 1, []),
  (56, .ishl, 1, []),
  (57, .ior, 1, []),
  (58, .istore_n 2, 1, []),
  (59, .iinc 3 1, 3, []),
  (62, .goto (-31), 3, []),
  (65, .iload_n 2, 1, []),
  (66, .ireturn, 1, [])]
def c_84 : List En := [
  (0, .aload_n 0, 1, []),
  (1, .getfield 12, 3, [6, 0, 0, 2022]),
  (4, .iload_n 1, 1, []),
  (5, .invokevirtual 71, 3, [26, 2, 0, 1, 2071, 2073, 1]),
  (8, .ifCond .eq 23, 3, []),
  (11, .aload_n 0, 1, []),
  (12, .getfield 12, 3, [6, 0, 0, 2022]),
  (15, .iload_n 2, 1, []),
  (16, .invokevirtual 71, 3, [26, 2, 0, 1, 2071, 2073, 1]),
  (19, .ifCond .eq 12, 3, []),
  (22, .iload_n 3, 1, []),
  (23, .ifCond .lt 8, 3, []),
  (26, .iload_n 3, 1, []),
  (27, .iconst 1, 1, []),
  (28, .if_icmp .le 7, 3, []),
  (31, .ldc2_w 182, 3, [9223372036854775808, 4014]),
  (34, .lreturn, 1, []),
  (35, .aload_n 0, 1, []),
  (36, .getfield 12, 3, [6, 0, 0, 2022]),
  (39, .iload_n 1, 1, []),
  (40, .invokevirtual 90, 3, [27, 2, 0, 1, 2075, 2077, 2]),
  (43, .ifCond .ne 14, 3, []),
  (46, .aload_n 0, 1, []),
  (47, .getfield 12, 3, [6, 0, 0, 2022]),
  (50, .iload_n 2, 1, []),
  (51, .invokevirtual 90, 3, [27, 2, 0, 1, 2075, 2077, 2]),
  (54, .ifCond .ne 7, 3, []),
  (57, .ldc2_w 182, 3, [9223372036854775808, 4014]),
  (60, .lreturn, 1, []),
  (61, .iconst 0, 1, []),
  (62, .istore 4, 2, []),
  (64, .iconst 0, 1, []),
  (65, .istore 5, 2, []),
  (67, .iload 5, 2, []),
  (69, .bipush 7, 2, []),
  (71, .if_icmp .ge 26, 3, []),
  (74, .aload_n 0, 1, []),
  (75, .iload_n 2, 1, []),
  (76, .iload 5, 2, []),
  (78, .invokevirtual 152, 3, [101, 3, 0, 0, 3194, 3196, 43]),
  (81, .iload_n 1, 1, []),
  (82, .invokestatic 148, 3, [104, 2, 2, 0, 3185, 2080, 0]),
  (85, .ifCond .eq 6, 3, []),
  (88, .iinc 4 1, 3, []),
  (91, .iinc 5 1, 3, []),
  (94, .goto (-27), 3, []),
  (97, .iload 4, 2, []),
  (99, .bipush 7, 2, []),
  (101, .iload_n 3, 1, []),
  (102, .invokestatic 184, 3, [107, 3, 2, 0, 4015, 4016, 0]),
  (105, .lreturn, 1, [])]
def c_85 : List En := [
  (0, .iload_n 1, 1, []),
  (1, .iconst 1, 1, []),
  (2, .if_icmp .lt 18, 3, []),
  (5, .iload_n 1, 1, []),
  (6, .bipush 30, 2, []),
  (8, .if_icmp .gt 12, 3, []),
  (11, .iload_n 2, 1, []),
  (12, .ifCond .lt 8, 3, []),
  (15, .iload_n 2, 1, []),
  (16, .iconst 1, 1, []),
  (17, .if_icmp .le 7, 3, []),
  (20, .ldc2_w 182, 3, [9223372036854775808, 4014]),
  (23, .lreturn, 1, []),
  (24, .aload_n 0, 1, []),
  (25, .invokevirtual 127, 3, [100, 1, 0, 0, 2086, 2088, 4]),
  (28, .iconst 0, 1, []),
  (29, .istore_n 3, 1, []),
  (30, .iconst 0, 1, []),
  (31, .istore 4, 2, []),
  (33, .iload 4, 2, []),
  (35, .iload_n 1, 1, []),
  (36, .if_icmp .ge 33, 3, []),
  (39, .aload_n 0, 1, []),
  (40, .getfield 24, 3, [6, 3, 0, 2025]),
  (43, .invokevirtual 133, 3, [9, 1, 0, 1, 3172, 3174, 42]),
  (46, .pop, 1, []),
  (47, .iload_n 3, 1, []),
  (48, .aload_n 0, 1, []),
  (49, .getfield 24, 3, [6, 3, 0, 2025]),
  (52, .getfield 142, 3, [1, 0, 1, 1128]),
  (55, .invokevirtual 123, 3, [29, 1, 0, 1, 3163, 2107, 8]),
  (58, .invokestatic 136, 3, [204, 1, 2, 0, 3177, 2169, 0]),
  (61, .iadd, 1, []),
  (62, .istore_n 3, 1, []),
  (63, .iinc 4 1, 3, []),
  (66, .goto (-33), 3, []),
  (69, .iload_n 3, 1, []),
  (70, .iload_n 1, 1, []),
  (71, .iload_n 2, 1, []),
  (72, .invokestatic 184, 3, [107, 3, 2, 0, 4015, 4016, 0]),
  (75, .lreturn, 1, [])]
def c_86 : List En := [
  (0, .iload_n 1, 1, []),
  (1, .iconst (-1), 1, []),
  (2, .if_icmp .ne 13, 3, []),
  (5, .aload_n 0, 1, []),
  (6, .getfield 12, 3, [6, 0, 0, 2022]),
  (9, .iconst 0, 1, []),
  (10, .putfield 188, 3, [2, 11, 1, 1063]),
  (13, .iconst 0, 1, []),
  (14, .ireturn, 1, []),
  (15, .aload_n 0, 1, []),
  (16, .getfield 12, 3, [6, 0, 0, 2022]),
  (19, .iload_n 1, 1, []),
  (20, .invokevirtual 176, 3, [30, 2, 0, 1, 4002, 4004, 47]),
  (23, .ifCond .ne 6, 3, []),
  (26, .bipush (-2), 2, []),
  (28, .ireturn, 1, []),
  (29, .aload_n 0, 1, []),
  (30, .getfield 12, 3, [6, 0, 0, 2022]),
  (33, .getfield 188, 3, [2, 11, 1, 1063]),
  (36, .bipush 12, 2, []),
  (38, .if_icmp .lt 6, 3, []),
  (41, .bipush (-4), 2, []),
  (43, .ireturn, 1, []),
  (44, .aload_n 0, 1, []),
  (45, .getfield 12, 3, [6, 0, 0, 2022]),
  (48, .getfield 191, 3, [2, 10, 1, 1061]),
  (51, .aload_n 0, 1, []),
  (52, .getfield 12, 3, [6, 0, 0, 2022]),
  (55, .getfield 188, 3, [2, 11, 1, 1063]),
  (58, .iload_n 1, 1, []),
  (59, .iastore, 1, []),
  (60, .aload_n 0, 1, []),
  (61, .getfield 12, 3, [6, 0, 0, 2022]),
  (64, .dup, 1, []),
  (65, .getfield 188, 3, [2, 11, 1, 1063]),
  (68, .iconst 1, 1, []),
  (69, .iadd, 1, []),
  (70, .putfield 188, 3, [2, 11, 1, 1063]),
  (73, .aload_n 0, 1, []),
  (74, .getfield 12, 3, [6, 0, 0, 2022]),
  (77, .getfield 188, 3, [2, 11, 1, 1063]),
  (80, .ireturn, 1, [])]
def c_87 : List En := [
  (0, .aload_n 0, 1, []),
  (1, .invokevirtual 127, 3, [100, 1, 0, 0, 2086, 2088, 4]),
  (4, .iconst 0, 1, []),
  (5, .istore_n 1, 1, []),
  (6, .iload_n 1, 1, []),
  (7, .bipush 12, 2, []),
  (9, .if_icmp .ge 43, 3, []),
  (12, .iload_n 1, 1, []),
  (13, .aload_n 0, 1, []),
  (14, .getfield 12, 3, [6, 0, 0, 2022]),
  (17, .getfield 188, 3, [2, 11, 1, 1063]),
  (20, .if_icmp .ge 32, 3, []),
  (23, .aload_n 0, 1, []),
  (24, .getfield 24, 3, [6, 3, 0, 2025]),
  (27, .invokevirtual 133, 3, [9, 1, 0, 1, 3172, 3174, 42]),
  (30, .aload_n 0, 1, []),
  (31, .getfield 12, 3, [6, 0, 0, 2022]),
  (34, .getfield 191, 3, [2, 10, 1, 1061]),
  (37, .iload_n 1, 1, []),
  (38, .iaload, 1, []),
  (39, .if_icmp .eq 7, 3, []),
  (42, .iload_n 1, 1, []),
  (43, .iconst 1, 1, []),
  (44, .iadd, 1, []),
  (45, .ireturn, 1, []),
  (46, .iinc 1 1, 3, []),
  (49, .goto (-43), 3, []),
  (52, .bipush (-5), 2, []),
  (54, .ireturn, 1, [])]
def c_88 : List En := [
  (0, .aload_n 0, 1, []),
  (1, .getfield 56, 3, [6, 9, 0, 2031]),
  (4, .iload_n 1, 1, []),
  (5, .invokevirtual 194, 3, [35, 2, 0, 1, 4034, 4036, 48]),
  (8, .ifCond .ne 5, 3, []),
  (11, .iconst (-1), 1, []),
  (12, .ireturn, 1, []),
  (13, .aload_n 0, 1, []),
  (14, .getfield 56, 3, [6, 9, 0, 2031]),
  (17, .getfield 197, 3, [3, 0, 1, 2010]),
  (20, .iload_n 1, 1, []),
  (21, .iaload, 1, []),
  (22, .iconst (-1), 1, []),
  (23, .if_icmp .eq 19, 3, []),
  (26, .aload_n 0, 1, []),
  (27, .getfield 56, 3, [6, 9, 0, 2031]),
  (30, .getfield 197, 3, [3, 0, 1, 2010]),
  (33, .iload_n 1, 1, []),
  (34, .iaload, 1, []),
  (35, .iconst 4, 1, []),
  (36, .if_icmp .eq 6, 3, []),
  (39, .bipush (-12), 2, []),
  (41, .ireturn, 1, []),
  (42, .iconst 0, 1, []),
  (43, .istore_n 3, 1, []),
  (44, .iload_n 3, 1, []),
  (45, .aload_n 0, 1, []),
  (46, .getfield 12, 3, [6, 0, 0, 2022]),
  (49, .getfield 200, 3, [2, 0, 1, 1033]),
  (52, .if_icmp .ge 78, 3, []),
  (55, .iload_n 2, 1, []),
  (56, .i2l, 1, []),
  (57, .iload_n 3, 1, []),
  (58, .i2l, 1, []),
  (59, .ladd, 1, []),
  (60, .lstore 4, 2, []),
  (62, .iload_n 2, 1, []),
  (63, .ifCond .lt 16, 3, []),
  (66, .aload_n 0, 1, []),
  (67, .getfield 56, 3, [6, 9, 0, 2031]),
  (70, .iload_n 1, 1, []),
  (71, .lload 4, 2, []),
  (73, .invokevirtual 201, 3, [36, 3, 0, 1, 4038, 4040, 49]),
  (76, .ifCond .ne 8, 3, []),
  (79, .bipush 100, 2, []),
  (81, .iload_n 3, 1, []),
  (82, .iadd, 1, []),
  (83, .ireturn, 1, []),
  (84, .aload_n 0, 1, []),
  (85, .getfield 56, 3, [6, 9, 0, 2031]),
  (88, .getfield 205, 3, [3, 2, 1, 2013]),
  (91, .iload_n 1, 1, []),
  (92, .aaload, 1, []),
  (93, .lload 4, 2, []),
  (95, .l2i, 1, []),
  (96, .laload, 1, []),
  (97, .lconst 0, 1, []),
  (98, .lcmp, 1, []),
  (99, .ifCond .eq 7, 3, []),
  (102, .iconst 1, 1, []),
  (103, .goto 4, 3, []),
  (106, .iconst 0, 1, []),
  (107, .istore 6, 2, []),
  (109, .iload 6, 2, []),
  (111, .aload_n 0, 1, []),
  (112, .getfield 12, 3, [6, 0, 0, 2022]),
  (115, .iload_n 3, 1, []),
  (116, .invokevirtual 90, 3, [27, 2, 0, 1, 2075, 2077, 2]),
  (119, .if_icmp .ne 5, 3, []),
  (122, .iload_n 3, 1, []),
  (123, .ireturn, 1, []),
  (124, .iinc 3 1, 3, []),
  (127, .goto (-83), 3, []),
  (130, .bipush (-5), 2, []),
  (132, .ireturn, 1, [])]
def c_89 : List En := [
  (0, .aload_n 0, 1, []),
  (1, .getfield 18, 3, [6, 1, 0, 2023]),
  (4, .aload_n 0, 1, []),
  (5, .getfield 12, 3, [6, 0, 0, 2022]),
  (8, .invokevirtual 209, 3, [33, 2, 0, 1, 4048, 2096, 6]),
  (11, .aload_n 0, 1, []),
  (12, .iconst 1, 1, []),
  (13, .putfield 213, 3, [6, 2, 0, 2024]),
  (16, .aload_n 0, 1, []),
  (17, .getfield 12, 3, [6, 0, 0, 2022]),
  (20, .getfield 200, 3, [2, 0, 1, 1033]),
  (23, .ireturn, 1, [])]
def c_90 : List En := [
  (0, .aload_n 0, 1, []),
  (1, .getfield 213, 3, [6, 2, 0, 2024]),
  (4, .ifCond .ne 6, 3, []),
  (7, .bipush (-3), 2, []),
  (9, .ireturn, 1, []),
  (10, .aload_n 0, 1, []),
  (11, .getfield 12, 3, [6, 0, 0, 2022]),
  (14, .aload_n 0, 1, []),
  (15, .getfield 18, 3, [6, 1, 0, 2023]),
  (18, .invokevirtual 209, 3, [33, 2, 0, 1, 4048, 2096, 6]),
  (21, .aload_n 0, 1, []),
  (22, .getfield 12, 3, [6, 0, 0, 2022]),
  (25, .getfield 200, 3, [2, 0, 1, 1033]),
  (28, .ireturn, 1, [])]
def c_91 : List En := [
  (0, .aload_n 0, 1, []),
  (1, .getfield 49, 3, [6, 8, 0, 2030]),
  (4, .iconst 0, 1, []),
  (5, .putfield 216, 3, [0, 4, 1, 1226]),
  (8, .aload_n 0, 1, []),
  (9, .getfield 12, 3, [6, 0, 0, 2022]),
  (12, .iload_n 1, 1, []),
  (13, .invokevirtual 71, 3, [26, 2, 0, 1, 2071, 2073, 1]),
  (16, .ifCond .eq 12, 3, []),
  (19, .iload_n 2, 1, []),
  (20, .ifCond .lt 8, 3, []),
  (23, .iload_n 2, 1, []),
  (24, .iconst 2, 1, []),
  (25, .if_icmp .le 5, 3, []),
  (28, .iconst 0, 1, []),
  (29, .ireturn, 1, []),
  (30, .aload_n 0, 1, []),
  (31, .getfield 49, 3, [6, 8, 0, 2030]),
  (34, .iload_n 1, 1, []),
  (35, .putfield 219, 3, [0, 0, 1, 1218]),
  (38, .aload_n 0, 1, []),
  (39, .getfield 49, 3, [6, 8, 0, 2030]),
  (42, .aload_n 0, 1, []),
  (43, .getfield 12, 3, [6, 0, 0, 2022]),
  (46, .getfield 74, 3, [2, 1, 1, 1035]),
  (49, .iload_n 1, 1, []),
  (50, .iaload, 1, []),
  (51, .putfield 222, 3, [0, 1, 1, 1220]),
  (54, .aload_n 0, 1, []),
  (55, .getfield 49, 3, [6, 8, 0, 2030]),
  (58, .aload_n 0, 1, []),
  (59, .getfield 12, 3, [6, 0, 0, 2022]),
  (62, .getfield 78, 3, [2, 2, 1, 1038]),
  (65, .iload_n 1, 1, []),
  (66, .iaload, 1, []),
  (67, .putfield 224, 3, [0, 2, 1, 1222]),
  (70, .aload_n 0, 1, []),
  (71, .getfield 49, 3, [6, 8, 0, 2030]),
  (74, .iload_n 2, 1, []),
  (75, .aload_n 0, 1, []),
  (76, .getfield 49, 3, [6, 8, 0, 2030]),
  (79, .getfield 222, 3, [0, 1, 1, 1220]),
  (82, .iload_n 3, 1, []),
  (83, .iconst 0, 1, []),
  (84, .invokevirtual 226, 3, [2, 5, 0, 1, 4057, 4059, 50]),
  (87, .ireturn, 1, [])]
def c_92 : List En := [
  (0, .iload_n 1, 1, []),
  (1, .ifCond .lt 32, 3, []),
  (4, .iload_n 1, 1, []),
  (5, .bipush 20, 2, []),
  (7, .if_icmp .ge 26, 3, []),
  (10, .iload_n 1, 1, []),
  (11, .aload_n 0, 1, []),
  (12, .getfield 49, 3, [6, 8, 0, 2030]),
  (15, .getfield 216, 3, [0, 4, 1, 1226]),
  (18, .if_icmp .ge 15, 3, []),
  (21, .aload_n 0, 1, []),
  (22, .getfield 49, 3, [6, 8, 0, 2030]),
  (25, .getfield 230, 3, [0, 3, 1, 1224]),
  (28, .iload_n 1, 1, []),
  (29, .iaload, 1, []),
  (30, .goto 4, 3, []),
  (33, .iconst (-1), 1, []),
  (34, .ireturn, 1, [])]
def c_93 : List En := [
  (0, .iload_n 2, 1, []),
  (1, .ifCond .lt 9, 3, []),
  (4, .iload_n 2, 1, []),
  (5, .bipush 7, 2, []),
  (7, .if_icmp .lt 6, 3, []),
  (10, .bipush (-2), 2, []),
  (12, .ireturn, 1, []),
  (13, .aload_n 0, 1, []),
  (14, .getfield 12, 3, [6, 0, 0, 2022]),
  (17, .iload_n 1, 1, []),
  (18, .invokevirtual 71, 3, [26, 2, 0, 1, 2071, 2073, 1]),
  (21, .ifCond .ne 6, 3, []),
  (24, .bipush (-11), 2, []),
  (26, .ireturn, 1, []),
  (27, .aload_n 0, 1, []),
  (28, .getfield 12, 3, [6, 0, 0, 2022]),
  (31, .getfield 74, 3, [2, 1, 1, 1035]),
  (34, .iload_n 1, 1, []),
  (35, .iaload, 1, []),
  (36, .istore_n 3, 1, []),
  (37, .iload_n 3, 1, []),
  (38, .istore 4, 2, []),
  (40, .iconst 0, 1, []),
  (41, .istore 5, 2, []),
  (43, .iload 5, 2, []),
  (45, .bipush 7, 2, []),
  (47, .if_icmp .ge 37, 3, []),
  (50, .iload 4, 2, []),
  (52, .ifCond .lt 32, 3, []),
  (55, .iload 4, 2, []),
  (57, .bipush 7, 2, []),
  (59, .if_icmp .ge 25, 3, []),
  (62, .iload 4, 2, []),
  (64, .iload_n 2, 1, []),
  (65, .if_icmp .ne 5, 3, []),
  (68, .iload_n 3, 1, []),
  (69, .ireturn, 1, []),
  (70, .getstatic 233, 3, [0, 0, 4081]),
  (73, .iload 4, 2, []),
  (75, .iaload, 1, []),
  (76, .istore 4, 2, []),
  (78, .iinc 5 1, 3, []),
  (81, .goto (-38), 3, []),
  (84, .bipush (-12), 2, []),
  (86, .ireturn, 1, [])]
def c_94 : List En := [
  (0, .iload_n 1, 1, []),
  (1, .tableswitch 72 0 4 #[35, 43, 48, 56, 64], 35, []),
  (36, .aload_n 0, 1, []),
  (37, .getfield 12, 3, [6, 0, 0, 2022]),
  (40, .getfield 200, 3, [2, 0, 1, 1033]),
  (43, .ireturn, 1, []),
  (44, .aload_n 0, 1, []),
  (45, .getfield 110, 3, [6, 6, 0, 2028]),
  (48, .ireturn, 1, []),
  (49, .aload_n 0, 1, []),
  (50, .getfield 12, 3, [6, 0, 0, 2022]),
  (53, .getfield 188, 3, [2, 11, 1, 1063]),
  (56, .ireturn, 1, []),
  (57, .aload_n 0, 1, []),
  (58, .getfield 42, 3, [6, 7, 0, 2029]),
  (61, .getfield 107, 3, [4, 1, 1, 1199]),
  (64, .ireturn, 1, []),
  (65, .aload_n 0, 1, []),
  (66, .getfield 49, 3, [6, 8, 0, 2030]),
  (69, .getfield 216, 3, [0, 4, 1, 1226]),
  (72, .ireturn, 1, []),
  (73, .bipush (-2), 2, []),
  (75, .ireturn, 1, [])]
def c_95 : List En := [
  (0, .aload_n 0, 1, []),
  (1, .getfield 56, 3, [6, 9, 0, 2031]),
  (4, .iload_n 1, 1, []),
  (5, .invokevirtual 194, 3, [35, 2, 0, 1, 4034, 4036, 48]),
  (8, .ifCond .ne 5, 3, []),
  (11, .iconst (-1), 1, []),
  (12, .ireturn, 1, []),
  (13, .iload_n 2, 1, []),
  (14, .iconst (-1), 1, []),
  (15, .if_icmp .ne 15, 3, []),
  (18, .aload_n 0, 1, []),
  (19, .getfield 56, 3, [6, 9, 0, 2031]),
  (22, .iload_n 1, 1, []),
  (23, .iload_n 2, 1, []),
  (24, .iconst 0, 1, []),
  (25, .invokevirtual 236, 3, [38, 4, 0, 1, 4090, 4092, 52]),
  (28, .iconst 1, 1, []),
  (29, .ireturn, 1, []),
  (30, .iload_n 2, 1, []),
  (31, .ifCond .lt 14, 3, []),
  (34, .iload_n 2, 1, []),
  (35, .iconst 4, 1, []),
  (36, .if_icmp .gt 9, 3, []),
  (39, .iload_n 3, 1, []),
  (40, .bipush 60, 2, []),
  (42, .if_icmp .le 6, 3, []),
  (45, .bipush (-2), 2, []),
  (47, .ireturn, 1, []),
  (48, .iload_n 3, 1, []),
  (49, .ifCond .ge 6, 3, []),
  (52, .bipush (-14), 2, []),
  (54, .ireturn, 1, []),
  (55, .aload_n 0, 1, []),
  (56, .getfield 56, 3, [6, 9, 0, 2031]),
  (59, .iload_n 1, 1, []),
  (60, .iload_n 2, 1, []),
  (61, .iload_n 3, 1, []),
  (62, .invokevirtual 236, 3, [38, 4, 0, 1, 4090, 4092, 52]),
  (65, .iconst 1, 1, []),
  (66, .ireturn, 1, [])]
def c_96 : List En := [
  (0, .aload_n 0, 1, []),
  (1, .getfield 56, 3, [6, 9, 0, 2031]),
  (4, .iload_n 1, 1, []),
  (5, .invokevirtual 194, 3, [35, 2, 0, 1, 4034, 4036, 48]),
  (8, .ifCond .ne 5, 3, []),
  (11, .iconst (-1), 1, []),
  (12, .ireturn, 1, []),
  (13, .aload_n 0, 1, []),
  (14, .getfield 56, 3, [6, 9, 0, 2031]),
  (17, .getfield 197, 3, [3, 0, 1, 2010]),
  (20, .iload_n 1, 1, []),
  (21, .iaload, 1, []),
  (22, .iconst (-1), 1, []),
  (23, .if_icmp .ne 6, 3, []),
  (26, .bipush (-11), 2, []),
  (28, .ireturn, 1, []),
  (29, .aload_n 0, 1, []),
  (30, .getfield 56, 3, [6, 9, 0, 2031]),
  (33, .iload_n 1, 1, []),
  (34, .iload_n 2, 1, []),
  (35, .i2l, 1, []),
  (36, .invokevirtual 201, 3, [36, 3, 0, 1, 4038, 4040, 49]),
  (39, .ifCond .ne 6, 3, []),
  (42, .bipush (-13), 2, []),
  (44, .ireturn, 1, []),
  (45, .aload_n 0, 1, []),
  (46, .getfield 56, 3, [6, 9, 0, 2031]),
  (49, .getfield 205, 3, [3, 2, 1, 2013]),
  (52, .iload_n 1, 1, []),
  (53, .aaload, 1, []),
  (54, .iload_n 2, 1, []),
  (55, .aload_n 0, 1, []),
  (56, .getfield 56, 3, [6, 9, 0, 2031]),
  (59, .getfield 197, 3, [3, 0, 1, 2010]),
  (62, .iload_n 1, 1, []),
  (63, .iaload, 1, []),
  (64, .lload_n 3, 1, []),
  (65, .invokestatic 239, 3, [39, 2, 2, 1, 4101, 4102, 0]),
  (68, .lastore, 1, []),
  (69, .iconst 1, 1, []),
  (70, .ireturn, 1, [])]
def c_97 : List En := [
  (0, .aload_n 0, 1, []),
  (1, .getfield 56, 3, [6, 9, 0, 2031]),
  (4, .iload_n 1, 1, []),
  (5, .invokevirtual 194, 3, [35, 2, 0, 1, 4034, 4036, 48]),
  (8, .ifCond .eq 30, 3, []),
  (11, .aload_n 0, 1, []),
  (12, .getfield 56, 3, [6, 9, 0, 2031]),
  (15, .iload_n 1, 1, []),
  (16, .iload_n 2, 1, []),
  (17, .i2l, 1, []),
  (18, .invokevirtual 201, 3, [36, 3, 0, 1, 4038, 4040, 49]),
  (21, .ifCond .eq 17, 3, []),
  (24, .aload_n 0, 1, []),
  (25, .getfield 56, 3, [6, 9, 0, 2031]),
  (28, .getfield 205, 3, [3, 2, 1, 2013]),
  (31, .iload_n 1, 1, []),
  (32, .aaload, 1, []),
  (33, .iload_n 2, 1, []),
  (34, .laload, 1, []),
  (35, .goto 6, 3, []),
  (38, .ldc2_w 182, 3, [9223372036854775808, 4014]),
  (41, .lreturn, 1, [])]
def c_98 : List En := [
  (0, .aload_n 0, 1, []),
  (1, .getfield 56, 3, [6, 9, 0, 2031]),
  (4, .iload_n 1, 1, []),
  (5, .invokevirtual 194, 3, [35, 2, 0, 1, 4034, 4036, 48]),
  (8, .ifCond .eq 14, 3, []),
  (11, .aload_n 0, 1, []),
  (12, .getfield 56, 3, [6, 9, 0, 2031]),
  (15, .iload_n 3, 1, []),
  (16, .invokevirtual 194, 3, [35, 2, 0, 1, 4034, 4036, 48]),
  (19, .ifCond .ne 5, 3, []),
  (22, .iconst (-1), 1, []),
  (23, .ireturn, 1, []),
  (24, .aload_n 0, 1, []),
  (25, .getfield 56, 3, [6, 9, 0, 2031]),
  (28, .getfield 197, 3, [3, 0, 1, 2010]),
  (31, .iload_n 1, 1, []),
  (32, .iaload, 1, []),
  (33, .iconst (-1), 1, []),
  (34, .if_icmp .eq 16, 3, []),
  (37, .aload_n 0, 1, []),
  (38, .getfield 56, 3, [6, 9, 0, 2031]),
  (41, .getfield 197, 3, [3, 0, 1, 2010]),
  (44, .iload_n 3, 1, []),
  (45, .iaload, 1, []),
  (46, .iconst (-1), 1, []),
  (47, .if_icmp .ne 6, 3, []),
  (50, .bipush (-11), 2, []),
  (52, .ireturn, 1, []),
  (53, .aload_n 0, 1, []),
  (54, .getfield 56, 3, [6, 9, 0, 2031]),
  (57, .getfield 197, 3, [3, 0, 1, 2010]),
  (60, .iload_n 1, 1, []),
  (61, .iaload, 1, []),
  (62, .aload_n 0, 1, []),
  (63, .getfield 56, 3, [6, 9, 0, 2031]),
  (66, .getfield 197, 3, [3, 0, 1, 2010]),
  (69, .iload_n 3, 1, []),
  (70, .iaload, 1, []),
  (71, .if_icmp .eq 6, 3, []),
  (74, .bipush (-12), 2, []),
  (76, .ireturn, 1, []),
  (77, .aload_n 0, 1, []),
  (78, .getfield 56, 3, [6, 9, 0, 2031]),
  (81, .iload_n 1, 1, []),
  (82, .iload_n 2, 1, []),
  (83, .iload 5, 2, []),
  (85, .invokevirtual 243, 3, [37, 4, 0, 1, 4112, 4114, 53]),
  (88, .ifCond .eq 18, 3, []),
  (91, .aload_n 0, 1, []),
  (92, .getfield 56, 3, [6, 9, 0, 2031]),
  (95, .iload_n 3, 1, []),
  (96, .iload 4, 2, []),
  (98, .iload 5, 2, []),
  (100, .invokevirtual 243, 3, [37, 4, 0, 1, 4112, 4114, 53]),
  (103, .ifCond .ne 6, 3, []),
  (106, .bipush (-13), 2, []),
  (108, .ireturn, 1, []),
  (109, .aload_n 0, 1, []),
  (110, .getfield 56, 3, [6, 9, 0, 2031]),
  (113, .getfield 205, 3, [3, 2, 1, 2013]),
  (116, .iload_n 1, 1, []),
  (117, .aaload, 1, []),
  (118, .iload_n 2, 1, []),
  (119, .aload_n 0, 1, []),
  (120, .getfield 56, 3, [6, 9, 0, 2031]),
  (123, .getfield 205, 3, [3, 2, 1, 2013]),
  (126, .iload_n 3, 1, []),
  (127, .aaload, 1, []),
  (128, .iload 4, 2, []),
  (130, .iload 5, 2, []),
  (132, .invokestatic 247, 3, [9998, 5, 2, 0, 4116]),
  (135, .iload 5, 2, []),
  (137, .ireturn, 1, [])]
def c_99 : List En := [
  (0, .aload_n 0, 1, []),
  (1, .invokevirtual 127, 3, [100, 1, 0, 0, 2086, 2088, 4]),
  (4, .aload_n 0, 1, []),
  (5, .getfield 24, 3, [6, 3, 0, 2025]),
  (8, .invokevirtual 130, 3, [10, 1, 0, 1, 2101, 2103, 7]),
  (11, .pop, 1, []),
  (12, .aload_n 0, 1, []),
  (13, .getfield 12, 3, [6, 0, 0, 2022]),
  (16, .iload_n 1, 1, []),
  (17, .invokevirtual 90, 3, [27, 2, 0, 1, 2075, 2077, 2]),
  (20, .ifCond .eq 42, 3, []),
  (23, .iload_n 2, 1, []),
  (24, .bipush 7, 2, []),
  (26, .if_icmp .ne 15, 3, []),
  (29, .aload_n 0, 1, []),
  (30, .getfield 24, 3, [6, 3, 0, 2025]),
  (33, .getfield 253, 3, [1, 4, 1, 1133]),
  (36, .iload_n 1, 1, []),
  (37, .iaload, 1, []),
  (38, .goto 23, 3, []),
  (41, .iload_n 2, 1, []),
  (42, .bipush 8, 2, []),
  (44, .if_icmp .ne 15, 3, []),
  (47, .aload_n 0, 1, []),
  (48, .getfield 24, 3, [6, 3, 0, 2025]),
  (51, .getfield 256, 3, [1, 5, 1, 1135]),
  (54, .iload_n 1, 1, []),
  (55, .iaload, 1, []),
  (56, .goto 5, 3, []),
  (59, .bipush (-5), 2, []),
  (61, .ireturn, 1, []),
  (62, .iload_n 2, 1, []),
  (63, .bipush 6, 2, []),
  (65, .if_icmp .ne 15, 3, []),
  (68, .aload_n 0, 1, []),
  (69, .getfield 24, 3, [6, 3, 0, 2025]),
  (72, .getfield 259, 3, [1, 6, 1, 1137]),
  (75, .iload_n 1, 1, []),
  (76, .iaload, 1, []),
  (77, .goto 23, 3, []),
  (80, .iload_n 2, 1, []),
  (81, .bipush 9, 2, []),
  (83, .if_icmp .ne 15, 3, []),
  (86, .aload_n 0, 1, []),
  (87, .getfield 24, 3, [6, 3, 0, 2025]),
  (90, .getfield 262, 3, [1, 7, 1, 1139]),
  (93, .iload_n 1, 1, []),
  (94, .iaload, 1, []),
  (95, .goto 5, 3, []),
  (98, .bipush (-5), 2, []),
  (100, .ireturn, 1, [])]
def c_100 : List En := [
  (0, .aload_n 0, 1, []),
  (1, .getfield 12, 3, [6, 0, 0, 2022]),
  (4, .getfield 117, 3, [2, 12, 1, 1065]),
  (7, .istore_n 1, 1, []),
  (8, .aload_n 0, 1, []),
  (9, .getfield 24, 3, [6, 3, 0, 2025]),
  (12, .aload_n 0, 1, []),
  (13, .getfield 12, 3, [6, 0, 0, 2022]),
  (16, .iload_n 1, 1, []),
  (17, .ifCond .lt 18, 3, []),
  (20, .iload_n 1, 1, []),
  (21, .bipush 6, 2, []),
  (23, .if_icmp .ge 12, 3, []),
  (26, .aload_n 0, 1, []),
  (27, .getfield 30, 3, [6, 4, 0, 2026]),
  (30, .iload_n 1, 1, []),
  (31, .aaload, 1, []),
  (32, .goto 7, 3, []),
  (35, .aload_n 0, 1, []),
  (36, .getfield 35, 3, [6, 5, 0, 2027]),
  (39, .invokevirtual 265, 3, [6, 3, 0, 1, 2090, 2092, 5]),
  (42, .return_, 1, [])]
def c_101 : List En := [
  (0, .aload_n 0, 1, []),
  (1, .invokevirtual 127, 3, [100, 1, 0, 0, 2086, 2088, 4]),
  (4, .aload_n 0, 1, []),
  (5, .getfield 24, 3, [6, 3, 0, 2025]),
  (8, .getfield 142, 3, [1, 0, 1, 1128]),
  (11, .getfield 81, 3, [2, 3, 1, 1041]),
  (14, .iload_n 1, 1, []),
  (15, .iload_n 2, 1, []),
  (16, .iastore, 1, []),
  (17, .aload_n 0, 1, []),
  (18, .getfield 24, 3, [6, 3, 0, 2025]),
  (21, .invokevirtual 130, 3, [10, 1, 0, 1, 2101, 2103, 7]),
  (24, .ireturn, 1, [])]
def c_102 : List En := [
  (0, .iload_n 0, 1, []),
  (1, .ifCond .lt 13, 3, []),
  (4, .iload_n 0, 1, []),
  (5, .bipush 9, 2, []),
  (7, .if_icmp .gt 7, 3, []),
  (10, .iconst 1, 1, []),
  (11, .goto 4, 3, []),
  (14, .iconst 0, 1, []),
  (15, .ireturn, 1, [])]
def c_103 : List En := [
  (0, .iload_n 0, 1, []),
  (1, .ifCond .lt 13, 3, []),
  (4, .iload_n 0, 1, []),
  (5, .bipush 7, 2, []),
  (7, .if_icmp .ge 7, 3, []),
  (10, .iconst 1, 1, []),
  (11, .goto 4, 3, []),
  (14, .iconst 0, 1, []),
  (15, .ireturn, 1, [])]
def c_104 : List En := [
  (0, .iload_n 0, 1, []),
  (1, .iload_n 1, 1, []),
  (2, .ishr, 1, []),
  (3, .iconst 1, 1, []),
  (4, .iand, 1, []),
  (5, .iconst 1, 1, []),
  (6, .if_icmp .ne 7, 3, []),
  (9, .iconst 1, 1, []),
  (10, .goto 4, 3, []),
  (13, .iconst 0, 1, []),
  (14, .ireturn, 1, [])]
def c_105 : List En := [
  (0, .iconst 0, 1, []),
  (1, .istore_n 1, 1, []),
  (2, .iload_n 1, 1, []),
  (3, .bipush 7, 2, []),
  (5, .if_icmp .ge 19, 3, []),
  (8, .iload_n 0, 1, []),
  (9, .iload_n 1, 1, []),
  (10, .invokestatic 148, 3, [104, 2, 2, 0, 3185, 2080, 0]),
  (13, .ifCond .eq 5, 3, []),
  (16, .iload_n 1, 1, []),
  (17, .ireturn, 1, []),
  (18, .iinc 1 1, 3, []),
  (21, .goto (-19), 3, []),
  (24, .bipush (-5), 2, []),
  (26, .ireturn, 1, [])]
def c_106 : List En := [
  (0, .iconst 1, 1, []),
  (1, .istore_n 1, 1, []),
  (2, .iconst 0, 1, []),
  (3, .istore_n 2, 1, []),
  (4, .iload_n 2, 1, []),
  (5, .iload_n 0, 1, []),
  (6, .if_icmp .ge 14, 3, []),
  (9, .iload_n 1, 1, []),
  (10, .bipush 7, 2, []),
  (12, .imul, 1, []),
  (13, .istore_n 1, 1, []),
  (14, .iinc 2 1, 3, []),
  (17, .goto (-13), 3, []),
  (20, .iload_n 1, 1, []),
  (21, .ireturn, 1, [])]
def c_107 : List En := [
  (0, .iload_n 1, 1, []),
  (1, .istore_n 3, 1, []),
  (2, .iload_n 0, 1, []),
  (3, .istore 4, 2, []),
  (5, .iconst 0, 1, []),
  (6, .istore 5, 2, []),
  (8, .iload 5, 2, []),
  (10, .bipush 64, 2, []),
  (12, .if_icmp .ge 27, 3, []),
  (15, .iload 4, 2, []),
  (17, .ifCond .eq 22, 3, []),
  (20, .iload_n 3, 1, []),
  (21, .iload 4, 2, []),
  (23, .irem, 1, []),
  (24, .istore 6, 2, []),
  (26, .iload 4, 2, []),
  (28, .istore_n 3, 1, []),
  (29, .iload 6, 2, []),
  (31, .istore 4, 2, []),
  (33, .iinc 5 1, 3, []),
  (36, .goto (-28), 3, []),
  (39, .iload_n 3, 1, []),
  (40, .ifCond .ne 7, 3, []),
  (43, .ldc2_w 182, 3, [9223372036854775808, 4014]),
  (46, .lreturn, 1, []),
  (47, .iload_n 2, 1, []),
  (48, .ifCond .ne 10, 3, []),
  (51, .iload_n 0, 1, []),
  (52, .iload_n 3, 1, []),
  (53, .idiv, 1, []),
  (54, .i2l, 1, []),
  (55, .goto 7, 3, []),
  (58, .iload_n 1, 1, []),
  (59, .iload_n 3, 1, []),
  (60, .idiv, 1, []),
  (61, .i2l, 1, []),
  (62, .lreturn, 1, [])]
def c_108 : List En := [
  (0, .aload_n 0, 1, []),
  (1, .invokespecial 1, 3, [9999, 1, 1, 0, 4122]),
  (4, .aload_n 0, 1, []),
  (5, .iconst 0, 1, []),
  (6, .putfield 7, 3, [7, 0, 0, 4123]),
  (9, .aload_n 0, 1, []),
  (10, .iconst 0, 1, []),
  (11, .putfield 13, 3, [7, 1, 0, 4124]),
  (14, .aload_n 0, 1, []),
  (15, .iconst 0, 1, []),
  (16, .putfield 16, 3, [7, 2, 0, 4125]),
  (19, .aload_n 0, 1, []),
  (20, .bipush 7, 2, []),
  (22, .newarray .int, 2, []),
  (24, .putfield 19, 3, [7, 3, 0, 4126]),
  (27, .aload_n 0, 1, []),
  (28, .bipush 7, 2, []),
  (30, .newarray .int, 2, []),
  (32, .putfield 23, 3, [7, 4, 0, 4127]),
  (35, .aload_n 0, 1, []),
  (36, .bipush 7, 2, []),
  (38, .newarray .int, 2, []),
  (40, .putfield 26, 3, [7, 5, 0, 4128]),
  (43, .aload_n 0, 1, []),
  (44, .bipush 7, 2, []),
  (46, .newarray .int, 2, []),
  (48, .putfield 29, 3, [7, 6, 0, 4129]),
  (51, .aload_n 0, 1, []),
  (52, .bipush 7, 2, []),
  (54, .newarray .int, 2, []),
  (56, .putfield 32, 3, [7, 7, 0, 4130]),
  (59, .aload_n 0, 1, []),
  (60, .bipush 28, 2, []),
  (62, .newarray .int, 2, []),
  (64, .putfield 35, 3, [7, 8, 0, 4131]),
  (67, .aload_n 0, 1, []),
  (68, .iconst 0, 1, []),
  (69, .putfield 38, 3, [7, 9, 0, 4132]),
  (72, .aload_n 0, 1, []),
  (73, .iconst (-1), 1, []),
  (74, .putfield 41, 3, [7, 10, 0, 4133]),
  (77, .aload_n 0, 1, []),
  (78, .iconst 0, 1, []),
  (79, .putfield 44, 3, [7, 11, 0, 4134]),
  (82, .aload_n 0, 1, []),
  (83, .iconst 0, 1, []),
  (84, .putfield 47, 3, [7, 12, 0, 4135]),
  (87, .aload_n 0, 1, []),
  (88, .iconst 0, 1, []),
  (89, .putfield 50, 3, [7, 13, 0, 4136]),
  (92, .aload_n 0, 1, []),
  (93, .bipush 100, 2, []),
  (95, .newarray .int, 2, []),
  (97, .putfield 53, 3, [7, 14, 0, 4137]),
  (100, .aload_n 0, 1, []),
  (101, .bipush 6, 2, []),
  (103, .newarray .int, 2, []),
  (105, .putfield 56, 3, [7, 15, 0, 4138]),
  (108, .aload_n 0, 1, []),
  (109, .bipush 60, 2, []),
  (111, .newarray .int, 2, []),
  (113, .putfield 59, 3, [7, 16, 0, 4139]),
  (116, .aload_n 0, 1, []),
  (117, .bipush 60, 2, []),
  (119, .newarray .int, 2, []),
  (121, .putfield 62, 3, [7, 17, 0, 4140]),
  (124, .aload_n 0, 1, []),
  (125, .bipush 60, 2, []),
  (127, .newarray .int, 2, []),
  (129, .putfield 65, 3, [7, 18, 0, 4141]),
  (132, .aload_n 0, 1, []),
  (133, .bipush 60, 2, []),
  (135, .newarray .int, 2, []),
  (137, .putfield 68, 3, [7, 19, 0, 4142]),
  (140, .aload_n 0, 1, []),
  (141, .sipush 600, 3, []),
  (144, .newarray .int, 2, []),
  (146, .putfield 71, 3, [7, 20, 0, 4143]),
  (149, .aload_n 0, 1, []),
  (150, .bipush 101, 2, []),
  (152, .newarray .int, 2, []),
  (154, .putfield 74, 3, [7, 21, 0, 4144]),
  (157, .aload_n 0, 1, []),
  (158, .iconst 0, 1, []),
  (159, .putfield 77, 3, [7, 22, 0, 4145]),
  (162, .aload_n 0, 1, []),
  (163, .iconst 0, 1, []),
  (164, .putfield 80, 3, [7, 23, 0, 4146]),
  (167, .aload_n 0, 1, []),
  (168, .iconst 0, 1, []),
  (169, .putfield 83, 3, [7, 24, 0, 4147]),
  (172, .aload_n 0, 1, []),
  (173, .bipush 14, 2, []),
  (175, .newarray .int, 2, []),
  (177, .dup, 1, []),
  (178, .iconst 0, 1, []),
  (179, .bipush 114, 2, []),
  (181, .iastore, 1, []),
  (182, .dup, 1, []),
  (183, .iconst 1, 1, []),
  (184, .bipush 101, 2, []),
  (186, .iastore, 1, []),
  (187, .dup, 1, []),
  (188, .iconst 2, 1, []),
  (189, .bipush 97, 2, []),
  (191, .iastore, 1, []),
  (192, .dup, 1, []),
  (193, .iconst 3, 1, []),
  (194, .bipush 99, 2, []),
  (196, .iastore, 1, []),
  (197, .dup, 1, []),
  (198, .iconst 4, 1, []),
  (199, .bipush 104, 2, []),
  (201, .iastore, 1, []),
  (202, .dup, 1, []),
  (203, .iconst 5, 1, []),
  (204, .bipush 104, 2, []),
  (206, .iastore, 1, []),
  (207, .dup, 1, []),
  (208, .bipush 6, 2, []),
  (210, .bipush 111, 2, []),
  (212, .iastore, 1, []),
  (213, .dup, 1, []),
  (214, .bipush 7, 2, []),
  (216, .bipush 108, 2, []),
  (218, .iastore, 1, []),
  (219, .dup, 1, []),
  (220, .bipush 8, 2, []),
  (222, .bipush 100, 2, []),
  (224, .iastore, 1, []),
  (225, .dup, 1, []),
  (226, .bipush 9, 2, []),
  (228, .bipush 100, 2, []),
  (230, .iastore, 1, []),
  (231, .dup, 1, []),
  (232, .bipush 10, 2, []),
  (234, .bipush 111, 2, []),
  (236, .iastore, 1, []),
  (237, .dup, 1, []),
  (238, .bipush 11, 2, []),
  (240, .bipush 100, 2, []),
  (242, .iastore, 1, []),
  (243, .dup, 1, []),
  (244, .bipush 12, 2, []),
  (246, .bipush 103, 2, []),
  (248, .iastore, 1, []),
  (249, .dup, 1, []),
  (250, .bipush 13, 2, []),
  (252, .bipush 101, 2, []),
  (254, .iastore, 1, []),
  (255, .putfield 86, 3, [7, 25, 0, 4148]),
  (258, .aload_n 0, 1, []),
  (259, .bipush 100, 2, []),
  (261, .newarray .boolean, 2, []),
  (263, .putfield 89, 3, [7, 26, 0, 4149]),
  (266, .aload_n 0, 1, []),
  (267, .iconst 0, 1, []),
  (268, .putfield 93, 3, [7, 27, 0, 4150]),
  (271, .aload_n 0, 1, []),
  (272, .iconst (-1), 1, []),
  (273, .putfield 97, 3, [7, 28, 0, 4151]),
  (276, .aload_n 0, 1, []),
  (277, .iconst 0, 1, []),
  (278, .putfield 100, 3, [7, 29, 0, 4152]),
  (281, .aload_n 0, 1, []),
  (282, .iconst (-1), 1, []),
  (283, .putfield 103, 3, [7, 30, 0, 4153]),
  (286, .aload_n 0, 1, []),
  (287, .iconst (-1), 1, []),
  (288, .putfield 106, 3, [7, 31, 0, 4154]),
  (291, .aload_n 0, 1, []),
  (292, .iconst 0, 1, []),
  (293, .putfield 109, 3, [7, 32, 0, 4155]),
  (296, .aload_n 0, 1, []),
  (297, .bipush 7, 2, []),
  (299, .newarray .int, 2, []),
  (301, .putfield 112, 3, [7, 33, 0, 4156]),
  (304, .aload_n 0, 1, []),
  (305, .iconst 0, 1, []),
  (306, .putfield 115, 3, [7, 34, 0, 4157]),
  (309, .aload_n 0, 1, []),
  (310, .iconst (-1), 1, []),
  (311, .putfield 118, 3, [7, 35, 0, 4158]),
  (314, .aload_n 0, 1, []),
  (315, .iconst 0, 1, []),
  (316, .putfield 121, 3, [7, 36, 0, 4159]),
  (319, .aload_n 0, 1, []),
  (320, .iconst 0, 1, []),
  (321, .putfield 124, 3, [7, 37, 0, 4160]),
  (324, .aload_n 0, 1, []),
  (325, .iconst 3, 1, []),
  (326, .newarray .int, 2, []),
  (328, .putfield 127, 3, [7, 38, 0, 4161]),
  (331, .aload_n 0, 1, []),
  (332, .iconst 3, 1, []),
  (333, .newarray .int, 2, []),
  (335, .putfield 130, 3, [7, 39, 0, 4162]),
  (338, .aload_n 0, 1, []),
  (339, .bipush 7, 2, []),
  (341, .newarray .int, 2, []),
  (343, .putfield 133, 3, [7, 40, 0, 4163]),
  (346, .aload_n 0, 1, []),
  (347, .iconst 0, 1, []),
  (348, .putfield 136, 3, [7, 41, 0, 4164]),
  (351, .aload_n 0, 1, []),
  (352, .iconst 0, 1, []),
  (353, .putfield 139, 3, [7, 42, 0, 4165]),
  (356, .aload_n 0, 1, []),
  (357, .bipush 12, 2, []),
  (359, .newarray .int, 2, []),
  (361, .putfield 142, 3, [7, 43, 0, 4166]),
  (364, .aload_n 0, 1, []),
  (365, .iconst 0, 1, []),
  (366, .putfield 145, 3, [7, 44, 0, 4167]),
  (369, .aload_n 0, 1, []),
  (370, .iconst (-1), 1, []),
  (371, .putfield 148, 3, [7, 45, 0, 4168]),
  (374, .aload_n 0, 1, []),
  (375, .iconst 0, 1, []),
  (376, .putfield 151, 3, [7, 46, 0, 4169]),
  (379, .aload_n 0, 1, []),
  (380, .iconst 0, 1, []),
  (381, .putfield 154, 3, [7, 47, 0, 4170]),
  (384, .aload_n 0, 1, []),
  (385, .iconst 0, 1, []),
  (386, .putfield 157, 3, [7, 48, 0, 4171]),
  (389, .aload_n 0, 1, []),
  (390, .iconst 0, 1, []),
  (391, .putfield 160, 3, [7, 49, 0, 4172]),
  (394, .aload_n 0, 1, []),
  (395, .iconst 0, 1, []),
  (396, .putfield 163, 3, [7, 50, 0, 4173]),
  (399, .aload_n 0, 1, []),
  (400, .bipush 7, 2, []),
  (402, .newarray .int, 2, []),
  (404, .putfield 166, 3, [7, 51, 0, 4174]),
  (407, .aload_n 0, 1, []),
  (408, .bipush 7, 2, []),
  (410, .newarray .int, 2, []),
  (412, .putfield 169, 3, [7, 52, 0, 4175]),
  (415, .aload_n 0, 1, []),
  (416, .bipush 7, 2, []),
  (418, .newarray .int, 2, []),
  (420, .putfield 172, 3, [7, 53, 0, 4176]),
  (423, .aload_n 0, 1, []),
  (424, .bipush 7, 2, []),
  (426, .newarray .int, 2, []),
  (428, .putfield 175, 3, [7, 54, 0, 4177]),
  (431, .aload_n 0, 1, []),
  (432, .bipush 7, 2, []),
  (434, .newarray .int, 2, []),
  (436, .putfield 178, 3, [7, 55, 0, 4178]),
  (439, .aload_n 0, 1, []),
  (440, .bipush 28, 2, []),
  (442, .newarray .int, 2, []),
  (444, .putfield 181, 3, [7, 56, 0, 4179]),
  (447, .aload_n 0, 1, []),
  (448, .bipush 12, 2, []),
  (450, .newarray .int, 2, []),
  (452, .putfield 184, 3, [7, 57, 0, 4180]),
  (455, .aload_n 0, 1, []),
  (456, .iconst 0, 1, []),
  (457, .putfield 187, 3, [7, 58, 0, 4181]),
  (460, .aload_n 0, 1, []),
  (461, .bipush 20, 2, []),
  (463, .newarray .int, 2, []),
  (465, .putfield 190, 3, [7, 59, 0, 4182]),
  (468, .aload_n 0, 1, []),
  (469, .bipush 6, 2, []),
  (471, .newarray .int, 2, []),
  (473, .dup, 1, []),
  (474, .iconst 0, 1, []),
  (475, .iconst (-1), 1, []),
  (476, .iastore, 1, []),
  (477, .dup, 1, []),
  (478, .iconst 1, 1, []),
  (479, .iconst (-1), 1, []),
  (480, .iastore, 1, []),
  (481, .dup, 1, []),
  (482, .iconst 2, 1, []),
  (483, .iconst (-1), 1, []),
  (484, .iastore, 1, []),
  (485, .dup, 1, []),
  (486, .iconst 3, 1, []),
  (487, .iconst (-1), 1, []),
  (488, .iastore, 1, []),
  (489, .dup, 1, []),
  (490, .iconst 4, 1, []),
  (491, .iconst (-1), 1, []),
  (492, .iastore, 1, []),
  (493, .dup, 1, []),
  (494, .iconst 5, 1, []),
  (495, .iconst (-1), 1, []),
  (496, .iastore, 1, []),
  (497, .putfield 193, 3, [7, 60, 0, 4183]),
  (500, .aload_n 0, 1, []),
  (501, .bipush 6, 2, []),
  (503, .newarray .int, 2, []),
  (505, .putfield 196, 3, [7, 61, 0, 4184]),
  (508, .aload_n 0, 1, []),
  (509, .sipush 360, 3, []),
  (512, .newarray .long, 2, []),
  (514, .putfield 199, 3, [7, 62, 0, 4185]),
  (517, .aload_n 0, 1, []),
  (518, .bipush 60, 2, []),
  (520, .newarray .long, 2, []),
  (522, .putfield 203, 3, [7, 63, 0, 4186]),
  (525, .return_, 1, [])]
def c_109 : List En := [
  (0, .iload_n 1, 1, []),
  (1, .iload_n 2, 1, []),
  (2, .if_icmp .lt 12, 3, []),
  (5, .iload_n 1, 1, []),
  (6, .iload_n 3, 1, []),
  (7, .if_icmp .gt 7, 3, []),
  (10, .iconst 1, 1, []),
  (11, .goto 4, 3, []),
  (14, .iconst 0, 1, []),
  (15, .ireturn, 1, [])]
def c_110 : List En := [
  (0, .iload_n 1, 1, []),
  (1, .iload_n 2, 1, []),
  (2, .ishr, 1, []),
  (3, .iconst 1, 1, []),
  (4, .iand, 1, []),
  (5, .iconst 1, 1, []),
  (6, .if_icmp .ne 7, 3, []),
  (9, .iconst 1, 1, []),
  (10, .goto 4, 3, []),
  (13, .iconst 0, 1, []),
  (14, .ireturn, 1, [])]
def c_111 : List En := [
  (0, .iconst 0, 1, []),
  (1, .istore_n 2, 1, []),
  (2, .iload_n 1, 1, []),
  (3, .istore_n 3, 1, []),
  (4, .iload_n 3, 1, []),
  (5, .ifCond .eq 15, 3, []),
  (8, .iinc 2 1, 3, []),
  (11, .iload_n 3, 1, []),
  (12, .iload_n 3, 1, []),
  (13, .iconst 1, 1, []),
  (14, .isub, 1, []),
  (15, .iand, 1, []),
  (16, .istore_n 3, 1, []),
  (17, .goto (-13), 3, []),
  (20, .iload_n 2, 1, []),
  (21, .ireturn, 1, [])]
def c_112 : List En := [
  (0, .aload_n 0, 1, []),
  (1, .iload_n 1, 1, []),
  (2, .iconst 0, 1, []),
  (3, .aload_n 0, 1, []),
  (4, .getfield 7, 3, [7, 0, 0, 4123]),
  (7, .iconst 1, 1, []),
  (8, .isub, 1, []),
  (9, .invokevirtual 206, 3, [109, 4, 0, 0, 5081, 5083, 54]),
  (12, .ireturn, 1, [])]
def c_113 : List En := [
  (0, .iconst 1, 1, []),
  (1, .aload_n 0, 1, []),
  (2, .getfield 7, 3, [7, 0, 0, 4123]),
  (5, .ishl, 1, []),
  (6, .iconst 1, 1, []),
  (7, .isub, 1, []),
  (8, .ireturn, 1, [])]
def c_114 : List En := [
  (0, .aload_n 0, 1, []),
  (1, .iload_n 1, 1, []),
  (2, .iconst 0, 1, []),
  (3, .bipush 6, 2, []),
  (5, .invokevirtual 206, 3, [109, 4, 0, 0, 5081, 5083, 54]),
  (8, .ifCond .ne 5, 3, []),
  (11, .iconst (-1), 1, []),
  (12, .ireturn, 1, []),
  (13, .aload_n 0, 1, []),
  (14, .iload_n 2, 1, []),
  (15, .iconst 0, 1, []),
  (16, .bipush 9, 2, []),
  (18, .invokevirtual 206, 3, [109, 4, 0, 0, 5081, 5083, 54]),
  (21, .ifCond .eq 38, 3, []),
  (24, .aload_n 0, 1, []),
  (25, .iload_n 3, 1, []),
  (26, .iconst 0, 1, []),
  (27, .bipush 6, 2, []),
  (29, .invokevirtual 206, 3, [109, 4, 0, 0, 5081, 5083, 54]),
  (32, .ifCond .eq 27, 3, []),
  (35, .aload_n 0, 1, []),
  (36, .iload 4, 2, []),
  (38, .iconst 0, 1, []),
  (39, .bipush 9, 2, []),
  (41, .invokevirtual 206, 3, [109, 4, 0, 0, 5081, 5083, 54]),
  (44, .ifCond .eq 15, 3, []),
  (47, .aload_n 0, 1, []),
  (48, .iload 5, 2, []),
  (50, .iconst 0, 1, []),
  (51, .bipush 9, 2, []),
  (53, .invokevirtual 206, 3, [109, 4, 0, 0, 5081, 5083, 54]),
  (56, .ifCond .ne 6, 3, []),
  (59, .bipush (-2), 2, []),
  (61, .ireturn, 1, []),
  (62, .aload_n 0, 1, []),
  (63, .getfield 7, 3, [7, 0, 0, 4123]),
  (66, .bipush 7, 2, []),
  (68, .if_icmp .ne 6, 3, []),
  (71, .bipush (-4), 2, []),
  (73, .ireturn, 1, []),
  (74, .aload_n 0, 1, []),
  (75, .getfield 19, 3, [7, 3, 0, 4126]),
  (78, .aload_n 0, 1, []),
  (79, .getfield 7, 3, [7, 0, 0, 4123]),
  (82, .iload_n 1, 1, []),
  (83, .iastore, 1, []),
  (84, .aload_n 0, 1, []),
  (85, .getfield 23, 3, [7, 4, 0, 4127]),
  (88, .aload_n 0, 1, []),
  (89, .getfield 7, 3, [7, 0, 0, 4123]),
  (92, .iload_n 2, 1, []),
  (93, .iastore, 1, []),
  (94, .aload_n 0, 1, []),
  (95, .getfield 26, 3, [7, 5, 0, 4128]),
  (98, .aload_n 0, 1, []),
  (99, .getfield 7, 3, [7, 0, 0, 4123]),
  (102, .iload_n 3, 1, []),
  (103, .iastore, 1, []),
  (104, .aload_n 0, 1, []),
  (105, .getfield 29, 3, [7, 6, 0, 4129]),
  (108, .aload_n 0, 1, []),
  (109, .getfield 7, 3, [7, 0, 0, 4123]),
  (112, .iload 4, 2, []),
  (114, .iastore, 1, []),
  (115, .aload_n 0, 1, []),
  (116, .getfield 32, 3, [7, 7, 0, 4130]),
  (119, .aload_n 0, 1, []),
  (120, .getfield 7, 3, [7, 0, 0, 4123]),
  (123, .iload 5, 2, []),
  (125, .iastore, 1, []),
  (126, .iconst 0, 1, []),
  (127, .istore 6, 2, []),
  (129, .iload 6, 2, []),
  (131, .iconst 4, 1, []),
  (132, .if_icmp .ge 24, 3, []),
  (135, .aload_n 0, 1, []),
  (136, .getfield 35, 3, [7, 8, 0, 4131]),
  (139, .iconst 4, 1, []),
  (140, .aload_n 0, 1, []),
  (141, .getfield 7, 3, [7, 0, 0, 4123]),
  (144, .imul, 1, []),
  (145, .iload 6, 2, []),
  (147, .iadd, 1, []),
  (148, .iconst 0, 1, []),
  (149, .iastore, 1, []),
  (150, .iinc 6 1, 3, []),
  (153, .goto (-24), 3, []),
  (156, .aload_n 0, 1, []),
  (157, .dup, 1, []),
  (158, .getfield 16, 3, [7, 2, 0, 4125]),
  (161, .iconst 1, 1, []),
  (162, .aload_n 0, 1, []),
  (163, .getfield 7, 3, [7, 0, 0, 4123]),
  (166, .ishl, 1, []),
  (167, .iconst (-1), 1, []),
  (168, .ixor, 1, []),
  (169, .iand, 1, []),
  (170, .putfield 16, 3, [7, 2, 0, 4125]),
  (173, .aload_n 0, 1, []),
  (174, .dup, 1, []),
  (175, .getfield 7, 3, [7, 0, 0, 4123]),
  (178, .iconst 1, 1, []),
  (179, .iadd, 1, []),
  (180, .putfield 7, 3, [7, 0, 0, 4123]),
  (183, .aload_n 0, 1, []),
  (184, .getfield 7, 3, [7, 0, 0, 4123]),
  (187, .iconst 1, 1, []),
  (188, .isub, 1, []),
  (189, .ireturn, 1, [])]
def c_115 : List En := [
  (0, .aload_n 0, 1, []),
  (1, .iload_n 1, 1, []),
  (2, .invokevirtual 210, 3, [112, 2, 0, 0, 5089, 5091, 55]),
  (5, .ifCond .eq 13, 3, []),
  (8, .aload_n 0, 1, []),
  (9, .iload_n 2, 1, []),
  (10, .iconst 0, 1, []),
  (11, .iconst 1, 1, []),
  (12, .invokevirtual 206, 3, [109, 4, 0, 0, 5081, 5083, 54]),
  (15, .ifCond .ne 5, 3, []),
  (18, .iconst (-1), 1, []),
  (19, .ireturn, 1, []),
  (20, .aload_n 0, 1, []),
  (21, .iload_n 3, 1, []),
  (22, .iconst 0, 1, []),
  (23, .iload_n 2, 1, []),
  (24, .ifCond .ne 8, 3, []),
  (27, .bipush 6, 2, []),
  (29, .goto 5, 3, []),
  (32, .bipush 9, 2, []),
  (34, .invokevirtual 206, 3, [109, 4, 0, 0, 5081, 5083, 54]),
  (37, .ifCond .ne 6, 3, []),
  (40, .bipush (-2), 2, []),
  (42, .ireturn, 1, []),
  (43, .iload_n 2, 1, []),
  (44, .ifCond .ne 12, 3, []),
  (47, .aload_n 0, 1, []),
  (48, .getfield 26, 3, [7, 5, 0, 4128]),
  (51, .iload_n 1, 1, []),
  (52, .iaload, 1, []),
  (53, .goto 9, 3, []),
  (56, .aload_n 0, 1, []),
  (57, .getfield 32, 3, [7, 7, 0, 4130]),
  (60, .iload_n 1, 1, []),
  (61, .iaload, 1, []),
  (62, .istore 4, 2, []),
  (64, .iload_n 2, 1, []),
  (65, .ifCond .ne 13, 3, []),
  (68, .aload_n 0, 1, []),
  (69, .getfield 26, 3, [7, 5, 0, 4128]),
  (72, .iload_n 1, 1, []),
  (73, .iload_n 3, 1, []),
  (74, .iastore, 1, []),
  (75, .goto 10, 3, []),
  (78, .aload_n 0, 1, []),
  (79, .getfield 32, 3, [7, 7, 0, 4130]),
  (82, .iload_n 1, 1, []),
  (83, .iload_n 3, 1, []),
  (84, .iastore, 1, []),
  (85, .iload 4, 2, []),
  (87, .ireturn, 1, [])]
def c_116 : List En := [
  (0, .aload_n 0, 1, []),
  (1, .iload_n 1, 1, []),
  (2, .invokevirtual 210, 3, [112, 2, 0, 0, 5089, 5091, 55]),
  (5, .ifCond .ne 5, 3, []),
  (8, .iconst (-1), 1, []),
  (9, .ireturn, 1, []),
  (10, .aload_n 0, 1, []),
  (11, .getfield 16, 3, [7, 2, 0, 4125]),
  (14, .iload_n 1, 1, []),
  (15, .ishr, 1, []),
  (16, .iconst 1, 1, []),
  (17, .iand, 1, []),
  (18, .istore_n 3, 1, []),
  (19, .aload_n 0, 1, []),
  (20, .iload_n 2, 1, []),
  (21, .ifCond .eq 14, 3, []),
  (24, .aload_n 0, 1, []),
  (25, .getfield 16, 3, [7, 2, 0, 4125]),
  (28, .iconst 1, 1, []),
  (29, .iload_n 1, 1, []),
  (30, .ishl, 1, []),
  (31, .ior, 1, []),
  (32, .goto 13, 3, []),
  (35, .aload_n 0, 1, []),
  (36, .getfield 16, 3, [7, 2, 0, 4125]),
  (39, .iconst 1, 1, []),
  (40, .iload_n 1, 1, []),
  (41, .ishl, 1, []),
  (42, .iconst (-1), 1, []),
  (43, .ixor, 1, []),
  (44, .iand, 1, []),
  (45, .putfield 16, 3, [7, 2, 0, 4125]),
  (48, .iload_n 3, 1, []),
  (49, .ireturn, 1, [])]
def c_117 : List En := [
  (0, .aload_n 0, 1, []),
  (1, .iload_n 1, 1, []),
  (2, .invokevirtual 210, 3, [112, 2, 0, 0, 5089, 5091, 55]),
  (5, .ifCond .eq 13, 3, []),
  (8, .aload_n 0, 1, []),
  (9, .iload_n 2, 1, []),
  (10, .iconst 0, 1, []),
  (11, .iconst 3, 1, []),
  (12, .invokevirtual 206, 3, [109, 4, 0, 0, 5081, 5083, 54]),
  (15, .ifCond .ne 5, 3, []),
  (18, .iconst (-1), 1, []),
  (19, .ireturn, 1, []),
  (20, .aload_n 0, 1, []),
  (21, .iload_n 3, 1, []),
  (22, .iconst 0, 1, []),
  (23, .bipush 6, 2, []),
  (25, .invokevirtual 206, 3, [109, 4, 0, 0, 5081, 5083, 54]),
  (28, .ifCond .ne 6, 3, []),
  (31, .bipush (-2), 2, []),
  (33, .ireturn, 1, []),
  (34, .aload_n 0, 1, []),
  (35, .getfield 19, 3, [7, 3, 0, 4126]),
  (38, .iload_n 1, 1, []),
  (39, .iaload, 1, []),
  (40, .bipush 6, 2, []),
  (42, .if_icmp .eq 6, 3, []),
  (45, .bipush (-3), 2, []),
  (47, .ireturn, 1, []),
  (48, .aload_n 0, 1, []),
  (49, .getfield 35, 3, [7, 8, 0, 4131]),
  (52, .iconst 4, 1, []),
  (53, .iload_n 1, 1, []),
  (54, .imul, 1, []),
  (55, .iload_n 2, 1, []),
  (56, .iadd, 1, []),
  (57, .iaload, 1, []),
  (58, .istore 4, 2, []),
  (60, .aload_n 0, 1, []),
  (61, .getfield 35, 3, [7, 8, 0, 4131]),
  (64, .iconst 4, 1, []),
  (65, .iload_n 1, 1, []),
  (66, .imul, 1, []),
  (67, .iload_n 2, 1, []),
  (68, .iadd, 1, []),
  (69, .iload_n 3, 1, []),
  (70, .iastore, 1, []),
  (71, .iload 4, 2, []),
  (73, .ireturn, 1, [])]
def c_118 : List En := [
  (0, .aload_n 0, 1, []),
  (1, .iload_n 1, 1, []),
  (2, .iconst 0, 1, []),
  (3, .bipush 127, 2, []),
  (5, .invokevirtual 206, 3, [109, 4, 0, 0, 5081, 5083, 54]),
  (8, .ifCond .ne 6, 3, []),
  (11, .bipush (-2), 2, []),
  (13, .ireturn, 1, []),
  (14, .aload_n 0, 1, []),
  (15, .getfield 44, 3, [7, 11, 0, 4134]),
  (18, .bipush 100, 2, []),
  (20, .if_icmp .ne 6, 3, []),
  (23, .bipush (-4), 2, []),
  (25, .ireturn, 1, []),
  (26, .aload_n 0, 1, []),
  (27, .getfield 53, 3, [7, 14, 0, 4137]),
  (30, .aload_n 0, 1, []),
  (31, .getfield 44, 3, [7, 11, 0, 4134]),
  (34, .iload_n 1, 1, []),
  (35, .iastore, 1, []),
  (36, .aload_n 0, 1, []),
  (37, .dup, 1, []),
  (38, .getfield 44, 3, [7, 11, 0, 4134]),
  (41, .iconst 1, 1, []),
  (42, .iadd, 1, []),
  (43, .putfield 44, 3, [7, 11, 0, 4134]),
  (46, .aload_n 0, 1, []),
  (47, .getfield 44, 3, [7, 11, 0, 4134]),
  (50, .ireturn, 1, [])]
def c_119 : List En := [
  (0, .aload_n 0, 1, []),
  (1, .getfield 47, 3, [7, 12, 0, 4135]),
  (4, .aload_n 0, 1, []),
  (5, .getfield 44, 3, [7, 11, 0, 4134]),
  (8, .if_icmp .ge 15, 3, []),
  (11, .aload_n 0, 1, []),
  (12, .getfield 53, 3, [7, 14, 0, 4137]),
  (15, .aload_n 0, 1, []),
  (16, .getfield 47, 3, [7, 12, 0, 4135]),
  (19, .iaload, 1, []),
  (20, .goto 4, 3, []),
  (23, .iconst (-1), 1, []),
  (24, .ireturn, 1, [])]
def c_120 : List En := [
  (0, .aload_n 0, 1, []),
  (1, .invokevirtual 214, 3, [119, 1, 0, 0, 5121, 5123, 59]),
  (4, .iload_n 1, 1, []),
  (5, .if_icmp .eq 5, 3, []),
  (8, .iconst 0, 1, []),
  (9, .ireturn, 1, []),
  (10, .aload_n 0, 1, []),
  (11, .dup, 1, []),
  (12, .getfield 47, 3, [7, 12, 0, 4135]),
  (15, .iconst 1, 1, []),
  (16, .iadd, 1, []),
  (17, .putfield 47, 3, [7, 12, 0, 4135]),
  (20, .iconst 1, 1, []),
  (21, .ireturn, 1, [])]
def c_121 : List En := [
  (0, .iconst 0, 1, []),
  (1, .istore_n 3, 1, []),
  (2, .iload_n 3, 1, []),
  (3, .iload_n 2, 1, []),
  (4, .if_icmp .ge 26, 3, []),
  (7, .aload_n 0, 1, []),
  (8, .aload_n 0, 1, []),
  (9, .getfield 86, 3, [7, 25, 0, 4148]),
  (12, .iload_n 1, 1, []),
  (13, .iload_n 3, 1, []),
  (14, .iadd, 1, []),
  (15, .iaload, 1, []),
  (16, .invokevirtual 218, 3, [120, 2, 0, 0, 5129, 5131, 61]),
  (19, .ifCond .ne 5, 3, []),
  (22, .iconst 0, 1, []),
  (23, .ireturn, 1, []),
  (24, .iinc 3 1, 3, []),
  (27, .goto (-25), 3, []),
  (30, .aload_n 0, 1, []),
  (31, .bipush 32, 2, []),
  (33, .invokevirtual 218, 3, [120, 2, 0, 0, 5129, 5131, 61]),
  (36, .ireturn, 1, [])]
def c_122 : List En := [
  (0, .aload_n 0, 1, []),
  (1, .aload_n 0, 1, []),
  (2, .invokevirtual 214, 3, [119, 1, 0, 0, 5121, 5123, 59]),
  (5, .bipush 48, 2, []),
  (7, .bipush 57, 2, []),
  (9, .invokevirtual 206, 3, [109, 4, 0, 0, 5081, 5083, 54]),
  (12, .ireturn, 1, [])]
def c_123 : List En := [
  (0, .aload_n 0, 1, []),
  (1, .invokevirtual 221, 3, [122, 1, 0, 0, 5137, 5139, 63]),
  (4, .ifCond .ne 5, 3, []),
  (7, .iconst 0, 1, []),
  (8, .ireturn, 1, []),
  (9, .aload_n 0, 1, []),
  (10, .iconst 0, 1, []),
  (11, .putfield 50, 3, [7, 13, 0, 4136]),
  (14, .iconst 0, 1, []),
  (15, .istore_n 1, 1, []),
  (16, .iload_n 1, 1, []),
  (17, .iconst 2, 1, []),
  (18, .if_icmp .ge 45, 3, []),
  (21, .aload_n 0, 1, []),
  (22, .invokevirtual 221, 3, [122, 1, 0, 0, 5137, 5139, 63]),
  (25, .ifCond .eq 38, 3, []),
  (28, .aload_n 0, 1, []),
  (29, .bipush 10, 2, []),
  (31, .aload_n 0, 1, []),
  (32, .getfield 50, 3, [7, 13, 0, 4136]),
  (35, .imul, 1, []),
  (36, .aload_n 0, 1, []),
  (37, .invokevirtual 214, 3, [119, 1, 0, 0, 5121, 5123, 59]),
  (40, .iadd, 1, []),
  (41, .bipush 48, 2, []),
  (43, .isub, 1, []),
  (44, .putfield 50, 3, [7, 13, 0, 4136]),
  (47, .aload_n 0, 1, []),
  (48, .dup, 1, []),
  (49, .getfield 47, 3, [7, 12, 0, 4135]),
  (52, .iconst 1, 1, []),
  (53, .iadd, 1, []),
  (54, .putfield 47, 3, [7, 12, 0, 4135]),
  (57, .iinc 1 1, 3, []),
  (60, .goto (-44), 3, []),
  (63, .iconst 1, 1, []),
  (64, .ireturn, 1, [])]
def c_124 : List En := [
  (0, .aload_n 0, 1, []),
  (1, .getfield 71, 3, [7, 20, 0, 4143]),
  (4, .aload_n 0, 1, []),
  (5, .getfield 77, 3, [7, 22, 0, 4145]),
  (8, .iload_n 1, 1, []),
  (9, .iastore, 1, []),
  (10, .aload_n 0, 1, []),
  (11, .dup, 1, []),
  (12, .getfield 77, 3, [7, 22, 0, 4145]),
  (15, .iconst 1, 1, []),
  (16, .iadd, 1, []),
  (17, .putfield 77, 3, [7, 22, 0, 4145]),
  (20, .return_, 1, [])]
def c_125 : List En := [
  (0, .aload_n 0, 1, []),
  (1, .getfield 80, 3, [7, 23, 0, 4146]),
  (4, .ifCond .le 48, 3, []),
  (7, .aload_n 0, 1, []),
  (8, .getfield 74, 3, [7, 21, 0, 4144]),
  (11, .aload_n 0, 1, []),
  (12, .getfield 80, 3, [7, 23, 0, 4146]),
  (15, .iconst 1, 1, []),
  (16, .isub, 1, []),
  (17, .iaload, 1, []),
  (18, .bipush 33, 2, []),
  (20, .if_icmp .ne 32, 3, []),
  (23, .aload_n 0, 1, []),
  (24, .bipush (-33), 2, []),
  (26, .invokevirtual 225, 3, [124, 2, 0, 0, 5153, 5155, 67]),
  (29, .aload_n 0, 1, []),
  (30, .dup, 1, []),
  (31, .getfield 80, 3, [7, 23, 0, 4146]),
  (34, .iconst 1, 1, []),
  (35, .isub, 1, []),
  (36, .putfield 80, 3, [7, 23, 0, 4146]),
  (39, .aload_n 0, 1, []),
  (40, .dup, 1, []),
  (41, .getfield 83, 3, [7, 24, 0, 4147]),
  (44, .iconst 1, 1, []),
  (45, .isub, 1, []),
  (46, .putfield 83, 3, [7, 24, 0, 4147]),
  (49, .goto (-49), 3, []),
  (52, .return_, 1, [])]
def c_126 : List En := [
  (0, .aload_n 0, 1, []),
  (1, .getfield 80, 3, [7, 23, 0, 4146]),
  (4, .ifCond .le 68, 3, []),
  (7, .aload_n 0, 1, []),
  (8, .getfield 74, 3, [7, 21, 0, 4144]),
  (11, .aload_n 0, 1, []),
  (12, .getfield 80, 3, [7, 23, 0, 4146]),
  (15, .iconst 1, 1, []),
  (16, .isub, 1, []),
  (17, .iaload, 1, []),
  (18, .bipush 38, 2, []),
  (20, .if_icmp .eq 25, 3, []),
  (23, .aload_n 0, 1, []),
  (24, .getfield 74, 3, [7, 21, 0, 4144]),
  (27, .aload_n 0, 1, []),
  (28, .getfield 80, 3, [7, 23, 0, 4146]),
  (31, .iconst 1, 1, []),
  (32, .isub, 1, []),
  (33, .iaload, 1, []),
  (34, .bipush 124, 2, []),
  (36, .if_icmp .ne 36, 3, []),
  (39, .iload_n 1, 1, []),
  (40, .bipush 38, 2, []),
  (42, .if_icmp .eq 30, 3, []),
  (45, .aload_n 0, 1, []),
  (46, .dup, 1, []),
  (47, .getfield 80, 3, [7, 23, 0, 4146]),
  (50, .iconst 1, 1, []),
  (51, .isub, 1, []),
  (52, .putfield 80, 3, [7, 23, 0, 4146]),
  (55, .aload_n 0, 1, []),
  (56, .aload_n 0, 1, []),
  (57, .getfield 74, 3, [7, 21, 0, 4144]),
  (60, .aload_n 0, 1, []),
  (61, .getfield 80, 3, [7, 23, 0, 4146]),
  (64, .iaload, 1, []),
  (65, .ineg, 1, []),
  (66, .invokevirtual 225, 3, [124, 2, 0, 0, 5153, 5155, 67]),
  (69, .goto (-69), 3, []),
  (72, .return_, 1, [])]
def c_127 : List En := [
  (0, .iload_n 1, 1, []),
  (1, .lookupswitch 71 #[(97, 67), (107, 61), (108, 63), (112, 59), (115, 65), (121, 69)], 59, []),
  (60, .iconst 0, 1, []),
  (61, .ireturn, 1, []),
  (62, .iconst 1, 1, []),
  (63, .ireturn, 1, []),
  (64, .iconst 2, 1, []),
  (65, .ireturn, 1, []),
  (66, .iconst 3, 1, []),
  (67, .ireturn, 1, []),
  (68, .iconst 4, 1, []),
  (69, .ireturn, 1, []),
  (70, .iconst 5, 1, []),
  (71, .ireturn, 1, []),
  (72, .iconst (-1), 1, []),
  (73, .ireturn, 1, [])]
def c_128 : List En := [
  (0, .aload_n 0, 1, []),
  (1, .aload_n 0, 1, []),
  (2, .invokevirtual 214, 3, [119, 1, 0, 0, 5121, 5123, 59]),
  (5, .invokevirtual 229, 3, [127, 2, 0, 0, 5149, 5151, 66]),
  (8, .istore_n 1, 1, []),
  (9, .iload_n 1, 1, []),
  (10, .ifCond .ge 5, 3, []),
  (13, .iconst 0, 1, []),
  (14, .ireturn, 1, []),
  (15, .aload_n 0, 1, []),
  (16, .dup, 1, []),
  (17, .getfield 47, 3, [7, 12, 0, 4135]),
  (20, .iconst 1, 1, []),
  (21, .iadd, 1, []),
  (22, .putfield 47, 3, [7, 12, 0, 4135]),
  (25, .aload_n 0, 1, []),
  (26, .invokevirtual 214, 3, [119, 1, 0, 0, 5121, 5123, 59]),
  (29, .istore_n 2, 1, []),
  (30, .aload_n 0, 1, []),
  (31, .iload_n 2, 1, []),
  (32, .bipush 60, 2, []),
  (34, .bipush 62, 2, []),
  (36, .invokevirtual 206, 3, [109, 4, 0, 0, 5081, 5083, 54]),
  (39, .ifCond .ne 5, 3, []),
  (42, .iconst 0, 1, []),
  (43, .ireturn, 1, []),
  (44, .aload_n 0, 1, []),
  (45, .dup, 1, []),
  (46, .getfield 47, 3, [7, 12, 0, 4135]),
  (49, .iconst 1, 1, []),
  (50, .iadd, 1, []),
  (51, .putfield 47, 3, [7, 12, 0, 4135]),
  (54, .aload_n 0, 1, []),
  (55, .invokevirtual 233, 3, [123, 1, 0, 0, 5133, 5135, 62]),
  (58, .ifCond .ne 5, 3, []),
  (61, .iconst 0, 1, []),
  (62, .ireturn, 1, []),
  (63, .aload_n 0, 1, []),
  (64, .sipush 1000, 3, []),
  (67, .iload_n 1, 1, []),
  (68, .imul, 1, []),
  (69, .bipush 100, 2, []),
  (71, .iload_n 2, 1, []),
  (72, .bipush 60, 2, []),
  (74, .isub, 1, []),
  (75, .imul, 1, []),
  (76, .iadd, 1, []),
  (77, .aload_n 0, 1, []),
  (78, .getfield 50, 3, [7, 13, 0, 4136]),
  (81, .iadd, 1, []),
  (82, .invokevirtual 225, 3, [124, 2, 0, 0, 5153, 5155, 67]),
  (85, .aload_n 0, 1, []),
  (86, .invokevirtual 236, 3, [125, 1, 0, 0, 5157, 5159, 68]),
  (89, .iconst 1, 1, []),
  (90, .ireturn, 1, [])]
def c_129 : List En := [
  (0, .aload_n 0, 1, []),
  (1, .iconst 0, 1, []),
  (2, .putfield 80, 3, [7, 23, 0, 4146]),
  (5, .aload_n 0, 1, []),
  (6, .iconst 0, 1, []),
  (7, .putfield 83, 3, [7, 24, 0, 4147]),
  (10, .aload_n 0, 1, []),
  (11, .getfield 65, 3, [7, 18, 0, 4141]),
  (14, .iload_n 1, 1, []),
  (15, .aload_n 0, 1, []),
  (16, .getfield 77, 3, [7, 22, 0, 4145]),
  (19, .iastore, 1, []),
  (20, .iconst 1, 1, []),
  (21, .istore_n 2, 1, []),
  (22, .aload_n 0, 1, []),
  (23, .invokevirtual 214, 3, [119, 1, 0, 0, 5121, 5123, 59]),
  (26, .istore_n 3, 1, []),
  (27, .iload_n 2, 1, []),
  (28, .ifCond .eq 82, 3, []),
  (31, .iload_n 3, 1, []),
  (32, .bipush 33, 2, []),
  (34, .if_icmp .eq 9, 3, []),
  (37, .iload_n 3, 1, []),
  (38, .bipush 40, 2, []),
  (40, .if_icmp .ne 56, 3, []),
  (43, .aload_n 0, 1, []),
  (44, .getfield 83, 3, [7, 24, 0, 4147]),
  (47, .iconst 4, 1, []),
  (48, .if_icmp .ne 5, 3, []),
  (51, .iconst 0, 1, []),
  (52, .ireturn, 1, []),
  (53, .aload_n 0, 1, []),
  (54, .dup, 1, []),
  (55, .getfield 83, 3, [7, 24, 0, 4147]),
  (58, .iconst 1, 1, []),
  (59, .iadd, 1, []),
  (60, .putfield 83, 3, [7, 24, 0, 4147]),
  (63, .aload_n 0, 1, []),
  (64, .getfield 74, 3, [7, 21, 0, 4144]),
  (67, .aload_n 0, 1, []),
  (68, .getfield 80, 3, [7, 23, 0, 4146]),
  (71, .iload_n 3, 1, []),
  (72, .iastore, 1, []),
  (73, .aload_n 0, 1, []),
  (74, .dup, 1, []),
  (75, .getfield 80, 3, [7, 23, 0, 4146]),
  (78, .iconst 1, 1, []),
  (79, .iadd, 1, []),
  (80, .putfield 80, 3, [7, 23, 0, 4146]),
  (83, .aload_n 0, 1, []),
  (84, .dup, 1, []),
  (85, .getfield 47, 3, [7, 12, 0, 4135]),
  (88, .iconst 1, 1, []),
  (89, .iadd, 1, []),
  (90, .putfield 47, 3, [7, 12, 0, 4135]),
  (93, .goto (-71), 3, []),
  (96, .aload_n 0, 1, []),
  (97, .invokevirtual 239, 3, [128, 1, 0, 0, 5145, 5147, 65]),
  (100, .ifCond .eq 8, 3, []),
  (103, .iconst 0, 1, []),
  (104, .istore_n 2, 1, []),
  (105, .goto (-83), 3, []),
  (108, .iconst 0, 1, []),
  (109, .ireturn, 1, []),
  (110, .iload_n 3, 1, []),
  (111, .bipush 38, 2, []),
  (113, .if_icmp .eq 9, 3, []),
  (116, .iload_n 3, 1, []),
  (117, .bipush 124, 2, []),
  (119, .if_icmp .ne 43, 3, []),
  (122, .aload_n 0, 1, []),
  (123, .iload_n 3, 1, []),
  (124, .invokevirtual 242, 3, [126, 2, 0, 0, 5161, 5163, 69]),
  (127, .aload_n 0, 1, []),
  (128, .getfield 74, 3, [7, 21, 0, 4144]),
  (131, .aload_n 0, 1, []),
  (132, .getfield 80, 3, [7, 23, 0, 4146]),
  (135, .iload_n 3, 1, []),
  (136, .iastore, 1, []),
  (137, .aload_n 0, 1, []),
  (138, .dup, 1, []),
  (139, .getfield 80, 3, [7, 23, 0, 4146]),
  (142, .iconst 1, 1, []),
  (143, .iadd, 1, []),
  (144, .putfield 80, 3, [7, 23, 0, 4146]),
  (147, .iconst 1, 1, []),
  (148, .istore_n 2, 1, []),
  (149, .aload_n 0, 1, []),
  (150, .dup, 1, []),
  (151, .getfield 47, 3, [7, 12, 0, 4135]),
  (154, .iconst 1, 1, []),
  (155, .iadd, 1, []),
  (156, .putfield 47, 3, [7, 12, 0, 4135]),
  (159, .goto (-137), 3, []),
  (162, .aload_n 0, 1, []),
  (163, .bipush 124, 2, []),
  (165, .invokevirtual 242, 3, [126, 2, 0, 0, 5161, 5163, 69]),
  (168, .aload_n 0, 1, []),
  (169, .getfield 68, 3, [7, 19, 0, 4142]),
  (172, .iload_n 1, 1, []),
  (173, .aload_n 0, 1, []),
  (174, .getfield 77, 3, [7, 22, 0, 4145]),
  (177, .iastore, 1, []),
  (178, .aload_n 0, 1, []),
  (179, .getfield 80, 3, [7, 23, 0, 4146]),
  (182, .ifCond .ne 5, 3, []),
  (185, .iconst 1, 1, []),
  (186, .ireturn, 1, []),
  (187, .iload_n 3, 1, []),
  (188, .bipush 41, 2, []),
  (190, .if_icmp .eq 5, 3, []),
  (193, .iconst 0, 1, []),
  (194, .ireturn, 1, []),
  (195, .aload_n 0, 1, []),
  (196, .dup, 1, []),
  (197, .getfield 80, 3, [7, 23, 0, 4146]),
  (200, .iconst 1, 1, []),
  (201, .isub, 1, []),
  (202, .putfield 80, 3, [7, 23, 0, 4146]),
  (205, .aload_n 0, 1, []),
  (206, .dup, 1, []),
  (207, .getfield 83, 3, [7, 24, 0, 4147]),
  (210, .iconst 1, 1, []),
  (211, .isub, 1, []),
  (212, .putfield 83, 3, [7, 24, 0, 4147]),
  (215, .aload_n 0, 1, []),
  (216, .dup, 1, []),
  (217, .getfield 47, 3, [7, 12, 0, 4135]),
  (220, .iconst 1, 1, []),
  (221, .iadd, 1, []),
  (222, .putfield 47, 3, [7, 12, 0, 4135]),
  (225, .aload_n 0, 1, []),
  (226, .invokevirtual 236, 3, [125, 1, 0, 0, 5157, 5159, 68]),
  (229, .goto (-207), 3, [])]
def c_130 : List En := [
  (0, .aload_n 0, 1, []),
  (1, .invokevirtual 214, 3, [119, 1, 0, 0, 5121, 5123, 59]),
  (4, .lookupswitch 56 #[(104, 42), (114, 28)], 28, []),
  (32, .aload_n 0, 1, []),
  (33, .getfield 59, 3, [7, 16, 0, 4139]),
  (36, .iload_n 1, 1, []),
  (37, .iconst 0, 1, []),
  (38, .iastore, 1, []),
  (39, .aload_n 0, 1, []),
  (40, .iconst 0, 1, []),
  (41, .iconst 5, 1, []),
  (42, .invokevirtual 245, 3, [121, 3, 0, 0, 5125, 5127, 60]),
  (45, .ireturn, 1, []),
  (46, .aload_n 0, 1, []),
  (47, .getfield 59, 3, [7, 16, 0, 4139]),
  (50, .iload_n 1, 1, []),
  (51, .iconst 1, 1, []),
  (52, .iastore, 1, []),
  (53, .aload_n 0, 1, []),
  (54, .iconst 5, 1, []),
  (55, .iconst 4, 1, []),
  (56, .invokevirtual 245, 3, [121, 3, 0, 0, 5125, 5127, 60]),
  (59, .ireturn, 1, []),
  (60, .aload_n 0, 1, []),
  (61, .getfield 59, 3, [7, 16, 0, 4139]),
  (64, .iload_n 1, 1, []),
  (65, .iconst 2, 1, []),
  (66, .iastore, 1, []),
  (67, .aload_n 0, 1, []),
  (68, .bipush 9, 2, []),
  (70, .iconst 5, 1, []),
  (71, .invokevirtual 245, 3, [121, 3, 0, 0, 5125, 5127, 60]),
  (74, .ireturn, 1, [])]
def c_131 : List En := [
  (0, .aload_n 0, 1, []),
  (1, .iload_n 1, 1, []),
  (2, .invokevirtual 249, 3, [130, 2, 0, 0, 5117, 5119, 58]),
  (5, .ifCond .eq 10, 3, []),
  (8, .aload_n 0, 1, []),
  (9, .invokevirtual 233, 3, [123, 1, 0, 0, 5133, 5135, 62]),
  (12, .ifCond .ne 5, 3, []),
  (15, .iconst 0, 1, []),
  (16, .ireturn, 1, []),
  (17, .aload_n 0, 1, []),
  (18, .getfield 62, 3, [7, 17, 0, 4140]),
  (21, .iload_n 1, 1, []),
  (22, .aload_n 0, 1, []),
  (23, .getfield 50, 3, [7, 13, 0, 4136]),
  (26, .iastore, 1, []),
  (27, .aload_n 0, 1, []),
  (28, .bipush 32, 2, []),
  (30, .invokevirtual 218, 3, [120, 2, 0, 0, 5129, 5131, 61]),
  (33, .ifCond .eq 15, 3, []),
  (36, .aload_n 0, 1, []),
  (37, .iload_n 1, 1, []),
  (38, .invokevirtual 252, 3, [129, 2, 0, 0, 5141, 5143, 64]),
  (41, .ifCond .eq 7, 3, []),
  (44, .iconst 1, 1, []),
  (45, .goto 4, 3, []),
  (48, .iconst 0, 1, []),
  (49, .ireturn, 1, [])]
def c_132 : List En := [
  (0, .aload_n 0, 1, []),
  (1, .iconst 0, 1, []),
  (2, .putfield 47, 3, [7, 12, 0, 4135]),
  (5, .aload_n 0, 1, []),
  (6, .bipush 100, 2, []),
  (8, .iload_n 1, 1, []),
  (9, .imul, 1, []),
  (10, .putfield 77, 3, [7, 22, 0, 4145]),
  (13, .iconst 0, 1, []),
  (14, .istore_n 2, 1, []),
  (15, .aload_n 0, 1, []),
  (16, .bipush 10, 2, []),
  (18, .iload_n 1, 1, []),
  (19, .imul, 1, []),
  (20, .iload_n 2, 1, []),
  (21, .iadd, 1, []),
  (22, .invokevirtual 255, 3, [131, 2, 0, 0, 5113, 5115, 57]),
  (25, .ifCond .ne 5, 3, []),
  (28, .iconst 0, 1, []),
  (29, .ireturn, 1, []),
  (30, .iinc 2 1, 3, []),
  (33, .aload_n 0, 1, []),
  (34, .getfield 56, 3, [7, 15, 0, 4138]),
  (37, .iload_n 1, 1, []),
  (38, .iload_n 2, 1, []),
  (39, .iastore, 1, []),
  (40, .aload_n 0, 1, []),
  (41, .getfield 47, 3, [7, 12, 0, 4135]),
  (44, .aload_n 0, 1, []),
  (45, .getfield 44, 3, [7, 11, 0, 4134]),
  (48, .if_icmp .ne 5, 3, []),
  (51, .iconst 1, 1, []),
  (52, .ireturn, 1, []),
  (53, .iload_n 2, 1, []),
  (54, .bipush 10, 2, []),
  (56, .if_icmp .eq 12, 3, []),
  (59, .aload_n 0, 1, []),
  (60, .bipush 59, 2, []),
  (62, .invokevirtual 218, 3, [120, 2, 0, 0, 5129, 5131, 61]),
  (65, .ifCond .ne (-50), 3, []),
  (68, .iconst 0, 1, []),
  (69, .ireturn, 1, [])]
def c_133 : List En := [
  (0, .aload_n 0, 1, []),
  (1, .getfield 38, 3, [7, 9, 0, 4132]),
  (4, .bipush 6, 2, []),
  (6, .if_icmp .ne 6, 3, []),
  (9, .bipush (-4), 2, []),
  (11, .ireturn, 1, []),
  (12, .aload_n 0, 1, []),
  (13, .aload_n 0, 1, []),
  (14, .getfield 38, 3, [7, 9, 0, 4132]),
  (17, .invokevirtual 258, 3, [132, 2, 0, 0, 5109, 5111, 56]),
  (20, .istore_n 1, 1, []),
  (21, .aload_n 0, 1, []),
  (22, .iconst 0, 1, []),
  (23, .putfield 44, 3, [7, 11, 0, 4134]),
  (26, .iload_n 1, 1, []),
  (27, .ifCond .ne 11, 3, []),
  (30, .bipush (-10), 2, []),
  (32, .aload_n 0, 1, []),
  (33, .getfield 47, 3, [7, 12, 0, 4135]),
  (36, .isub, 1, []),
  (37, .ireturn, 1, []),
  (38, .aload_n 0, 1, []),
  (39, .aload_n 0, 1, []),
  (40, .getfield 38, 3, [7, 9, 0, 4132]),
  (43, .putfield 41, 3, [7, 10, 0, 4133]),
  (46, .aload_n 0, 1, []),
  (47, .dup, 1, []),
  (48, .getfield 38, 3, [7, 9, 0, 4132]),
  (51, .iconst 1, 1, []),
  (52, .iadd, 1, []),
  (53, .putfield 38, 3, [7, 9, 0, 4132]),
  (56, .aload_n 0, 1, []),
  (57, .getfield 41, 3, [7, 10, 0, 4133]),
  (60, .ireturn, 1, [])]
def c_134 : List En := [
  (0, .aload_n 0, 1, []),
  (1, .getfield 41, 3, [7, 10, 0, 4133]),
  (4, .ifCond .ge 7, 3, []),
  (7, .iconst 0, 1, []),
  (8, .goto 10, 3, []),
  (11, .bipush 10, 2, []),
  (13, .aload_n 0, 1, []),
  (14, .getfield 41, 3, [7, 10, 0, 4133]),
  (17, .imul, 1, []),
  (18, .ireturn, 1, [])]
def c_135 : List En := [
  (0, .aload_n 0, 1, []),
  (1, .getfield 41, 3, [7, 10, 0, 4133]),
  (4, .ifCond .ge 7, 3, []),
  (7, .iconst 0, 1, []),
  (8, .goto 20, 3, []),
  (11, .bipush 10, 2, []),
  (13, .aload_n 0, 1, []),
  (14, .getfield 41, 3, [7, 10, 0, 4133]),
  (17, .imul, 1, []),
  (18, .aload_n 0, 1, []),
  (19, .getfield 56, 3, [7, 15, 0, 4138]),
  (22, .aload_n 0, 1, []),
  (23, .getfield 41, 3, [7, 10, 0, 4133]),
  (26, .iaload, 1, []),
  (27, .iadd, 1, []),
  (28, .ireturn, 1, [])]
def c_136 : List En := [
  (0, .iload_n 1, 1, []),
  (1, .tableswitch 60 0 4 #[35, 37, 44, 46, 53], 35, []),
  (36, .iload_n 2, 1, []),
  (37, .ireturn, 1, []),
  (38, .aload_n 0, 1, []),
  (39, .getfield 19, 3, [7, 3, 0, 4126]),
  (42, .iload_n 2, 1, []),
  (43, .iaload, 1, []),
  (44, .ireturn, 1, []),
  (45, .iload_n 3, 1, []),
  (46, .ireturn, 1, []),
  (47, .aload_n 0, 1, []),
  (48, .getfield 32, 3, [7, 7, 0, 4130]),
  (51, .iload_n 2, 1, []),
  (52, .iaload, 1, []),
  (53, .ireturn, 1, []),
  (54, .aload_n 0, 1, []),
  (55, .getfield 29, 3, [7, 6, 0, 4129]),
  (58, .iload_n 2, 1, []),
  (59, .iaload, 1, []),
  (60, .ireturn, 1, []),
  (61, .aload_n 0, 1, []),
  (62, .getfield 13, 3, [7, 1, 0, 4124]),
  (65, .bipush 10, 2, []),
  (67, .irem, 1, []),
  (68, .ireturn, 1, [])]
def c_137 : List En := [
  (0, .iconst 0, 1, []),
  (1, .istore 4, 2, []),
  (3, .aload_n 0, 1, []),
  (4, .getfield 65, 3, [7, 18, 0, 4141]),
  (7, .iload_n 1, 1, []),
  (8, .iaload, 1, []),
  (9, .istore 5, 2, []),
  (11, .iload 5, 2, []),
  (13, .aload_n 0, 1, []),
  (14, .getfield 68, 3, [7, 19, 0, 4142]),
  (17, .iload_n 1, 1, []),
  (18, .iaload, 1, []),
  (19, .if_icmp .ge 234, 3, []),
  (22, .aload_n 0, 1, []),
  (23, .getfield 71, 3, [7, 20, 0, 4143]),
  (26, .iload 5, 2, []),
  (28, .iaload, 1, []),
  (29, .istore 6, 2, []),
  (31, .iload 6, 2, []),
  (33, .bipush (-33), 2, []),
  (35, .if_icmp .ne 32, 3, []),
  (38, .aload_n 0, 1, []),
  (39, .getfield 89, 3, [7, 26, 0, 4149]),
  (42, .iload 4, 2, []),
  (44, .iconst 1, 1, []),
  (45, .isub, 1, []),
  (46, .aload_n 0, 1, []),
  (47, .getfield 89, 3, [7, 26, 0, 4149]),
  (50, .iload 4, 2, []),
  (52, .iconst 1, 1, []),
  (53, .isub, 1, []),
  (54, .baload, 1, []),
  (55, .ifCond .ne 7, 3, []),
  (58, .iconst 1, 1, []),
  (59, .goto 4, 3, []),
  (62, .iconst 0, 1, []),
  (63, .bastore, 1, []),
  (64, .goto 183, 3, []),
  (67, .iload 6, 2, []),
  (69, .ifCond .ge 82, 3, []),
  (72, .iinc 4 (-1), 3, []),
  (75, .aload_n 0, 1, []),
  (76, .getfield 89, 3, [7, 26, 0, 4149]),
  (79, .iload 4, 2, []),
  (81, .iconst 1, 1, []),
  (82, .isub, 1, []),
  (83, .iload 6, 2, []),
  (85, .bipush (-38), 2, []),
  (87, .if_icmp .ne 33, 3, []),
  (90, .aload_n 0, 1, []),
  (91, .getfield 89, 3, [7, 26, 0, 4149]),
  (94, .iload 4, 2, []),
  (96, .iconst 1, 1, []),
  (97, .isub, 1, []),
  (98, .baload, 1, []),
  (99, .ifCond .eq 17, 3, []),
  (102, .aload_n 0, 1, []),
  (103, .getfield 89, 3, [7, 26, 0, 4149]),
  (106, .iload 4, 2, []),
  (108, .baload, 1, []),
  (109, .ifCond .eq 7, 3, []),
  (112, .iconst 1, 1, []),
  (113, .goto 34, 3, []),
  (116, .iconst 0, 1, []),
  (117, .goto 30, 3, []),
  (120, .aload_n 0, 1, []),
  (121, .getfield 89, 3, [7, 26, 0, 4149]),
  (124, .iload 4, 2, []),
  (126, .iconst 1, 1, []),
  (127, .isub, 1, []),
  (128, .baload, 1, []),
  (129, .ifCond .ne 13, 3, []),
  (132, .aload_n 0, 1, []),
  (133, .getfield 89, 3, [7, 26, 0, 4149]),
  (136, .iload 4, 2, []),
  (138, .baload, 1, []),
  (139, .ifCond .eq 7, 3, []),
  (142, .iconst 1, 1, []),
  (143, .goto 4, 3, []),
  (146, .iconst 0, 1, []),
  (147, .bastore, 1, []),
  (148, .goto 99, 3, []),
  (151, .aload_n 0, 1, []),
  (152, .iload 6, 2, []),
  (154, .sipush 1000, 3, []),
  (157, .idiv, 1, []),
  (158, .iload_n 2, 1, []),
  (159, .iload_n 3, 1, []),
  (160, .invokevirtual 261, 3, [136, 4, 0, 0, 5221, 5223, 83]),
  (163, .istore 7, 2, []),
  (165, .iload 6, 2, []),
  (167, .bipush 100, 2, []),
  (169, .idiv, 1, []),
  (170, .bipush 10, 2, []),
  (172, .irem, 1, []),
  (173, .istore 8, 2, []),
  (175, .aload_n 0, 1, []),
  (176, .getfield 89, 3, [7, 26, 0, 4149]),
  (179, .iload 4, 2, []),
  (181, .iload 8, 2, []),
  (183, .ifCond .ne 21, 3, []),
  (186, .iload 7, 2, []),
  (188, .iload 6, 2, []),
  (190, .bipush 100, 2, []),
  (192, .irem, 1, []),
  (193, .if_icmp .ge 7, 3, []),
  (196, .iconst 1, 1, []),
  (197, .goto 46, 3, []),
  (200, .iconst 0, 1, []),
  (201, .goto 42, 3, []),
  (204, .iload 8, 2, []),
  (206, .iconst 1, 1, []),
  (207, .if_icmp .ne 21, 3, []),
  (210, .iload 7, 2, []),
  (212, .iload 6, 2, []),
  (214, .bipush 100, 2, []),
  (216, .irem, 1, []),
  (217, .if_icmp .ne 7, 3, []),
  (220, .iconst 1, 1, []),
  (221, .goto 22, 3, []),
  (224, .iconst 0, 1, []),
  (225, .goto 18, 3, []),
  (228, .iload 7, 2, []),
  (230, .iload 6, 2, []),
  (232, .bipush 100, 2, []),
  (234, .irem, 1, []),
  (235, .if_icmp .le 7, 3, []),
  (238, .iconst 1, 1, []),
  (239, .goto 4, 3, []),
  (242, .iconst 0, 1, []),
  (243, .bastore, 1, []),
  (244, .iinc 4 1, 3, []),
  (247, .iinc 5 1, 3, []),
  (250, .goto (-239), 3, []),
  (253, .aload_n 0, 1, []),
  (254, .getfield 89, 3, [7, 26, 0, 4149]),
  (257, .iconst 0, 1, []),
  (258, .baload, 1, []),
  (259, .ireturn, 1, [])]
def c_138 : List En := [
  (0, .iconst 0, 1, []),
  (1, .istore 5, 2, []),
  (3, .iconst 0, 1, []),
  (4, .istore 6, 2, []),
  (6, .aload_n 0, 1, []),
  (7, .invokevirtual 265, 3, [134, 1, 0, 0, 5209, 5211, 80]),
  (10, .istore 7, 2, []),
  (12, .iload 7, 2, []),
  (14, .aload_n 0, 1, []),
  (15, .invokevirtual 268, 3, [135, 1, 0, 0, 5213, 5215, 81]),
  (18, .if_icmp .ge 53, 3, []),
  (21, .aload_n 0, 1, []),
  (22, .getfield 59, 3, [7, 16, 0, 4139]),
  (25, .iload 7, 2, []),
  (27, .iaload, 1, []),
  (28, .iload_n 1, 1, []),
  (29, .if_icmp .eq 6, 3, []),
  (32, .goto 33, 3, []),
  (35, .iconst 1, 1, []),
  (36, .istore 6, 2, []),
  (38, .iload 5, 2, []),
  (40, .aload_n 0, 1, []),
  (41, .iload 7, 2, []),
  (43, .iload_n 2, 1, []),
  (44, .iload_n 3, 1, []),
  (45, .invokevirtual 271, 3, [137, 4, 0, 0, 5217, 5219, 82]),
  (48, .ifCond .eq 13, 3, []),
  (51, .aload_n 0, 1, []),
  (52, .getfield 62, 3, [7, 17, 0, 4140]),
  (55, .iload 7, 2, []),
  (57, .iaload, 1, []),
  (58, .goto 4, 3, []),
  (61, .iconst 0, 1, []),
  (62, .iadd, 1, []),
  (63, .istore 5, 2, []),
  (65, .iinc 7 1, 3, []),
  (68, .goto (-56), 3, []),
  (71, .iload 6, 2, []),
  (73, .ifCond .eq 8, 3, []),
  (76, .iload 5, 2, []),
  (78, .goto 5, 3, []),
  (81, .iload 4, 2, []),
  (83, .ireturn, 1, [])]
def c_139 : List En := [
  (0, .aload_n 0, 1, []),
  (1, .aload_n 0, 1, []),
  (2, .getfield 16, 3, [7, 2, 0, 4125]),
  (5, .aload_n 0, 1, []),
  (6, .getfield 109, 3, [7, 32, 0, 4155]),
  (9, .ior, 1, []),
  (10, .iload_n 1, 1, []),
  (11, .invokevirtual 274, 3, [110, 3, 0, 0, 5173, 5175, 71]),
  (14, .ifCond .ne 7, 3, []),
  (17, .iconst 1, 1, []),
  (18, .goto 4, 3, []),
  (21, .iconst 0, 1, []),
  (22, .ireturn, 1, [])]
def c_140 : List En := [
  (0, .aload_n 0, 1, []),
  (1, .iconst 0, 1, []),
  (2, .iload_n 1, 1, []),
  (3, .aload_n 0, 1, []),
  (4, .getfield 26, 3, [7, 5, 0, 4128]),
  (7, .iload_n 1, 1, []),
  (8, .iaload, 1, []),
  (9, .iconst 1, 1, []),
  (10, .invokevirtual 277, 3, [138, 5, 0, 0, 5205, 5207, 79]),
  (13, .ireturn, 1, [])]
def c_141 : List En := [
  (0, .aload_n 0, 1, []),
  (1, .getfield 32, 3, [7, 7, 0, 4130]),
  (4, .iload_n 1, 1, []),
  (5, .iaload, 1, []),
  (6, .aload_n 0, 1, []),
  (7, .iconst 1, 1, []),
  (8, .iload_n 1, 1, []),
  (9, .aload_n 0, 1, []),
  (10, .getfield 26, 3, [7, 5, 0, 4128]),
  (13, .iload_n 1, 1, []),
  (14, .iaload, 1, []),
  (15, .iconst 0, 1, []),
  (16, .invokevirtual 277, 3, [138, 5, 0, 0, 5205, 5207, 79]),
  (19, .iadd, 1, []),
  (20, .ireturn, 1, [])]
def c_142 : List En := [
  (0, .iload_n 1, 1, []),
  (1, .iload_n 2, 1, []),
  (2, .if_icmp .ge 9, 3, []),
  (5, .iload_n 2, 1, []),
  (6, .iload_n 1, 1, []),
  (7, .isub, 1, []),
  (8, .goto 6, 3, []),
  (11, .iload_n 1, 1, []),
  (12, .iload_n 2, 1, []),
  (13, .isub, 1, []),
  (14, .ireturn, 1, [])]
def c_143 : List En := [
  (0, .aload_n 0, 1, []),
  (1, .getfield 93, 3, [7, 27, 0, 4150]),
  (4, .ifCond .ne 22, 3, []),
  (7, .aload_n 0, 1, []),
  (8, .aload_n 0, 1, []),
  (9, .getfield 26, 3, [7, 5, 0, 4128]),
  (12, .iload_n 1, 1, []),
  (13, .iaload, 1, []),
  (14, .iload_n 2, 1, []),
  (15, .invokevirtual 281, 3, [142, 3, 0, 0, 5197, 5199, 77]),
  (18, .aload_n 0, 1, []),
  (19, .iload_n 1, 1, []),
  (20, .invokevirtual 285, 3, [140, 2, 0, 0, 5201, 5203, 78]),
  (23, .if_icmp .gt 7, 3, []),
  (26, .iconst 1, 1, []),
  (27, .goto 4, 3, []),
  (30, .iconst 0, 1, []),
  (31, .ireturn, 1, [])]
def c_144 : List En := [
  (0, .iconst 0, 1, []),
  (1, .istore_n 2, 1, []),
  (2, .iconst 0, 1, []),
  (3, .istore_n 3, 1, []),
  (4, .iload_n 3, 1, []),
  (5, .aload_n 0, 1, []),
  (6, .getfield 7, 3, [7, 0, 0, 4123]),
  (9, .if_icmp .ge 38, 3, []),
  (12, .iload_n 2, 1, []),
  (13, .aload_n 0, 1, []),
  (14, .aload_n 0, 1, []),
  (15, .getfield 16, 3, [7, 2, 0, 4125]),
  (18, .iload_n 3, 1, []),
  (19, .invokevirtual 274, 3, [110, 3, 0, 0, 5173, 5175, 71]),
  (22, .ifCond .eq 16, 3, []),
  (25, .aload_n 0, 1, []),
  (26, .iload_n 3, 1, []),
  (27, .iload_n 1, 1, []),
  (28, .invokevirtual 288, 3, [143, 3, 0, 0, 5193, 5195, 76]),
  (31, .ifCond .eq 7, 3, []),
  (34, .iconst 1, 1, []),
  (35, .goto 4, 3, []),
  (38, .iconst 0, 1, []),
  (39, .iadd, 1, []),
  (40, .istore_n 2, 1, []),
  (41, .iinc 3 1, 3, []),
  (44, .goto (-40), 3, []),
  (47, .iload_n 2, 1, []),
  (48, .ireturn, 1, [])]
def c_145 : List En := [
  (0, .iconst (-1), 1, []),
  (1, .istore_n 2, 1, []),
  (2, .iconst 0, 1, []),
  (3, .istore_n 3, 1, []),
  (4, .iload_n 3, 1, []),
  (5, .aload_n 0, 1, []),
  (6, .getfield 7, 3, [7, 0, 0, 4123]),
  (9, .if_icmp .ge 43, 3, []),
  (12, .iload_n 3, 1, []),
  (13, .iload_n 1, 1, []),
  (14, .if_icmp .eq 32, 3, []),
  (17, .aload_n 0, 1, []),
  (18, .iload_n 3, 1, []),
  (19, .invokevirtual 291, 3, [139, 2, 0, 0, 5169, 5171, 70]),
  (22, .ifCond .eq 24, 3, []),
  (25, .iload_n 2, 1, []),
  (26, .ifCond .lt 18, 3, []),
  (29, .aload_n 0, 1, []),
  (30, .getfield 32, 3, [7, 7, 0, 4130]),
  (33, .iload_n 3, 1, []),
  (34, .iaload, 1, []),
  (35, .aload_n 0, 1, []),
  (36, .getfield 32, 3, [7, 7, 0, 4130]),
  (39, .iload_n 2, 1, []),
  (40, .iaload, 1, []),
  (41, .if_icmp .le 5, 3, []),
  (44, .iload_n 3, 1, []),
  (45, .istore_n 2, 1, []),
  (46, .iinc 3 1, 3, []),
  (49, .goto (-45), 3, []),
  (52, .iload_n 2, 1, []),
  (53, .ifCond .ge 12, 3, []),
  (56, .aload_n 0, 1, []),
  (57, .getfield 26, 3, [7, 5, 0, 4128]),
  (60, .iload_n 1, 1, []),
  (61, .iaload, 1, []),
  (62, .goto 9, 3, []),
  (65, .aload_n 0, 1, []),
  (66, .getfield 26, 3, [7, 5, 0, 4128]),
  (69, .iload_n 2, 1, []),
  (70, .iaload, 1, []),
  (71, .ireturn, 1, [])]
def c_146 : List En := [
  (0, .iconst 0, 1, []),
  (1, .istore_n 2, 1, []),
  (2, .bipush 99, 2, []),
  (4, .istore_n 3, 1, []),
  (5, .iconst 0, 1, []),
  (6, .istore 4, 2, []),
  (8, .iload 4, 2, []),
  (10, .bipush 7, 2, []),
  (12, .if_icmp .ge 64, 3, []),
  (15, .aload_n 0, 1, []),
  (16, .iload 4, 2, []),
  (18, .invokevirtual 294, 3, [144, 2, 0, 0, 5189, 5191, 75]),
  (21, .istore 5, 2, []),
  (23, .iload 5, 2, []),
  (25, .iload_n 3, 1, []),
  (26, .if_icmp .gt 44, 3, []),
  (29, .iload 5, 2, []),
  (31, .iload_n 3, 1, []),
  (32, .if_icmp .ne 32, 3, []),
  (35, .aload_n 0, 1, []),
  (36, .iload 4, 2, []),
  (38, .aload_n 0, 1, []),
  (39, .getfield 26, 3, [7, 5, 0, 4128]),
  (42, .iload_n 1, 1, []),
  (43, .iaload, 1, []),
  (44, .invokevirtual 281, 3, [142, 3, 0, 0, 5197, 5199, 77]),
  (47, .aload_n 0, 1, []),
  (48, .iload_n 2, 1, []),
  (49, .aload_n 0, 1, []),
  (50, .getfield 26, 3, [7, 5, 0, 4128]),
  (53, .iload_n 1, 1, []),
  (54, .iaload, 1, []),
  (55, .invokevirtual 281, 3, [142, 3, 0, 0, 5197, 5199, 77]),
  (58, .if_icmp .lt 6, 3, []),
  (61, .goto 9, 3, []),
  (64, .iload 4, 2, []),
  (66, .istore_n 2, 1, []),
  (67, .iload 5, 2, []),
  (69, .istore_n 3, 1, []),
  (70, .iinc 4 1, 3, []),
  (73, .goto (-65), 3, []),
  (76, .iload_n 2, 1, []),
  (77, .ireturn, 1, [])]
def c_147 : List En := [
  (0, .iload_n 1, 1, []),
  (1, .aload_n 0, 1, []),
  (2, .getfield 97, 3, [7, 28, 0, 4151]),
  (5, .if_icmp .ne 8, 3, []),
  (8, .aload_n 0, 1, []),
  (9, .getfield 100, 3, [7, 29, 0, 4152]),
  (12, .ireturn, 1, []),
  (13, .aload_n 0, 1, []),
  (14, .getfield 19, 3, [7, 3, 0, 4126]),
  (17, .iload_n 1, 1, []),
  (18, .iaload, 1, []),
  (19, .tableswitch 82 1 6 #[37, 54, 82, 37, 60, 66], 37, []),
  (56, .aload_n 0, 1, []),
  (57, .getfield 26, 3, [7, 5, 0, 4128]),
  (60, .iload_n 1, 1, []),
  (61, .iaload, 1, []),
  (62, .iconst 4, 1, []),
  (63, .if_icmp .ge 7, 3, []),
  (66, .iconst 0, 1, []),
  (67, .goto 5, 3, []),
  (70, .bipush 6, 2, []),
  (72, .ireturn, 1, []),
  (73, .aload_n 0, 1, []),
  (74, .iload_n 1, 1, []),
  (75, .invokevirtual 297, 3, [145, 2, 0, 0, 5181, 5183, 73]),
  (78, .ireturn, 1, []),
  (79, .aload_n 0, 1, []),
  (80, .iload_n 1, 1, []),
  (81, .invokevirtual 300, 3, [146, 2, 0, 0, 5185, 5187, 74]),
  (84, .ireturn, 1, []),
  (85, .aload_n 0, 1, []),
  (86, .getfield 35, 3, [7, 8, 0, 4131]),
  (89, .iconst 4, 1, []),
  (90, .iload_n 1, 1, []),
  (91, .imul, 1, []),
  (92, .aload_n 0, 1, []),
  (93, .getfield 13, 3, [7, 1, 0, 4124]),
  (96, .iconst 4, 1, []),
  (97, .irem, 1, []),
  (98, .iadd, 1, []),
  (99, .iaload, 1, []),
  (100, .ireturn, 1, []),
  (101, .aload_n 0, 1, []),
  (102, .getfield 26, 3, [7, 5, 0, 4128]),
  (105, .iload_n 1, 1, []),
  (106, .iaload, 1, []),
  (107, .ireturn, 1, [])]
def c_148 : List En := [
  (0, .aload_n 0, 1, []),
  (1, .getfield 32, 3, [7, 7, 0, 4130]),
  (4, .iload_n 1, 1, []),
  (5, .iaload, 1, []),
  (6, .aload_n 0, 1, []),
  (7, .getfield 29, 3, [7, 6, 0, 4129]),
  (10, .iload_n 1, 1, []),
  (11, .iaload, 1, []),
  (12, .iadd, 1, []),
  (13, .aload_n 0, 1, []),
  (14, .iconst 2, 1, []),
  (15, .iload_n 1, 1, []),
  (16, .aload_n 0, 1, []),
  (17, .iload_n 1, 1, []),
  (18, .invokevirtual 303, 3, [147, 2, 0, 0, 5177, 5179, 72]),
  (21, .iconst 0, 1, []),
  (22, .invokevirtual 277, 3, [138, 5, 0, 0, 5205, 5207, 79]),
  (25, .iadd, 1, []),
  (26, .aload_n 0, 1, []),
  (27, .getfield 19, 3, [7, 3, 0, 4126]),
  (30, .iload_n 1, 1, []),
  (31, .iaload, 1, []),
  (32, .iconst 4, 1, []),
  (33, .if_icmp .ne 12, 3, []),
  (36, .aload_n 0, 1, []),
  (37, .getfield 23, 3, [7, 4, 0, 4127]),
  (40, .iload_n 1, 1, []),
  (41, .iaload, 1, []),
  (42, .goto 4, 3, []),
  (45, .iconst 0, 1, []),
  (46, .iadd, 1, []),
  (47, .ireturn, 1, [])]
def c_149 : List En := [
  (0, .aload_n 0, 1, []),
  (1, .iload_n 1, 1, []),
  (2, .invokevirtual 210, 3, [112, 2, 0, 0, 5089, 5091, 55]),
  (5, .ifCond .ne 5, 3, []),
  (8, .iconst (-1), 1, []),
  (9, .ireturn, 1, []),
  (10, .iload_n 2, 1, []),
  (11, .tableswitch 173 0 9 #[53, 60, 67, 74, 81, 88, 97, 116, 135, 154], 53, []),
  (64, .aload_n 0, 1, []),
  (65, .getfield 19, 3, [7, 3, 0, 4126]),
  (68, .iload_n 1, 1, []),
  (69, .iaload, 1, []),
  (70, .ireturn, 1, []),
  (71, .aload_n 0, 1, []),
  (72, .getfield 23, 3, [7, 4, 0, 4127]),
  (75, .iload_n 1, 1, []),
  (76, .iaload, 1, []),
  (77, .ireturn, 1, []),
  (78, .aload_n 0, 1, []),
  (79, .getfield 26, 3, [7, 5, 0, 4128]),
  (82, .iload_n 1, 1, []),
  (83, .iaload, 1, []),
  (84, .ireturn, 1, []),
  (85, .aload_n 0, 1, []),
  (86, .getfield 29, 3, [7, 6, 0, 4129]),
  (89, .iload_n 1, 1, []),
  (90, .iaload, 1, []),
  (91, .ireturn, 1, []),
  (92, .aload_n 0, 1, []),
  (93, .getfield 32, 3, [7, 7, 0, 4130]),
  (96, .iload_n 1, 1, []),
  (97, .iaload, 1, []),
  (98, .ireturn, 1, []),
  (99, .aload_n 0, 1, []),
  (100, .getfield 16, 3, [7, 2, 0, 4125]),
  (103, .iload_n 1, 1, []),
  (104, .ishr, 1, []),
  (105, .iconst 1, 1, []),
  (106, .iand, 1, []),
  (107, .ireturn, 1, []),
  (108, .aload_n 0, 1, []),
  (109, .iload_n 1, 1, []),
  (110, .invokevirtual 291, 3, [139, 2, 0, 0, 5169, 5171, 70]),
  (113, .ifCond .eq 11, 3, []),
  (116, .aload_n 0, 1, []),
  (117, .iload_n 1, 1, []),
  (118, .invokevirtual 303, 3, [147, 2, 0, 0, 5177, 5179, 72]),
  (121, .goto 5, 3, []),
  (124, .bipush (-5), 2, []),
  (126, .ireturn, 1, []),
  (127, .aload_n 0, 1, []),
  (128, .iload_n 1, 1, []),
  (129, .invokevirtual 291, 3, [139, 2, 0, 0, 5169, 5171, 70]),
  (132, .ifCond .eq 8, 3, []),
  (135, .bipush (-5), 2, []),
  (137, .goto 8, 3, []),
  (140, .aload_n 0, 1, []),
  (141, .iload_n 1, 1, []),
  (142, .invokevirtual 285, 3, [140, 2, 0, 0, 5201, 5203, 78]),
  (145, .ireturn, 1, []),
  (146, .aload_n 0, 1, []),
  (147, .iload_n 1, 1, []),
  (148, .invokevirtual 291, 3, [139, 2, 0, 0, 5169, 5171, 70]),
  (151, .ifCond .eq 8, 3, []),
  (154, .bipush (-5), 2, []),
  (156, .goto 8, 3, []),
  (159, .aload_n 0, 1, []),
  (160, .iload_n 1, 1, []),
  (161, .invokevirtual 306, 3, [141, 2, 0, 0, 5225, 5227, 84]),
  (164, .ireturn, 1, []),
  (165, .aload_n 0, 1, []),
  (166, .iload_n 1, 1, []),
  (167, .invokevirtual 291, 3, [139, 2, 0, 0, 5169, 5171, 70]),
  (170, .ifCond .eq 11, 3, []),
  (173, .aload_n 0, 1, []),
  (174, .iload_n 1, 1, []),
  (175, .invokevirtual 309, 3, [148, 2, 0, 0, 5229, 5231, 85]),
  (178, .goto 5, 3, []),
  (181, .bipush (-5), 2, []),
  (183, .ireturn, 1, []),
  (184, .iconst (-1), 1, []),
  (185, .ireturn, 1, [])]
def c_150 : List En := [
  (0, .iload_n 1, 1, []),
  (1, .ifCond .ne 10, 3, []),
  (4, .aload_n 0, 1, []),
  (5, .getfield 13, 3, [7, 1, 0, 4124]),
  (8, .goto 35, 3, []),
  (11, .iload_n 1, 1, []),
  (12, .iconst 1, 1, []),
  (13, .if_icmp .ne 17, 3, []),
  (16, .aload_n 0, 1, []),
  (17, .invokevirtual 312, 3, [113, 1, 0, 0, 5237, 5239, 86]),
  (20, .aload_n 0, 1, []),
  (21, .getfield 16, 3, [7, 2, 0, 4125]),
  (24, .iconst (-1), 1, []),
  (25, .ixor, 1, []),
  (26, .iand, 1, []),
  (27, .goto 16, 3, []),
  (30, .iload_n 1, 1, []),
  (31, .iconst 2, 1, []),
  (32, .if_icmp .ne 10, 3, []),
  (35, .aload_n 0, 1, []),
  (36, .getfield 16, 3, [7, 2, 0, 4125]),
  (39, .goto 4, 3, []),
  (42, .iconst (-1), 1, []),
  (43, .ireturn, 1, [])]
def c_151 : List En := [
  (0, .aload_n 0, 1, []),
  (1, .getfield 19, 3, [7, 3, 0, 4126]),
  (4, .iload_n 1, 1, []),
  (5, .iaload, 1, []),
  (6, .iconst 3, 1, []),
  (7, .if_icmp .eq 14, 3, []),
  (10, .aload_n 0, 1, []),
  (11, .getfield 19, 3, [7, 3, 0, 4126]),
  (14, .iload_n 1, 1, []),
  (15, .iaload, 1, []),
  (16, .bipush 6, 2, []),
  (18, .if_icmp .ne 7, 3, []),
  (21, .iconst 1, 1, []),
  (22, .goto 4, 3, []),
  (25, .iconst 0, 1, []),
  (26, .ireturn, 1, [])]
def c_152 : List En := [
  (0, .aload_n 0, 1, []),
  (1, .iload_n 1, 1, []),
  (2, .invokevirtual 315, 3, [151, 2, 0, 0, 6021, 6023, 91]),
  (5, .aload_n 0, 1, []),
  (6, .iload_n 2, 1, []),
  (7, .invokevirtual 315, 3, [151, 2, 0, 0, 6021, 6023, 91]),
  (10, .if_icmp .eq 11, 3, []),
  (13, .aload_n 0, 1, []),
  (14, .iload_n 2, 1, []),
  (15, .invokevirtual 315, 3, [151, 2, 0, 0, 6021, 6023, 91]),
  (18, .goto 43, 3, []),
  (21, .aload_n 0, 1, []),
  (22, .getfield 29, 3, [7, 6, 0, 4129]),
  (25, .iload_n 1, 1, []),
  (26, .iaload, 1, []),
  (27, .aload_n 0, 1, []),
  (28, .getfield 29, 3, [7, 6, 0, 4129]),
  (31, .iload_n 2, 1, []),
  (32, .iaload, 1, []),
  (33, .if_icmp .gt 23, 3, []),
  (36, .aload_n 0, 1, []),
  (37, .getfield 29, 3, [7, 6, 0, 4129]),
  (40, .iload_n 1, 1, []),
  (41, .iaload, 1, []),
  (42, .aload_n 0, 1, []),
  (43, .getfield 29, 3, [7, 6, 0, 4129]),
  (46, .iload_n 2, 1, []),
  (47, .iaload, 1, []),
  (48, .if_icmp .ne 12, 3, []),
  (51, .iload_n 1, 1, []),
  (52, .iload_n 2, 1, []),
  (53, .if_icmp .ge 7, 3, []),
  (56, .iconst 1, 1, []),
  (57, .goto 4, 3, []),
  (60, .iconst 0, 1, []),
  (61, .ireturn, 1, [])]
def c_153 : List En := [
  (0, .aload_n 0, 1, []),
  (1, .getfield 115, 3, [7, 34, 0, 4157]),
  (4, .istore_n 3, 1, []),
  (5, .iload_n 3, 1, []),
  (6, .iload_n 2, 1, []),
  (7, .if_icmp .le 23, 3, []),
  (10, .aload_n 0, 1, []),
  (11, .getfield 112, 3, [7, 33, 0, 4156]),
  (14, .iload_n 3, 1, []),
  (15, .aload_n 0, 1, []),
  (16, .getfield 112, 3, [7, 33, 0, 4156]),
  (19, .iload_n 3, 1, []),
  (20, .iconst 1, 1, []),
  (21, .isub, 1, []),
  (22, .iaload, 1, []),
  (23, .iastore, 1, []),
  (24, .iinc 3 (-1), 3, []),
  (27, .goto (-22), 3, []),
  (30, .aload_n 0, 1, []),
  (31, .getfield 112, 3, [7, 33, 0, 4156]),
  (34, .iload_n 2, 1, []),
  (35, .iload_n 1, 1, []),
  (36, .iastore, 1, []),
  (37, .aload_n 0, 1, []),
  (38, .dup, 1, []),
  (39, .getfield 115, 3, [7, 34, 0, 4157]),
  (42, .iconst 1, 1, []),
  (43, .iadd, 1, []),
  (44, .putfield 115, 3, [7, 34, 0, 4157]),
  (47, .return_, 1, [])]
def c_154 : List En := [
  (0, .aload_n 0, 1, []),
  (1, .iconst 0, 1, []),
  (2, .putfield 115, 3, [7, 34, 0, 4157]),
  (5, .iconst 0, 1, []),
  (6, .istore_n 1, 1, []),
  (7, .iload_n 1, 1, []),
  (8, .aload_n 0, 1, []),
  (9, .getfield 7, 3, [7, 0, 0, 4123]),
  (12, .if_icmp .ge 64, 3, []),
  (15, .aload_n 0, 1, []),
  (16, .iload_n 1, 1, []),
  (17, .invokevirtual 291, 3, [139, 2, 0, 0, 5169, 5171, 70]),
  (20, .ifCond .eq 50, 3, []),
  (23, .iload_n 1, 1, []),
  (24, .aload_n 0, 1, []),
  (25, .getfield 103, 3, [7, 30, 0, 4153]),
  (28, .if_icmp .ne 6, 3, []),
  (31, .goto 39, 3, []),
  (34, .iconst 0, 1, []),
  (35, .istore_n 2, 1, []),
  (36, .iload_n 2, 1, []),
  (37, .aload_n 0, 1, []),
  (38, .getfield 115, 3, [7, 34, 0, 4157]),
  (41, .if_icmp .ge 23, 3, []),
  (44, .aload_n 0, 1, []),
  (45, .aload_n 0, 1, []),
  (46, .getfield 112, 3, [7, 33, 0, 4156]),
  (49, .iload_n 2, 1, []),
  (50, .iaload, 1, []),
  (51, .iload_n 1, 1, []),
  (52, .invokevirtual 317, 3, [152, 3, 0, 0, 6017, 6019, 90]),
  (55, .ifCond .eq 9, 3, []),
  (58, .iinc 2 1, 3, []),
  (61, .goto (-25), 3, []),
  (64, .aload_n 0, 1, []),
  (65, .iload_n 1, 1, []),
  (66, .iload_n 2, 1, []),
  (67, .invokevirtual 320, 3, [153, 3, 0, 0, 6025, 6027, 92]),
  (70, .iinc 1 1, 3, []),
  (73, .goto (-66), 3, []),
  (76, .aload_n 0, 1, []),
  (77, .getfield 103, 3, [7, 30, 0, 4153]),
  (80, .ifCond .ge 4, 3, []),
  (83, .return_, 1, []),
  (84, .iconst 0, 1, []),
  (85, .istore_n 1, 1, []),
  (86, .aload_n 0, 1, []),
  (87, .getfield 112, 3, [7, 33, 0, 4156]),
  (90, .iload_n 1, 1, []),
  (91, .iaload, 1, []),
  (92, .aload_n 0, 1, []),
  (93, .getfield 106, 3, [7, 31, 0, 4154]),
  (96, .if_icmp .eq 9, 3, []),
  (99, .iinc 1 1, 3, []),
  (102, .goto (-16), 3, []),
  (105, .aload_n 0, 1, []),
  (106, .aload_n 0, 1, []),
  (107, .getfield 103, 3, [7, 30, 0, 4153]),
  (110, .iload_n 1, 1, []),
  (111, .iconst 1, 1, []),
  (112, .iadd, 1, []),
  (113, .invokevirtual 320, 3, [153, 3, 0, 0, 6025, 6027, 92]),
  (116, .return_, 1, [])]
def c_155 : List En := [
  (0, .iconst 0, 1, []),
  (1, .istore_n 2, 1, []),
  (2, .iconst 0, 1, []),
  (3, .istore_n 3, 1, []),
  (4, .iload_n 3, 1, []),
  (5, .aload_n 0, 1, []),
  (6, .getfield 7, 3, [7, 0, 0, 4123]),
  (9, .if_icmp .ge 30, 3, []),
  (12, .iload_n 2, 1, []),
  (13, .aload_n 0, 1, []),
  (14, .iload_n 1, 1, []),
  (15, .iload_n 3, 1, []),
  (16, .invokevirtual 274, 3, [110, 3, 0, 0, 5173, 5175, 71]),
  (19, .ifCond .eq 11, 3, []),
  (22, .aload_n 0, 1, []),
  (23, .iload_n 3, 1, []),
  (24, .invokevirtual 306, 3, [141, 2, 0, 0, 5225, 5227, 84]),
  (27, .goto 4, 3, []),
  (30, .iconst 0, 1, []),
  (31, .iadd, 1, []),
  (32, .istore_n 2, 1, []),
  (33, .iinc 3 1, 3, []),
  (36, .goto (-32), 3, []),
  (39, .iload_n 2, 1, []),
  (40, .ireturn, 1, [])]
def c_156 : List En := [
  (0, .iconst 0, 1, []),
  (1, .istore_n 3, 1, []),
  (2, .iconst 0, 1, []),
  (3, .istore 4, 2, []),
  (5, .iload 4, 2, []),
  (7, .aload_n 0, 1, []),
  (8, .getfield 7, 3, [7, 0, 0, 4123]),
  (11, .if_icmp .ge 53, 3, []),
  (14, .iload_n 3, 1, []),
  (15, .aload_n 0, 1, []),
  (16, .aload_n 0, 1, []),
  (17, .getfield 16, 3, [7, 2, 0, 4125]),
  (20, .iload 4, 2, []),
  (22, .invokevirtual 274, 3, [110, 3, 0, 0, 5173, 5175, 71]),
  (25, .ifCond .eq 30, 3, []),
  (28, .aload_n 0, 1, []),
  (29, .iload_n 2, 1, []),
  (30, .iload 4, 2, []),
  (32, .invokevirtual 274, 3, [110, 3, 0, 0, 5173, 5175, 71]),
  (35, .ifCond .ne 20, 3, []),
  (38, .aload_n 0, 1, []),
  (39, .iload 4, 2, []),
  (41, .iload_n 1, 1, []),
  (42, .invokevirtual 288, 3, [143, 3, 0, 0, 5193, 5195, 76]),
  (45, .ifCond .eq 10, 3, []),
  (48, .iconst 1, 1, []),
  (49, .iload 4, 2, []),
  (51, .ishl, 1, []),
  (52, .goto 4, 3, []),
  (55, .iconst 0, 1, []),
  (56, .ior, 1, []),
  (57, .istore_n 3, 1, []),
  (58, .iinc 4 1, 3, []),
  (61, .goto (-56), 3, []),
  (64, .iload_n 3, 1, []),
  (65, .ireturn, 1, [])]
def c_157 : List En := [
  (0, .aload_n 0, 1, []),
  (1, .invokevirtual 324, 3, [154, 1, 0, 0, 6013, 6015, 89]),
  (4, .iconst 0, 1, []),
  (5, .istore_n 1, 1, []),
  (6, .iconst 0, 1, []),
  (7, .istore_n 2, 1, []),
  (8, .aload_n 0, 1, []),
  (9, .bipush (-5), 2, []),
  (11, .putfield 118, 3, [7, 35, 0, 4158]),
  (14, .iconst 0, 1, []),
  (15, .istore_n 3, 1, []),
  (16, .iload_n 3, 1, []),
  (17, .aload_n 0, 1, []),
  (18, .getfield 115, 3, [7, 34, 0, 4157]),
  (21, .if_icmp .ge 77, 3, []),
  (24, .aload_n 0, 1, []),
  (25, .getfield 112, 3, [7, 33, 0, 4156]),
  (28, .iload_n 3, 1, []),
  (29, .iaload, 1, []),
  (30, .istore 4, 2, []),
  (32, .aload_n 0, 1, []),
  (33, .aload_n 0, 1, []),
  (34, .iload 4, 2, []),
  (36, .invokevirtual 303, 3, [147, 2, 0, 0, 5177, 5179, 72]),
  (39, .iload_n 1, 1, []),
  (40, .invokevirtual 327, 3, [156, 3, 0, 0, 6029, 6031, 93]),
  (43, .istore 5, 2, []),
  (45, .aload_n 0, 1, []),
  (46, .iload 5, 2, []),
  (48, .invokevirtual 330, 3, [155, 2, 0, 0, 6033, 6035, 94]),
  (51, .aload_n 0, 1, []),
  (52, .iload 4, 2, []),
  (54, .invokevirtual 309, 3, [148, 2, 0, 0, 5229, 5231, 85]),
  (57, .if_icmp .gt 6, 3, []),
  (60, .goto 32, 3, []),
  (63, .aload_n 0, 1, []),
  (64, .iload_n 2, 1, []),
  (65, .ifCond .ne 8, 3, []),
  (68, .iload 4, 2, []),
  (70, .goto 7, 3, []),
  (73, .aload_n 0, 1, []),
  (74, .getfield 118, 3, [7, 35, 0, 4158]),
  (77, .putfield 118, 3, [7, 35, 0, 4158]),
  (80, .iload_n 2, 1, []),
  (81, .iconst 1, 1, []),
  (82, .iload 4, 2, []),
  (84, .ishl, 1, []),
  (85, .ior, 1, []),
  (86, .istore_n 2, 1, []),
  (87, .iload_n 1, 1, []),
  (88, .iload 5, 2, []),
  (90, .ior, 1, []),
  (91, .istore_n 1, 1, []),
  (92, .iinc 3 1, 3, []),
  (95, .goto (-79), 3, []),
  (98, .iload_n 2, 1, []),
  (99, .ireturn, 1, [])]
def c_158 : List En := [
  (0, .aload_n 0, 1, []),
  (1, .invokevirtual 333, 3, [157, 1, 0, 0, 6009, 6011, 88]),
  (4, .istore_n 1, 1, []),
  (5, .aload_n 0, 1, []),
  (6, .dup, 1, []),
  (7, .getfield 16, 3, [7, 2, 0, 4125]),
  (10, .iload_n 1, 1, []),
  (11, .ior, 1, []),
  (12, .putfield 16, 3, [7, 2, 0, 4125]),
  (15, .aload_n 0, 1, []),
  (16, .dup, 1, []),
  (17, .getfield 13, 3, [7, 1, 0, 4124]),
  (20, .iconst 1, 1, []),
  (21, .iadd, 1, []),
  (22, .putfield 13, 3, [7, 1, 0, 4124]),
  (25, .iload_n 1, 1, []),
  (26, .ireturn, 1, [])]
def c_159 : List En := [
  (0, .aload_n 0, 1, []),
  (1, .getfield 13, 3, [7, 1, 0, 4124]),
  (4, .sipush 999, 3, []),
  (7, .if_icmp .ne 8, 3, []),
  (10, .bipush (-3), 2, []),
  (12, .goto 7, 3, []),
  (15, .aload_n 0, 1, []),
  (16, .invokevirtual 336, 3, [158, 1, 0, 0, 6005, 6007, 87]),
  (19, .ireturn, 1, [])]
def c_160 : List En := [
  (0, .aload_n 0, 1, []),
  (1, .aload_n 0, 1, []),
  (2, .getfield 16, 3, [7, 2, 0, 4125]),
  (5, .putfield 121, 3, [7, 36, 0, 4159]),
  (8, .aload_n 0, 1, []),
  (9, .aload_n 0, 1, []),
  (10, .getfield 13, 3, [7, 1, 0, 4124]),
  (13, .putfield 124, 3, [7, 37, 0, 4160]),
  (16, .return_, 1, [])]
def c_161 : List En := [
  (0, .aload_n 0, 1, []),
  (1, .aload_n 0, 1, []),
  (2, .getfield 121, 3, [7, 36, 0, 4159]),
  (5, .putfield 16, 3, [7, 2, 0, 4125]),
  (8, .aload_n 0, 1, []),
  (9, .aload_n 0, 1, []),
  (10, .getfield 124, 3, [7, 37, 0, 4160]),
  (13, .putfield 13, 3, [7, 1, 0, 4124]),
  (16, .return_, 1, [])]
def c_162 : List En := [
  (0, .aload_n 0, 1, []),
  (1, .iload_n 2, 1, []),
  (2, .iconst 0, 1, []),
  (3, .iconst 1, 1, []),
  (4, .invokevirtual 206, 3, [109, 4, 0, 0, 5081, 5083, 54]),
  (7, .ifCond .ne 5, 3, []),
  (10, .iconst (-1), 1, []),
  (11, .ireturn, 1, []),
  (12, .aload_n 0, 1, []),
  (13, .iload_n 1, 1, []),
  (14, .iconst 0, 1, []),
  (15, .bipush 30, 2, []),
  (17, .invokevirtual 206, 3, [109, 4, 0, 0, 5081, 5083, 54]),
  (20, .ifCond .ne 6, 3, []),
  (23, .bipush (-2), 2, []),
  (25, .ireturn, 1, []),
  (26, .aload_n 0, 1, []),
  (27, .invokevirtual 339, 3, [160, 1, 0, 0, 6041, 6043, 95]),
  (30, .iconst 0, 1, []),
  (31, .istore_n 3, 1, []),
  (32, .iconst 0, 1, []),
  (33, .istore 4, 2, []),
  (35, .iload 4, 2, []),
  (37, .iload_n 1, 1, []),
  (38, .if_icmp .ge 20, 3, []),
  (41, .iload_n 3, 1, []),
  (42, .aload_n 0, 1, []),
  (43, .aload_n 0, 1, []),
  (44, .invokevirtual 336, 3, [158, 1, 0, 0, 6005, 6007, 87]),
  (47, .invokevirtual 342, 3, [111, 2, 0, 0, 6045, 6047, 96]),
  (50, .iadd, 1, []),
  (51, .istore_n 3, 1, []),
  (52, .iinc 4 1, 3, []),
  (55, .goto (-20), 3, []),
  (58, .iload_n 2, 1, []),
  (59, .ifCond .ne 17, 3, []),
  (62, .aload_n 0, 1, []),
  (63, .invokevirtual 312, 3, [113, 1, 0, 0, 5237, 5239, 86]),
  (66, .aload_n 0, 1, []),
  (67, .getfield 16, 3, [7, 2, 0, 4125]),
  (70, .iconst (-1), 1, []),
  (71, .ixor, 1, []),
  (72, .iand, 1, []),
  (73, .goto 4, 3, []),
  (76, .iload_n 3, 1, []),
  (77, .istore 4, 2, []),
  (79, .aload_n 0, 1, []),
  (80, .invokevirtual 345, 3, [161, 1, 0, 0, 6049, 6051, 97]),
  (83, .iload 4, 2, []),
  (85, .ireturn, 1, [])]
def c_163 : List En := [
  (0, .iconst 0, 1, []),
  (1, .istore_n 2, 1, []),
  (2, .iload_n 2, 1, []),
  (3, .aload_n 0, 1, []),
  (4, .getfield 7, 3, [7, 0, 0, 4123]),
  (7, .if_icmp .ge 18, 3, []),
  (10, .iload_n 1, 1, []),
  (11, .iconst 1, 1, []),
  (12, .iload_n 2, 1, []),
  (13, .ishl, 1, []),
  (14, .if_icmp .ne 5, 3, []),
  (17, .iload_n 2, 1, []),
  (18, .ireturn, 1, []),
  (19, .iinc 2 1, 3, []),
  (22, .goto (-20), 3, []),
  (25, .bipush (-5), 2, []),
  (27, .ireturn, 1, [])]
def c_164 : List En := [
  (0, .aload_n 0, 1, []),
  (1, .iload_n 1, 1, []),
  (2, .iconst 0, 1, []),
  (3, .iconst 1, 1, []),
  (4, .invokevirtual 206, 3, [109, 4, 0, 0, 5081, 5083, 54]),
  (7, .ifCond .ne 5, 3, []),
  (10, .iconst (-1), 1, []),
  (11, .ireturn, 1, []),
  (12, .aload_n 0, 1, []),
  (13, .invokevirtual 339, 3, [160, 1, 0, 0, 6041, 6043, 95]),
  (16, .iconst 0, 1, []),
  (17, .istore_n 2, 1, []),
  (18, .iload_n 2, 1, []),
  (19, .bipush 31, 2, []),
  (21, .if_icmp .ge 33, 3, []),
  (24, .aload_n 0, 1, []),
  (25, .aload_n 0, 1, []),
  (26, .invokevirtual 312, 3, [113, 1, 0, 0, 5237, 5239, 86]),
  (29, .aload_n 0, 1, []),
  (30, .getfield 16, 3, [7, 2, 0, 4125]),
  (33, .iconst (-1), 1, []),
  (34, .ixor, 1, []),
  (35, .iand, 1, []),
  (36, .invokevirtual 342, 3, [111, 2, 0, 0, 6045, 6047, 96]),
  (39, .iconst 1, 1, []),
  (40, .if_icmp .le 14, 3, []),
  (43, .aload_n 0, 1, []),
  (44, .invokevirtual 336, 3, [158, 1, 0, 0, 6005, 6007, 87]),
  (47, .istore_n 3, 1, []),
  (48, .iinc 2 1, 3, []),
  (51, .goto (-33), 3, []),
  (54, .aload_n 0, 1, []),
  (55, .invokevirtual 312, 3, [113, 1, 0, 0, 5237, 5239, 86]),
  (58, .aload_n 0, 1, []),
  (59, .getfield 16, 3, [7, 2, 0, 4125]),
  (62, .iconst (-1), 1, []),
  (63, .ixor, 1, []),
  (64, .iand, 1, []),
  (65, .istore_n 3, 1, []),
  (66, .aload_n 0, 1, []),
  (67, .invokevirtual 345, 3, [161, 1, 0, 0, 6049, 6051, 97]),
  (70, .iload_n 2, 1, []),
  (71, .bipush 30, 2, []),
  (73, .if_icmp .le 6, 3, []),
  (76, .bipush (-5), 2, []),
  (78, .ireturn, 1, []),
  (79, .iload_n 1, 1, []),
  (80, .ifCond .ne 11, 3, []),
  (83, .aload_n 0, 1, []),
  (84, .iload_n 3, 1, []),
  (85, .invokevirtual 348, 3, [163, 2, 0, 0, 6057, 6059, 98]),
  (88, .goto 4, 3, []),
  (91, .iload_n 2, 1, []),
  (92, .ireturn, 1, [])]
def c_165 : List En := [
  (0, .aload_n 0, 1, []),
  (1, .iload_n 1, 1, []),
  (2, .iconst 0, 1, []),
  (3, .iconst 1, 1, []),
  (4, .invokevirtual 206, 3, [109, 4, 0, 0, 5081, 5083, 54]),
  (7, .ifCond .ne 5, 3, []),
  (10, .iconst (-1), 1, []),
  (11, .ireturn, 1, []),
  (12, .bipush (-5), 2, []),
  (14, .istore_n 2, 1, []),
  (15, .bipush (-5), 2, []),
  (17, .istore_n 3, 1, []),
  (18, .iconst 0, 1, []),
  (19, .istore 4, 2, []),
  (21, .iload 4, 2, []),
  (23, .aload_n 0, 1, []),
  (24, .getfield 7, 3, [7, 0, 0, 4123]),
  (27, .if_icmp .ge 74, 3, []),
  (30, .aload_n 0, 1, []),
  (31, .iload 4, 2, []),
  (33, .invokevirtual 291, 3, [139, 2, 0, 0, 5169, 5171, 70]),
  (36, .ifCond .ne 6, 3, []),
  (39, .goto 56, 3, []),
  (42, .aload_n 0, 1, []),
  (43, .dup, 1, []),
  (44, .getfield 16, 3, [7, 2, 0, 4125]),
  (47, .iconst 1, 1, []),
  (48, .iload 4, 2, []),
  (50, .ishl, 1, []),
  (51, .ior, 1, []),
  (52, .putfield 16, 3, [7, 2, 0, 4125]),
  (55, .aload_n 0, 1, []),
  (56, .aload_n 0, 1, []),
  (57, .invokevirtual 333, 3, [157, 1, 0, 0, 6009, 6011, 88]),
  (60, .invokevirtual 342, 3, [111, 2, 0, 0, 6045, 6047, 96]),
  (63, .istore 5, 2, []),
  (65, .aload_n 0, 1, []),
  (66, .dup, 1, []),
  (67, .getfield 16, 3, [7, 2, 0, 4125]),
  (70, .iconst 1, 1, []),
  (71, .iload 4, 2, []),
  (73, .ishl, 1, []),
  (74, .iconst (-1), 1, []),
  (75, .ixor, 1, []),
  (76, .iand, 1, []),
  (77, .putfield 16, 3, [7, 2, 0, 4125]),
  (80, .iload 5, 2, []),
  (82, .iload_n 3, 1, []),
  (83, .if_icmp .gt 6, 3, []),
  (86, .goto 9, 3, []),
  (89, .iload 4, 2, []),
  (91, .istore_n 2, 1, []),
  (92, .iload 5, 2, []),
  (94, .istore_n 3, 1, []),
  (95, .iinc 4 1, 3, []),
  (98, .goto (-77), 3, []),
  (101, .iload_n 1, 1, []),
  (102, .ifCond .ne 7, 3, []),
  (105, .iload_n 2, 1, []),
  (106, .goto 4, 3, []),
  (109, .iload_n 3, 1, []),
  (110, .ireturn, 1, [])]
def c_166 : List En := [
  (0, .aload_n 0, 1, []),
  (1, .iload_n 1, 1, []),
  (2, .invokevirtual 210, 3, [112, 2, 0, 0, 5089, 5091, 55]),
  (5, .ifCond .eq 13, 3, []),
  (8, .aload_n 0, 1, []),
  (9, .iload_n 2, 1, []),
  (10, .iconst 0, 1, []),
  (11, .iconst 1, 1, []),
  (12, .invokevirtual 206, 3, [109, 4, 0, 0, 5081, 5083, 54]),
  (15, .ifCond .ne 5, 3, []),
  (18, .iconst (-1), 1, []),
  (19, .ireturn, 1, []),
  (20, .aload_n 0, 1, []),
  (21, .iload_n 1, 1, []),
  (22, .invokevirtual 291, 3, [139, 2, 0, 0, 5169, 5171, 70]),
  (25, .ifCond .eq 6, 3, []),
  (28, .bipush (-3), 2, []),
  (30, .ireturn, 1, []),
  (31, .aload_n 0, 1, []),
  (32, .getfield 26, 3, [7, 5, 0, 4128]),
  (35, .iload_n 1, 1, []),
  (36, .iaload, 1, []),
  (37, .istore_n 3, 1, []),
  (38, .iconst 0, 1, []),
  (39, .istore 4, 2, []),
  (41, .iconst (-1), 1, []),
  (42, .istore 5, 2, []),
  (44, .iconst 0, 1, []),
  (45, .istore 6, 2, []),
  (47, .iload 6, 2, []),
  (49, .bipush 7, 2, []),
  (51, .if_icmp .ge 45, 3, []),
  (54, .aload_n 0, 1, []),
  (55, .getfield 26, 3, [7, 5, 0, 4128]),
  (58, .iload_n 1, 1, []),
  (59, .iload 6, 2, []),
  (61, .iastore, 1, []),
  (62, .aload_n 0, 1, []),
  (63, .aload_n 0, 1, []),
  (64, .invokevirtual 333, 3, [157, 1, 0, 0, 6009, 6011, 88]),
  (67, .invokevirtual 342, 3, [111, 2, 0, 0, 6045, 6047, 96]),
  (70, .istore 7, 2, []),
  (72, .iload 7, 2, []),
  (74, .iload 5, 2, []),
  (76, .if_icmp .gt 6, 3, []),
  (79, .goto 11, 3, []),
  (82, .iload 6, 2, []),
  (84, .istore 4, 2, []),
  (86, .iload 7, 2, []),
  (88, .istore 5, 2, []),
  (90, .iinc 6 1, 3, []),
  (93, .goto (-46), 3, []),
  (96, .aload_n 0, 1, []),
  (97, .getfield 26, 3, [7, 5, 0, 4128]),
  (100, .iload_n 1, 1, []),
  (101, .iload_n 3, 1, []),
  (102, .iastore, 1, []),
  (103, .iload_n 2, 1, []),
  (104, .ifCond .ne 8, 3, []),
  (107, .iload 4, 2, []),
  (109, .goto 5, 3, []),
  (112, .iload 5, 2, []),
  (114, .ireturn, 1, [])]
def c_167 : List En := [
  (0, .aload_n 0, 1, []),
  (1, .iload_n 1, 1, []),
  (2, .invokevirtual 210, 3, [112, 2, 0, 0, 5089, 5091, 55]),
  (5, .ifCond .ne 5, 3, []),
  (8, .iconst (-1), 1, []),
  (9, .ireturn, 1, []),
  (10, .aload_n 0, 1, []),
  (11, .iload_n 1, 1, []),
  (12, .invokevirtual 291, 3, [139, 2, 0, 0, 5169, 5171, 70]),
  (15, .ifCond .ne 6, 3, []),
  (18, .bipush (-3), 2, []),
  (20, .ireturn, 1, []),
  (21, .iconst 0, 1, []),
  (22, .istore_n 2, 1, []),
  (23, .aload_n 0, 1, []),
  (24, .iload_n 1, 1, []),
  (25, .putfield 97, 3, [7, 28, 0, 4151]),
  (28, .iconst 0, 1, []),
  (29, .istore_n 3, 1, []),
  (30, .iload_n 3, 1, []),
  (31, .bipush 7, 2, []),
  (33, .if_icmp .ge 36, 3, []),
  (36, .aload_n 0, 1, []),
  (37, .iload_n 3, 1, []),
  (38, .putfield 100, 3, [7, 29, 0, 4152]),
  (41, .iload_n 2, 1, []),
  (42, .aload_n 0, 1, []),
  (43, .aload_n 0, 1, []),
  (44, .invokevirtual 333, 3, [157, 1, 0, 0, 6009, 6011, 88]),
  (47, .iload_n 1, 1, []),
  (48, .invokevirtual 274, 3, [110, 3, 0, 0, 5173, 5175, 71]),
  (51, .ifCond .eq 7, 3, []),
  (54, .iconst 0, 1, []),
  (55, .goto 6, 3, []),
  (58, .iconst 1, 1, []),
  (59, .iload_n 3, 1, []),
  (60, .ishl, 1, []),
  (61, .ior, 1, []),
  (62, .istore_n 2, 1, []),
  (63, .iinc 3 1, 3, []),
  (66, .goto (-36), 3, []),
  (69, .aload_n 0, 1, []),
  (70, .iconst (-1), 1, []),
  (71, .putfield 97, 3, [7, 28, 0, 4151]),
  (74, .iload_n 2, 1, []),
  (75, .ireturn, 1, [])]
def c_168 : List En := [
  (0, .aload_n 0, 1, []),
  (1, .iload_n 1, 1, []),
  (2, .invokevirtual 210, 3, [112, 2, 0, 0, 5089, 5091, 55]),
  (5, .ifCond .ne 5, 3, []),
  (8, .iconst (-1), 1, []),
  (9, .ireturn, 1, []),
  (10, .aload_n 0, 1, []),
  (11, .iload_n 1, 1, []),
  (12, .invokevirtual 291, 3, [139, 2, 0, 0, 5169, 5171, 70]),
  (15, .ifCond .ne 6, 3, []),
  (18, .bipush (-3), 2, []),
  (20, .ireturn, 1, []),
  (21, .aload_n 0, 1, []),
  (22, .getfield 32, 3, [7, 7, 0, 4130]),
  (25, .iload_n 1, 1, []),
  (26, .iaload, 1, []),
  (27, .istore_n 2, 1, []),
  (28, .bipush (-5), 2, []),
  (30, .istore_n 3, 1, []),
  (31, .iconst 0, 1, []),
  (32, .istore 4, 2, []),
  (34, .iload 4, 2, []),
  (36, .bipush 10, 2, []),
  (38, .if_icmp .ge 41, 3, []),
  (41, .iload_n 3, 1, []),
  (42, .ifCond .ge 37, 3, []),
  (45, .aload_n 0, 1, []),
  (46, .getfield 32, 3, [7, 7, 0, 4130]),
  (49, .iload_n 1, 1, []),
  (50, .iload 4, 2, []),
  (52, .iastore, 1, []),
  (53, .aload_n 0, 1, []),
  (54, .aload_n 0, 1, []),
  (55, .invokevirtual 333, 3, [157, 1, 0, 0, 6009, 6011, 88]),
  (58, .iload_n 1, 1, []),
  (59, .invokevirtual 274, 3, [110, 3, 0, 0, 5173, 5175, 71]),
  (62, .ifCond .eq 8, 3, []),
  (65, .bipush (-5), 2, []),
  (67, .goto 5, 3, []),
  (70, .iload 4, 2, []),
  (72, .istore_n 3, 1, []),
  (73, .iinc 4 1, 3, []),
  (76, .goto (-42), 3, []),
  (79, .aload_n 0, 1, []),
  (80, .getfield 32, 3, [7, 7, 0, 4130]),
  (83, .iload_n 1, 1, []),
  (84, .iload_n 2, 1, []),
  (85, .iastore, 1, []),
  (86, .iload_n 3, 1, []),
  (87, .ireturn, 1, [])]
def c_169 : List En := [
  (0, .aload_n 0, 1, []),
  (1, .iconst 1, 1, []),
  (2, .putfield 93, 3, [7, 27, 0, 4150]),
  (5, .aload_n 0, 1, []),
  (6, .invokevirtual 333, 3, [157, 1, 0, 0, 6009, 6011, 88]),
  (9, .istore_n 1, 1, []),
  (10, .aload_n 0, 1, []),
  (11, .iconst 0, 1, []),
  (12, .putfield 93, 3, [7, 27, 0, 4150]),
  (15, .aload_n 0, 1, []),
  (16, .getfield 118, 3, [7, 35, 0, 4158]),
  (19, .ireturn, 1, [])]
def c_170 : List En := [
  (0, .aload_n 0, 1, []),
  (1, .iload_n 1, 1, []),
  (2, .invokevirtual 210, 3, [112, 2, 0, 0, 5089, 5091, 55]),
  (5, .ifCond .ne 5, 3, []),
  (8, .iconst (-1), 1, []),
  (9, .ireturn, 1, []),
  (10, .aload_n 0, 1, []),
  (11, .iload_n 1, 1, []),
  (12, .invokevirtual 291, 3, [139, 2, 0, 0, 5169, 5171, 70]),
  (15, .ifCond .eq 6, 3, []),
  (18, .bipush (-3), 2, []),
  (20, .ireturn, 1, []),
  (21, .aload_n 0, 1, []),
  (22, .getfield 16, 3, [7, 2, 0, 4125]),
  (25, .istore_n 2, 1, []),
  (26, .aload_n 0, 1, []),
  (27, .aload_n 0, 1, []),
  (28, .getfield 16, 3, [7, 2, 0, 4125]),
  (31, .iconst 1, 1, []),
  (32, .iload_n 1, 1, []),
  (33, .ishl, 1, []),
  (34, .iconst (-1), 1, []),
  (35, .ixor, 1, []),
  (36, .iand, 1, []),
  (37, .putfield 109, 3, [7, 32, 0, 4155]),
  (40, .aload_n 0, 1, []),
  (41, .iconst 1, 1, []),
  (42, .iload_n 1, 1, []),
  (43, .ishl, 1, []),
  (44, .putfield 16, 3, [7, 2, 0, 4125]),
  (47, .aload_n 0, 1, []),
  (48, .aload_n 0, 1, []),
  (49, .invokevirtual 333, 3, [157, 1, 0, 0, 6009, 6011, 88]),
  (52, .invokevirtual 342, 3, [111, 2, 0, 0, 6045, 6047, 96]),
  (55, .istore_n 3, 1, []),
  (56, .aload_n 0, 1, []),
  (57, .iconst 0, 1, []),
  (58, .putfield 109, 3, [7, 32, 0, 4155]),
  (61, .aload_n 0, 1, []),
  (62, .iload_n 2, 1, []),
  (63, .putfield 16, 3, [7, 2, 0, 4125]),
  (66, .iload_n 3, 1, []),
  (67, .ireturn, 1, [])]
def c_171 : List En := [
  (0, .iconst 0, 1, []),
  (1, .istore_n 1, 1, []),
  (2, .iconst 0, 1, []),
  (3, .istore_n 2, 1, []),
  (4, .iload_n 2, 1, []),
  (5, .aload_n 0, 1, []),
  (6, .getfield 7, 3, [7, 0, 0, 4123]),
  (9, .if_icmp .ge 35, 3, []),
  (12, .aload_n 0, 1, []),
  (13, .iload_n 2, 1, []),
  (14, .invokevirtual 291, 3, [139, 2, 0, 0, 5169, 5171, 70]),
  (17, .ifCond .eq 6, 3, []),
  (20, .goto 18, 3, []),
  (23, .aload_n 0, 1, []),
  (24, .getfield 26, 3, [7, 5, 0, 4128]),
  (27, .iload_n 2, 1, []),
  (28, .aload_n 0, 1, []),
  (29, .getfield 127, 3, [7, 38, 0, 4161]),
  (32, .iload_n 1, 1, []),
  (33, .iaload, 1, []),
  (34, .iastore, 1, []),
  (35, .iinc 1 1, 3, []),
  (38, .iinc 2 1, 3, []),
  (41, .goto (-37), 3, []),
  (44, .return_, 1, [])]
def c_172 : List En := [
  (0, .iload_n 1, 1, []),
  (1, .iconst 1, 1, []),
  (2, .isub, 1, []),
  (3, .istore_n 2, 1, []),
  (4, .iload_n 2, 1, []),
  (5, .ifCond .lt 39, 3, []),
  (8, .aload_n 0, 1, []),
  (9, .getfield 127, 3, [7, 38, 0, 4161]),
  (12, .iload_n 2, 1, []),
  (13, .dup2, 1, []),
  (14, .iaload, 1, []),
  (15, .iconst 1, 1, []),
  (16, .iadd, 1, []),
  (17, .iastore, 1, []),
  (18, .aload_n 0, 1, []),
  (19, .getfield 127, 3, [7, 38, 0, 4161]),
  (22, .iload_n 2, 1, []),
  (23, .iaload, 1, []),
  (24, .bipush 7, 2, []),
  (26, .if_icmp .ge 5, 3, []),
  (29, .iconst 1, 1, []),
  (30, .ireturn, 1, []),
  (31, .aload_n 0, 1, []),
  (32, .getfield 127, 3, [7, 38, 0, 4161]),
  (35, .iload_n 2, 1, []),
  (36, .iconst 0, 1, []),
  (37, .iastore, 1, []),
  (38, .iinc 2 (-1), 3, []),
  (41, .goto (-37), 3, []),
  (44, .iconst 0, 1, []),
  (45, .ireturn, 1, [])]
def c_173 : List En := [
  (0, .aload_n 0, 1, []),
  (1, .iload_n 1, 1, []),
  (2, .iconst (-1), 1, []),
  (3, .iconst 2, 1, []),
  (4, .invokevirtual 206, 3, [109, 4, 0, 0, 5081, 5083, 54]),
  (7, .ifCond .ne 5, 3, []),
  (10, .iconst (-1), 1, []),
  (11, .ireturn, 1, []),
  (12, .aload_n 0, 1, []),
  (13, .aload_n 0, 1, []),
  (14, .getfield 16, 3, [7, 2, 0, 4125]),
  (17, .invokevirtual 342, 3, [111, 2, 0, 0, 6045, 6047, 96]),
  (20, .istore_n 2, 1, []),
  (21, .iload_n 2, 1, []),
  (22, .iconst 3, 1, []),
  (23, .if_icmp .le 6, 3, []),
  (26, .bipush (-9), 2, []),
  (28, .ireturn, 1, []),
  (29, .iconst 0, 1, []),
  (30, .istore_n 3, 1, []),
  (31, .iload_n 3, 1, []),
  (32, .bipush 7, 2, []),
  (34, .if_icmp .ge 21, 3, []),
  (37, .aload_n 0, 1, []),
  (38, .getfield 133, 3, [7, 40, 0, 4163]),
  (41, .iload_n 3, 1, []),
  (42, .aload_n 0, 1, []),
  (43, .getfield 26, 3, [7, 5, 0, 4128]),
  (46, .iload_n 3, 1, []),
  (47, .iaload, 1, []),
  (48, .iastore, 1, []),
  (49, .iinc 3 1, 3, []),
  (52, .goto (-21), 3, []),
  (55, .iconst 0, 1, []),
  (56, .istore_n 3, 1, []),
  (57, .iload_n 3, 1, []),
  (58, .iconst 3, 1, []),
  (59, .if_icmp .ge 16, 3, []),
  (62, .aload_n 0, 1, []),
  (63, .getfield 127, 3, [7, 38, 0, 4161]),
  (66, .iload_n 3, 1, []),
  (67, .iconst 0, 1, []),
  (68, .iastore, 1, []),
  (69, .iinc 3 1, 3, []),
  (72, .goto (-15), 3, []),
  (75, .iconst (-1), 1, []),
  (76, .istore_n 3, 1, []),
  (77, .iconst 1, 1, []),
  (78, .istore 4, 2, []),
  (80, .iload 4, 2, []),
  (82, .ifCond .eq 65, 3, []),
  (85, .aload_n 0, 1, []),
  (86, .invokevirtual 351, 3, [171, 1, 0, 0, 6089, 6091, 99]),
  (89, .aload_n 0, 1, []),
  (90, .aload_n 0, 1, []),
  (91, .invokevirtual 333, 3, [157, 1, 0, 0, 6009, 6011, 88]),
  (94, .invokevirtual 342, 3, [111, 2, 0, 0, 6045, 6047, 96]),
  (97, .istore 5, 2, []),
  (99, .iload 5, 2, []),
  (101, .iload_n 3, 1, []),
  (102, .if_icmp .le 35, 3, []),
  (105, .iload 5, 2, []),
  (107, .istore_n 3, 1, []),
  (108, .iconst 0, 1, []),
  (109, .istore 6, 2, []),
  (111, .iload 6, 2, []),
  (113, .iconst 3, 1, []),
  (114, .if_icmp .ge 23, 3, []),
  (117, .aload_n 0, 1, []),
  (118, .getfield 130, 3, [7, 39, 0, 4162]),
  (121, .iload 6, 2, []),
  (123, .aload_n 0, 1, []),
  (124, .getfield 127, 3, [7, 38, 0, 4161]),
  (127, .iload 6, 2, []),
  (129, .iaload, 1, []),
  (130, .iastore, 1, []),
  (131, .iinc 6 1, 3, []),
  (134, .goto (-23), 3, []),
  (137, .aload_n 0, 1, []),
  (138, .iload_n 2, 1, []),
  (139, .invokevirtual 354, 3, [172, 2, 0, 0, 6093, 6095, 100]),
  (142, .istore 4, 2, []),
  (144, .goto (-64), 3, []),
  (147, .iconst 0, 1, []),
  (148, .istore 5, 2, []),
  (150, .iload 5, 2, []),
  (152, .bipush 7, 2, []),
  (154, .if_icmp .ge 23, 3, []),
  (157, .aload_n 0, 1, []),
  (158, .getfield 26, 3, [7, 5, 0, 4128]),
  (161, .iload 5, 2, []),
  (163, .aload_n 0, 1, []),
  (164, .getfield 133, 3, [7, 40, 0, 4163]),
  (167, .iload 5, 2, []),
  (169, .iaload, 1, []),
  (170, .iastore, 1, []),
  (171, .iinc 5 1, 3, []),
  (174, .goto (-24), 3, []),
  (177, .iload_n 1, 1, []),
  (178, .ifCond .ge 7, 3, []),
  (181, .iload_n 3, 1, []),
  (182, .goto 19, 3, []),
  (185, .iload_n 1, 1, []),
  (186, .iload_n 2, 1, []),
  (187, .if_icmp .ge 12, 3, []),
  (190, .aload_n 0, 1, []),
  (191, .getfield 130, 3, [7, 39, 0, 4162]),
  (194, .iload_n 1, 1, []),
  (195, .iaload, 1, []),
  (196, .goto 5, 3, []),
  (199, .bipush (-5), 2, []),
  (201, .ireturn, 1, [])]
def c_174 : List En := [
  (0, .aload_n 0, 1, []),
  (1, .iload_n 1, 1, []),
  (2, .invokevirtual 210, 3, [112, 2, 0, 0, 5089, 5091, 55]),
  (5, .ifCond .eq 11, 3, []),
  (8, .aload_n 0, 1, []),
  (9, .iload_n 2, 1, []),
  (10, .invokevirtual 210, 3, [112, 2, 0, 0, 5089, 5091, 55]),
  (13, .ifCond .ne 5, 3, []),
  (16, .iconst (-1), 1, []),
  (17, .ireturn, 1, []),
  (18, .iload_n 1, 1, []),
  (19, .iload_n 2, 1, []),
  (20, .if_icmp .ne 6, 3, []),
  (23, .bipush (-2), 2, []),
  (25, .ireturn, 1, []),
  (26, .aload_n 0, 1, []),
  (27, .iload_n 1, 1, []),
  (28, .invokevirtual 291, 3, [139, 2, 0, 0, 5169, 5171, 70]),
  (31, .ifCond .eq 11, 3, []),
  (34, .aload_n 0, 1, []),
  (35, .iload_n 2, 1, []),
  (36, .invokevirtual 291, 3, [139, 2, 0, 0, 5169, 5171, 70]),
  (39, .ifCond .ne 6, 3, []),
  (42, .bipush (-3), 2, []),
  (44, .ireturn, 1, []),
  (45, .aload_n 0, 1, []),
  (46, .iload_n 2, 1, []),
  (47, .invokevirtual 303, 3, [147, 2, 0, 0, 5177, 5179, 72]),
  (50, .istore_n 3, 1, []),
  (51, .aload_n 0, 1, []),
  (52, .iload_n 1, 1, []),
  (53, .putfield 97, 3, [7, 28, 0, 4151]),
  (56, .aload_n 0, 1, []),
  (57, .iload_n 3, 1, []),
  (58, .putfield 100, 3, [7, 29, 0, 4152]),
  (61, .aload_n 0, 1, []),
  (62, .iload_n 1, 1, []),
  (63, .putfield 103, 3, [7, 30, 0, 4153]),
  (66, .aload_n 0, 1, []),
  (67, .iload_n 2, 1, []),
  (68, .putfield 106, 3, [7, 31, 0, 4154]),
  (71, .aload_n 0, 1, []),
  (72, .invokevirtual 333, 3, [157, 1, 0, 0, 6009, 6011, 88]),
  (75, .istore 4, 2, []),
  (77, .aload_n 0, 1, []),
  (78, .iconst (-1), 1, []),
  (79, .putfield 97, 3, [7, 28, 0, 4151]),
  (82, .aload_n 0, 1, []),
  (83, .iconst (-1), 1, []),
  (84, .putfield 103, 3, [7, 30, 0, 4153]),
  (87, .aload_n 0, 1, []),
  (88, .iload 4, 2, []),
  (90, .iload_n 1, 1, []),
  (91, .invokevirtual 274, 3, [110, 3, 0, 0, 5173, 5175, 71]),
  (94, .ifCond .eq 7, 3, []),
  (97, .iconst 0, 1, []),
  (98, .goto 4, 3, []),
  (101, .iconst 1, 1, []),
  (102, .ireturn, 1, [])]
def c_175 : List En := [
  (0, .aload_n 0, 1, []),
  (1, .iload_n 1, 1, []),
  (2, .iconst 0, 1, []),
  (3, .aload_n 0, 1, []),
  (4, .invokevirtual 312, 3, [113, 1, 0, 0, 5237, 5239, 86]),
  (7, .invokevirtual 206, 3, [109, 4, 0, 0, 5081, 5083, 54]),
  (10, .ifCond .ne 6, 3, []),
  (13, .bipush (-2), 2, []),
  (15, .ireturn, 1, []),
  (16, .aload_n 0, 1, []),
  (17, .getfield 136, 3, [7, 41, 0, 4164]),
  (20, .istore_n 2, 1, []),
  (21, .aload_n 0, 1, []),
  (22, .iload_n 1, 1, []),
  (23, .putfield 136, 3, [7, 41, 0, 4164]),
  (26, .iload_n 2, 1, []),
  (27, .ireturn, 1, [])]
def c_176 : List En := [
  (0, .aload_n 0, 1, []),
  (1, .iload_n 1, 1, []),
  (2, .invokevirtual 210, 3, [112, 2, 0, 0, 5089, 5091, 55]),
  (5, .ifCond .ne 5, 3, []),
  (8, .iconst (-1), 1, []),
  (9, .ireturn, 1, []),
  (10, .aload_n 0, 1, []),
  (11, .iload_n 1, 1, []),
  (12, .invokevirtual 291, 3, [139, 2, 0, 0, 5169, 5171, 70]),
  (15, .ifCond .eq 6, 3, []),
  (18, .bipush (-3), 2, []),
  (20, .ireturn, 1, []),
  (21, .aload_n 0, 1, []),
  (22, .getfield 26, 3, [7, 5, 0, 4128]),
  (25, .iload_n 1, 1, []),
  (26, .iaload, 1, []),
  (27, .istore_n 2, 1, []),
  (28, .iconst 0, 1, []),
  (29, .istore_n 3, 1, []),
  (30, .iconst 0, 1, []),
  (31, .istore 4, 2, []),
  (33, .iload 4, 2, []),
  (35, .bipush 7, 2, []),
  (37, .if_icmp .ge 39, 3, []),
  (40, .aload_n 0, 1, []),
  (41, .getfield 26, 3, [7, 5, 0, 4128]),
  (44, .iload_n 1, 1, []),
  (45, .iload 4, 2, []),
  (47, .iastore, 1, []),
  (48, .iload_n 3, 1, []),
  (49, .aload_n 0, 1, []),
  (50, .invokevirtual 333, 3, [157, 1, 0, 0, 6009, 6011, 88]),
  (53, .aload_n 0, 1, []),
  (54, .getfield 136, 3, [7, 41, 0, 4164]),
  (57, .if_icmp .ne 10, 3, []),
  (60, .iconst 1, 1, []),
  (61, .iload 4, 2, []),
  (63, .ishl, 1, []),
  (64, .goto 4, 3, []),
  (67, .iconst 0, 1, []),
  (68, .ior, 1, []),
  (69, .istore_n 3, 1, []),
  (70, .iinc 4 1, 3, []),
  (73, .goto (-40), 3, []),
  (76, .aload_n 0, 1, []),
  (77, .getfield 26, 3, [7, 5, 0, 4128]),
  (80, .iload_n 1, 1, []),
  (81, .iload_n 2, 1, []),
  (82, .iastore, 1, []),
  (83, .iload_n 3, 1, []),
  (84, .ireturn, 1, [])]
def c_177 : List En := [
  (0, .iload_n 1, 1, []),
  (1, .istore_n 3, 1, []),
  (2, .iload_n 2, 1, []),
  (3, .istore 4, 2, []),
  (5, .iload 4, 2, []),
  (7, .ifCond .eq 19, 3, []),
  (10, .iload_n 3, 1, []),
  (11, .iload 4, 2, []),
  (13, .irem, 1, []),
  (14, .istore 5, 2, []),
  (16, .iload 4, 2, []),
  (18, .istore_n 3, 1, []),
  (19, .iload 5, 2, []),
  (21, .istore 4, 2, []),
  (23, .goto (-18), 3, []),
  (26, .iload_n 3, 1, []),
  (27, .ireturn, 1, [])]
def c_178 : List En := [
  (0, .aload_n 0, 1, []),
  (1, .iload_n 1, 1, []),
  (2, .iload_n 2, 1, []),
  (3, .invokevirtual 357, 3, [177, 3, 0, 0, 6118, 6120, 102]),
  (6, .istore 4, 2, []),
  (8, .iload_n 3, 1, []),
  (9, .ifCond .ne 11, 3, []),
  (12, .iload_n 1, 1, []),
  (13, .iload 4, 2, []),
  (15, .idiv, 1, []),
  (16, .i2l, 1, []),
  (17, .goto 8, 3, []),
  (20, .iload_n 2, 1, []),
  (21, .iload 4, 2, []),
  (23, .idiv, 1, []),
  (24, .i2l, 1, []),
  (25, .lreturn, 1, [])]
def c_179 : List En := [
  (0, .aload_n 0, 1, []),
  (1, .iload_n 1, 1, []),
  (2, .invokevirtual 210, 3, [112, 2, 0, 0, 5089, 5091, 55]),
  (5, .ifCond .eq 37, 3, []),
  (8, .aload_n 0, 1, []),
  (9, .iload_n 2, 1, []),
  (10, .invokevirtual 210, 3, [112, 2, 0, 0, 5089, 5091, 55]),
  (13, .ifCond .eq 29, 3, []),
  (16, .aload_n 0, 1, []),
  (17, .iload_n 3, 1, []),
  (18, .iconst 0, 1, []),
  (19, .iconst 1, 1, []),
  (20, .invokevirtual 206, 3, [109, 4, 0, 0, 5081, 5083, 54]),
  (23, .ifCond .eq 19, 3, []),
  (26, .aload_n 0, 1, []),
  (27, .iload_n 1, 1, []),
  (28, .invokevirtual 291, 3, [139, 2, 0, 0, 5169, 5171, 70]),
  (31, .ifCond .eq 11, 3, []),
  (34, .aload_n 0, 1, []),
  (35, .iload_n 2, 1, []),
  (36, .invokevirtual 291, 3, [139, 2, 0, 0, 5169, 5171, 70]),
  (39, .ifCond .eq 7, 3, []),
  (42, .ldc2_w 360, 3, [9223372036854775808, 6113]),
  (45, .lreturn, 1, []),
  (46, .aload_n 0, 1, []),
  (47, .getfield 26, 3, [7, 5, 0, 4128]),
  (50, .iload_n 2, 1, []),
  (51, .iaload, 1, []),
  (52, .istore 4, 2, []),
  (54, .iconst 0, 1, []),
  (55, .istore 5, 2, []),
  (57, .iconst 0, 1, []),
  (58, .istore 6, 2, []),
  (60, .iload 6, 2, []),
  (62, .bipush 7, 2, []),
  (64, .if_icmp .ge 39, 3, []),
  (67, .aload_n 0, 1, []),
  (68, .getfield 26, 3, [7, 5, 0, 4128]),
  (71, .iload_n 2, 1, []),
  (72, .iload 6, 2, []),
  (74, .iastore, 1, []),
  (75, .iload 5, 2, []),
  (77, .aload_n 0, 1, []),
  (78, .aload_n 0, 1, []),
  (79, .invokevirtual 333, 3, [157, 1, 0, 0, 6009, 6011, 88]),
  (82, .iload_n 1, 1, []),
  (83, .invokevirtual 274, 3, [110, 3, 0, 0, 5173, 5175, 71]),
  (86, .ifCond .eq 7, 3, []),
  (89, .iconst 1, 1, []),
  (90, .goto 4, 3, []),
  (93, .iconst 0, 1, []),
  (94, .iadd, 1, []),
  (95, .istore 5, 2, []),
  (97, .iinc 6 1, 3, []),
  (100, .goto (-40), 3, []),
  (103, .aload_n 0, 1, []),
  (104, .getfield 26, 3, [7, 5, 0, 4128]),
  (107, .iload_n 2, 1, []),
  (108, .iload 4, 2, []),
  (110, .iastore, 1, []),
  (111, .aload_n 0, 1, []),
  (112, .iload 5, 2, []),
  (114, .bipush 7, 2, []),
  (116, .iload_n 3, 1, []),
  (117, .invokevirtual 362, 3, [178, 4, 0, 0, 6114, 6116, 101]),
  (120, .lreturn, 1, [])]
def c_180 : List En := [
  (0, .aload_n 0, 1, []),
  (1, .iload_n 1, 1, []),
  (2, .iconst 1, 1, []),
  (3, .bipush 30, 2, []),
  (5, .invokevirtual 206, 3, [109, 4, 0, 0, 5081, 5083, 54]),
  (8, .ifCond .eq 13, 3, []),
  (11, .aload_n 0, 1, []),
  (12, .iload_n 2, 1, []),
  (13, .iconst 0, 1, []),
  (14, .iconst 1, 1, []),
  (15, .invokevirtual 206, 3, [109, 4, 0, 0, 5081, 5083, 54]),
  (18, .ifCond .ne 7, 3, []),
  (21, .ldc2_w 360, 3, [9223372036854775808, 6113]),
  (24, .lreturn, 1, []),
  (25, .aload_n 0, 1, []),
  (26, .invokevirtual 339, 3, [160, 1, 0, 0, 6041, 6043, 95]),
  (29, .iconst 0, 1, []),
  (30, .istore_n 3, 1, []),
  (31, .iconst 0, 1, []),
  (32, .istore 4, 2, []),
  (34, .iload 4, 2, []),
  (36, .iload_n 1, 1, []),
  (37, .if_icmp .ge 33, 3, []),
  (40, .aload_n 0, 1, []),
  (41, .invokevirtual 336, 3, [158, 1, 0, 0, 6005, 6007, 87]),
  (44, .istore 5, 2, []),
  (46, .iload_n 3, 1, []),
  (47, .aload_n 0, 1, []),
  (48, .aload_n 0, 1, []),
  (49, .invokevirtual 312, 3, [113, 1, 0, 0, 5237, 5239, 86]),
  (52, .aload_n 0, 1, []),
  (53, .getfield 16, 3, [7, 2, 0, 4125]),
  (56, .iconst (-1), 1, []),
  (57, .ixor, 1, []),
  (58, .iand, 1, []),
  (59, .invokevirtual 342, 3, [111, 2, 0, 0, 6045, 6047, 96]),
  (62, .iadd, 1, []),
  (63, .istore_n 3, 1, []),
  (64, .iinc 4 1, 3, []),
  (67, .goto (-33), 3, []),
  (70, .aload_n 0, 1, []),
  (71, .invokevirtual 345, 3, [161, 1, 0, 0, 6049, 6051, 97]),
  (74, .aload_n 0, 1, []),
  (75, .iload_n 3, 1, []),
  (76, .iload_n 1, 1, []),
  (77, .iload_n 2, 1, []),
  (78, .invokevirtual 362, 3, [178, 4, 0, 0, 6114, 6116, 101]),
  (81, .lreturn, 1, [])]
def c_181 : List En := [
  (0, .iload_n 1, 1, []),
  (1, .iconst (-1), 1, []),
  (2, .if_icmp .ne 10, 3, []),
  (5, .aload_n 0, 1, []),
  (6, .iconst 0, 1, []),
  (7, .putfield 139, 3, [7, 42, 0, 4165]),
  (10, .iconst 0, 1, []),
  (11, .ireturn, 1, []),
  (12, .aload_n 0, 1, []),
  (13, .iload_n 1, 1, []),
  (14, .iconst 0, 1, []),
  (15, .aload_n 0, 1, []),
  (16, .invokevirtual 312, 3, [113, 1, 0, 0, 5237, 5239, 86]),
  (19, .invokevirtual 206, 3, [109, 4, 0, 0, 5081, 5083, 54]),
  (22, .ifCond .ne 6, 3, []),
  (25, .bipush (-2), 2, []),
  (27, .ireturn, 1, []),
  (28, .aload_n 0, 1, []),
  (29, .getfield 139, 3, [7, 42, 0, 4165]),
  (32, .bipush 12, 2, []),
  (34, .if_icmp .ne 6, 3, []),
  (37, .bipush (-4), 2, []),
  (39, .ireturn, 1, []),
  (40, .aload_n 0, 1, []),
  (41, .getfield 142, 3, [7, 43, 0, 4166]),
  (44, .aload_n 0, 1, []),
  (45, .getfield 139, 3, [7, 42, 0, 4165]),
  (48, .iload_n 1, 1, []),
  (49, .iastore, 1, []),
  (50, .aload_n 0, 1, []),
  (51, .dup, 1, []),
  (52, .getfield 139, 3, [7, 42, 0, 4165]),
  (55, .iconst 1, 1, []),
  (56, .iadd, 1, []),
  (57, .putfield 139, 3, [7, 42, 0, 4165]),
  (60, .aload_n 0, 1, []),
  (61, .getfield 139, 3, [7, 42, 0, 4165]),
  (64, .ireturn, 1, [])]
def c_182 : List En := [
  (0, .aload_n 0, 1, []),
  (1, .invokevirtual 339, 3, [160, 1, 0, 0, 6041, 6043, 95]),
  (4, .bipush (-5), 2, []),
  (6, .istore_n 1, 1, []),
  (7, .iconst 0, 1, []),
  (8, .istore_n 2, 1, []),
  (9, .iload_n 2, 1, []),
  (10, .aload_n 0, 1, []),
  (11, .getfield 139, 3, [7, 42, 0, 4165]),
  (14, .if_icmp .ge 33, 3, []),
  (17, .iload_n 1, 1, []),
  (18, .ifCond .ge 29, 3, []),
  (21, .aload_n 0, 1, []),
  (22, .invokevirtual 336, 3, [158, 1, 0, 0, 6005, 6007, 87]),
  (25, .aload_n 0, 1, []),
  (26, .getfield 142, 3, [7, 43, 0, 4166]),
  (29, .iload_n 2, 1, []),
  (30, .iaload, 1, []),
  (31, .if_icmp .ne 8, 3, []),
  (34, .bipush (-5), 2, []),
  (36, .goto 4, 3, []),
  (39, .iload_n 2, 1, []),
  (40, .istore_n 1, 1, []),
  (41, .iinc 2 1, 3, []),
  (44, .goto (-35), 3, []),
  (47, .aload_n 0, 1, []),
  (48, .invokevirtual 345, 3, [161, 1, 0, 0, 6049, 6051, 97]),
  (51, .iload_n 1, 1, []),
  (52, .ireturn, 1, [])]
def c_183 : List En := [
  (0, .aload_n 0, 1, []),
  (1, .iload_n 1, 1, []),
  (2, .invokevirtual 366, 3, [198, 2, 0, 0, 6138, 6140, 103]),
  (5, .ifCond .ne 5, 3, []),
  (8, .iconst (-1), 1, []),
  (9, .ireturn, 1, []),
  (10, .aload_n 0, 1, []),
  (11, .getfield 193, 3, [7, 60, 0, 4183]),
  (14, .iload_n 1, 1, []),
  (15, .iaload, 1, []),
  (16, .ifCond .lt 16, 3, []),
  (19, .aload_n 0, 1, []),
  (20, .getfield 193, 3, [7, 60, 0, 4183]),
  (23, .iload_n 1, 1, []),
  (24, .iaload, 1, []),
  (25, .iconst 4, 1, []),
  (26, .if_icmp .eq 6, 3, []),
  (29, .bipush (-12), 2, []),
  (31, .ireturn, 1, []),
  (32, .iconst 0, 1, []),
  (33, .istore_n 3, 1, []),
  (34, .iload_n 3, 1, []),
  (35, .aload_n 0, 1, []),
  (36, .getfield 7, 3, [7, 0, 0, 4123]),
  (39, .if_icmp .ge 73, 3, []),
  (42, .aload_n 0, 1, []),
  (43, .getfield 193, 3, [7, 60, 0, 4183]),
  (46, .iload_n 1, 1, []),
  (47, .iaload, 1, []),
  (48, .ifCond .lt 21, 3, []),
  (51, .iload_n 2, 1, []),
  (52, .ifCond .lt 17, 3, []),
  (55, .iload_n 2, 1, []),
  (56, .aload_n 0, 1, []),
  (57, .getfield 196, 3, [7, 61, 0, 4184]),
  (60, .iload_n 1, 1, []),
  (61, .iaload, 1, []),
  (62, .iload_n 3, 1, []),
  (63, .isub, 1, []),
  (64, .iconst 1, 1, []),
  (65, .isub, 1, []),
  (66, .if_icmp .le 8, 3, []),
  (69, .bipush 100, 2, []),
  (71, .iload_n 3, 1, []),
  (72, .iadd, 1, []),
  (73, .ireturn, 1, []),
  (74, .aload_n 0, 1, []),
  (75, .getfield 199, 3, [7, 62, 0, 4185]),
  (78, .bipush 60, 2, []),
  (80, .iload_n 1, 1, []),
  (81, .imul, 1, []),
  (82, .iload_n 2, 1, []),
  (83, .iadd, 1, []),
  (84, .iload_n 3, 1, []),
  (85, .iadd, 1, []),
  (86, .laload, 1, []),
  (87, .aload_n 0, 1, []),
  (88, .iload_n 3, 1, []),
  (89, .invokevirtual 291, 3, [139, 2, 0, 0, 5169, 5171, 70]),
  (92, .ifCond .eq 7, 3, []),
  (95, .lconst 1, 1, []),
  (96, .goto 4, 3, []),
  (99, .lconst 0, 1, []),
  (100, .lcmp, 1, []),
  (101, .ifCond .eq 5, 3, []),
  (104, .iload_n 3, 1, []),
  (105, .ireturn, 1, []),
  (106, .iinc 3 1, 3, []),
  (109, .goto (-75), 3, []),
  (112, .bipush (-5), 2, []),
  (114, .ireturn, 1, [])]
def c_184 : List En := [
  (0, .aload_n 0, 1, []),
  (1, .iconst 1, 1, []),
  (2, .putfield 145, 3, [7, 44, 0, 4167]),
  (5, .aload_n 0, 1, []),
  (6, .aload_n 0, 1, []),
  (7, .getfield 41, 3, [7, 10, 0, 4133]),
  (10, .putfield 148, 3, [7, 45, 0, 4168]),
  (13, .aload_n 0, 1, []),
  (14, .aload_n 0, 1, []),
  (15, .getfield 7, 3, [7, 0, 0, 4123]),
  (18, .putfield 151, 3, [7, 46, 0, 4169]),
  (21, .aload_n 0, 1, []),
  (22, .aload_n 0, 1, []),
  (23, .getfield 13, 3, [7, 1, 0, 4124]),
  (26, .putfield 154, 3, [7, 47, 0, 4170]),
  (29, .aload_n 0, 1, []),
  (30, .aload_n 0, 1, []),
  (31, .getfield 16, 3, [7, 2, 0, 4125]),
  (34, .putfield 157, 3, [7, 48, 0, 4171]),
  (37, .aload_n 0, 1, []),
  (38, .aload_n 0, 1, []),
  (39, .getfield 136, 3, [7, 41, 0, 4164]),
  (42, .putfield 160, 3, [7, 49, 0, 4172]),
  (45, .aload_n 0, 1, []),
  (46, .aload_n 0, 1, []),
  (47, .getfield 139, 3, [7, 42, 0, 4165]),
  (50, .putfield 163, 3, [7, 50, 0, 4173]),
  (53, .iconst 0, 1, []),
  (54, .istore_n 1, 1, []),
  (55, .iload_n 1, 1, []),
  (56, .bipush 7, 2, []),
  (58, .if_icmp .ge 69, 3, []),
  (61, .aload_n 0, 1, []),
  (62, .getfield 166, 3, [7, 51, 0, 4174]),
  (65, .iload_n 1, 1, []),
  (66, .aload_n 0, 1, []),
  (67, .getfield 19, 3, [7, 3, 0, 4126]),
  (70, .iload_n 1, 1, []),
  (71, .iaload, 1, []),
  (72, .iastore, 1, []),
  (73, .aload_n 0, 1, []),
  (74, .getfield 169, 3, [7, 52, 0, 4175]),
  (77, .iload_n 1, 1, []),
  (78, .aload_n 0, 1, []),
  (79, .getfield 23, 3, [7, 4, 0, 4127]),
  (82, .iload_n 1, 1, []),
  (83, .iaload, 1, []),
  (84, .iastore, 1, []),
  (85, .aload_n 0, 1, []),
  (86, .getfield 172, 3, [7, 53, 0, 4176]),
  (89, .iload_n 1, 1, []),
  (90, .aload_n 0, 1, []),
  (91, .getfield 26, 3, [7, 5, 0, 4128]),
  (94, .iload_n 1, 1, []),
  (95, .iaload, 1, []),
  (96, .iastore, 1, []),
  (97, .aload_n 0, 1, []),
  (98, .getfield 175, 3, [7, 54, 0, 4177]),
  (101, .iload_n 1, 1, []),
  (102, .aload_n 0, 1, []),
  (103, .getfield 29, 3, [7, 6, 0, 4129]),
  (106, .iload_n 1, 1, []),
  (107, .iaload, 1, []),
  (108, .iastore, 1, []),
  (109, .aload_n 0, 1, []),
  (110, .getfield 178, 3, [7, 55, 0, 4178]),
  (113, .iload_n 1, 1, []),
  (114, .aload_n 0, 1, []),
  (115, .getfield 32, 3, [7, 7, 0, 4130]),
  (118, .iload_n 1, 1, []),
  (119, .iaload, 1, []),
  (120, .iastore, 1, []),
  (121, .iinc 1 1, 3, []),
  (124, .goto (-69), 3, []),
  (127, .iconst 0, 1, []),
  (128, .istore_n 1, 1, []),
  (129, .iload_n 1, 1, []),
  (130, .bipush 28, 2, []),
  (132, .if_icmp .ge 21, 3, []),
  (135, .aload_n 0, 1, []),
  (136, .getfield 181, 3, [7, 56, 0, 4179]),
  (139, .iload_n 1, 1, []),
  (140, .aload_n 0, 1, []),
  (141, .getfield 35, 3, [7, 8, 0, 4131]),
  (144, .iload_n 1, 1, []),
  (145, .iaload, 1, []),
  (146, .iastore, 1, []),
  (147, .iinc 1 1, 3, []),
  (150, .goto (-21), 3, []),
  (153, .iconst 0, 1, []),
  (154, .istore_n 1, 1, []),
  (155, .iload_n 1, 1, []),
  (156, .bipush 12, 2, []),
  (158, .if_icmp .ge 21, 3, []),
  (161, .aload_n 0, 1, []),
  (162, .getfield 184, 3, [7, 57, 0, 4180]),
  (165, .iload_n 1, 1, []),
  (166, .aload_n 0, 1, []),
  (167, .getfield 142, 3, [7, 43, 0, 4166]),
  (170, .iload_n 1, 1, []),
  (171, .iaload, 1, []),
  (172, .iastore, 1, []),
  (173, .iinc 1 1, 3, []),
  (176, .goto (-21), 3, []),
  (179, .aload_n 0, 1, []),
  (180, .getfield 7, 3, [7, 0, 0, 4123]),
  (183, .ireturn, 1, [])]
def c_185 : List En := [
  (0, .aload_n 0, 1, []),
  (1, .getfield 145, 3, [7, 44, 0, 4167]),
  (4, .ifCond .ne 6, 3, []),
  (7, .bipush (-3), 2, []),
  (9, .ireturn, 1, []),
  (10, .aload_n 0, 1, []),
  (11, .aload_n 0, 1, []),
  (12, .getfield 148, 3, [7, 45, 0, 4168]),
  (15, .putfield 41, 3, [7, 10, 0, 4133]),
  (18, .aload_n 0, 1, []),
  (19, .aload_n 0, 1, []),
  (20, .getfield 151, 3, [7, 46, 0, 4169]),
  (23, .putfield 7, 3, [7, 0, 0, 4123]),
  (26, .aload_n 0, 1, []),
  (27, .aload_n 0, 1, []),
  (28, .getfield 154, 3, [7, 47, 0, 4170]),
  (31, .putfield 13, 3, [7, 1, 0, 4124]),
  (34, .aload_n 0, 1, []),
  (35, .aload_n 0, 1, []),
  (36, .getfield 157, 3, [7, 48, 0, 4171]),
  (39, .putfield 16, 3, [7, 2, 0, 4125]),
  (42, .aload_n 0, 1, []),
  (43, .aload_n 0, 1, []),
  (44, .getfield 160, 3, [7, 49, 0, 4172]),
  (47, .putfield 136, 3, [7, 41, 0, 4164]),
  (50, .aload_n 0, 1, []),
  (51, .aload_n 0, 1, []),
  (52, .getfield 163, 3, [7, 50, 0, 4173]),
  (55, .putfield 139, 3, [7, 42, 0, 4165]),
  (58, .iconst 0, 1, []),
  (59, .istore_n 1, 1, []),
  (60, .iload_n 1, 1, []),
  (61, .bipush 7, 2, []),
  (63, .if_icmp .ge 69, 3, []),
  (66, .aload_n 0, 1, []),
  (67, .getfield 19, 3, [7, 3, 0, 4126]),
  (70, .iload_n 1, 1, []),
  (71, .aload_n 0, 1, []),
  (72, .getfield 166, 3, [7, 51, 0, 4174]),
  (75, .iload_n 1, 1, []),
  (76, .iaload, 1, []),
  (77, .iastore, 1, []),
  (78, .aload_n 0, 1, []),
  (79, .getfield 23, 3, [7, 4, 0, 4127]),
  (82, .iload_n 1, 1, []),
  (83, .aload_n 0, 1, []),
  (84, .getfield 169, 3, [7, 52, 0, 4175]),
  (87, .iload_n 1, 1, []),
  (88, .iaload, 1, []),
  (89, .iastore, 1, []),
  (90, .aload_n 0, 1, []),
  (91, .getfield 26, 3, [7, 5, 0, 4128]),
  (94, .iload_n 1, 1, []),
  (95, .aload_n 0, 1, []),
  (96, .getfield 172, 3, [7, 53, 0, 4176]),
  (99, .iload_n 1, 1, []),
  (100, .iaload, 1, []),
  (101, .iastore, 1, []),
  (102, .aload_n 0, 1, []),
  (103, .getfield 29, 3, [7, 6, 0, 4129]),
  (106, .iload_n 1, 1, []),
  (107, .aload_n 0, 1, []),
  (108, .getfield 175, 3, [7, 54, 0, 4177]),
  (111, .iload_n 1, 1, []),
  (112, .iaload, 1, []),
  (113, .iastore, 1, []),
  (114, .aload_n 0, 1, []),
  (115, .getfield 32, 3, [7, 7, 0, 4130]),
  (118, .iload_n 1, 1, []),
  (119, .aload_n 0, 1, []),
  (120, .getfield 178, 3, [7, 55, 0, 4178]),
  (123, .iload_n 1, 1, []),
  (124, .iaload, 1, []),
  (125, .iastore, 1, []),
  (126, .iinc 1 1, 3, []),
  (129, .goto (-69), 3, []),
  (132, .iconst 0, 1, []),
  (133, .istore_n 1, 1, []),
  (134, .iload_n 1, 1, []),
  (135, .bipush 28, 2, []),
  (137, .if_icmp .ge 21, 3, []),
  (140, .aload_n 0, 1, []),
  (141, .getfield 35, 3, [7, 8, 0, 4131]),
  (144, .iload_n 1, 1, []),
  (145, .aload_n 0, 1, []),
  (146, .getfield 181, 3, [7, 56, 0, 4179]),
  (149, .iload_n 1, 1, []),
  (150, .iaload, 1, []),
  (151, .iastore, 1, []),
  (152, .iinc 1 1, 3, []),
  (155, .goto (-21), 3, []),
  (158, .iconst 0, 1, []),
  (159, .istore_n 1, 1, []),
  (160, .iload_n 1, 1, []),
  (161, .bipush 12, 2, []),
  (163, .if_icmp .ge 21, 3, []),
  (166, .aload_n 0, 1, []),
  (167, .getfield 142, 3, [7, 43, 0, 4166]),
  (170, .iload_n 1, 1, []),
  (171, .aload_n 0, 1, []),
  (172, .getfield 184, 3, [7, 57, 0, 4180]),
  (175, .iload_n 1, 1, []),
  (176, .iaload, 1, []),
  (177, .iastore, 1, []),
  (178, .iinc 1 1, 3, []),
  (181, .goto (-21), 3, []),
  (184, .aload_n 0, 1, []),
  (185, .getfield 7, 3, [7, 0, 0, 4123]),
  (188, .ireturn, 1, [])]
def c_186 : List En := [
  (0, .aload_n 0, 1, []),
  (1, .getfield 187, 3, [7, 58, 0, 4181]),
  (4, .bipush 20, 2, []),
  (6, .if_icmp .ge 13, 3, []),
  (9, .aload_n 0, 1, []),
  (10, .getfield 190, 3, [7, 59, 0, 4182]),
  (13, .aload_n 0, 1, []),
  (14, .getfield 187, 3, [7, 58, 0, 4181]),
  (17, .iload_n 1, 1, []),
  (18, .iastore, 1, []),
  (19, .aload_n 0, 1, []),
  (20, .dup, 1, []),
  (21, .getfield 187, 3, [7, 58, 0, 4181]),
  (24, .iconst 1, 1, []),
  (25, .iadd, 1, []),
  (26, .putfield 187, 3, [7, 58, 0, 4181]),
  (29, .return_, 1, [])]
def c_187 : List En := [
  (0, .aload_n 0, 1, []),
  (1, .bipush 10, 2, []),
  (3, .invokevirtual 369, 3, [186, 2, 0, 0, 6158, 6160, 105]),
  (6, .iload_n 2, 1, []),
  (7, .iload_n 1, 1, []),
  (8, .iadd, 1, []),
  (9, .ireturn, 1, [])]
def c_188 : List En := [
  (0, .aload_n 0, 1, []),
  (1, .getfield 19, 3, [7, 3, 0, 4126]),
  (4, .iload_n 1, 1, []),
  (5, .iaload, 1, []),
  (6, .tableswitch 83 2 6 #[34, 83, 49, 34, 63], 34, []),
  (40, .aload_n 0, 1, []),
  (41, .bipush 30, 2, []),
  (43, .invokevirtual 369, 3, [186, 2, 0, 0, 6158, 6160, 105]),
  (46, .aload_n 0, 1, []),
  (47, .iload_n 1, 1, []),
  (48, .iload_n 2, 1, []),
  (49, .iconst 3, 1, []),
  (50, .imul, 1, []),
  (51, .invokevirtual 372, 3, [187, 3, 0, 0, 6162, 6164, 106]),
  (54, .ireturn, 1, []),
  (55, .aload_n 0, 1, []),
  (56, .bipush 50, 2, []),
  (58, .invokevirtual 369, 3, [186, 2, 0, 0, 6158, 6160, 105]),
  (61, .aload_n 0, 1, []),
  (62, .iload_n 1, 1, []),
  (63, .iload_n 2, 1, []),
  (64, .invokevirtual 372, 3, [187, 3, 0, 0, 6162, 6164, 106]),
  (67, .ineg, 1, []),
  (68, .ireturn, 1, []),
  (69, .aload_n 0, 1, []),
  (70, .bipush 71, 2, []),
  (72, .invokevirtual 369, 3, [186, 2, 0, 0, 6158, 6160, 105]),
  (75, .aload_n 0, 1, []),
  (76, .iload_n 1, 1, []),
  (77, .iload_n 2, 1, []),
  (78, .invokevirtual 372, 3, [187, 3, 0, 0, 6162, 6164, 106]),
  (81, .aload_n 0, 1, []),
  (82, .getfield 23, 3, [7, 4, 0, 4127]),
  (85, .iload_n 1, 1, []),
  (86, .iaload, 1, []),
  (87, .ixor, 1, []),
  (88, .ireturn, 1, []),
  (89, .aload_n 0, 1, []),
  (90, .iload_n 1, 1, []),
  (91, .iload_n 2, 1, []),
  (92, .invokevirtual 372, 3, [187, 3, 0, 0, 6162, 6164, 106]),
  (95, .ireturn, 1, [])]
def c_189 : List En := [
  (0, .aload_n 0, 1, []),
  (1, .bipush 11, 2, []),
  (3, .invokevirtual 369, 3, [186, 2, 0, 0, 6158, 6160, 105]),
  (6, .aload_n 0, 1, []),
  (7, .iload_n 1, 1, []),
  (8, .iload_n 2, 1, []),
  (9, .invokevirtual 375, 3, [188, 3, 0, 0, 6154, 6156, 104]),
  (12, .aload_n 0, 1, []),
  (13, .getfield 23, 3, [7, 4, 0, 4127]),
  (16, .iload_n 1, 1, []),
  (17, .iaload, 1, []),
  (18, .isub, 1, []),
  (19, .ireturn, 1, [])]
def c_190 : List En := [
  (0, .aload_n 0, 1, []),
  (1, .bipush 20, 2, []),
  (3, .invokevirtual 369, 3, [186, 2, 0, 0, 6158, 6160, 105]),
  (6, .aload_n 0, 1, []),
  (7, .iload_n 1, 1, []),
  (8, .iload_n 2, 1, []),
  (9, .invokevirtual 378, 3, [189, 3, 0, 0, 6174, 6176, 109]),
  (12, .bipush 6, 2, []),
  (14, .ixor, 1, []),
  (15, .ireturn, 1, [])]
def c_191 : List En := [
  (0, .aload_n 0, 1, []),
  (1, .getfield 19, 3, [7, 3, 0, 4126]),
  (4, .iload_n 1, 1, []),
  (5, .iaload, 1, []),
  (6, .lookupswitch 78 #[(1, 34), (4, 41), (6, 56)], 34, []),
  (40, .aload_n 0, 1, []),
  (41, .iload_n 1, 1, []),
  (42, .iload_n 2, 1, []),
  (43, .invokevirtual 381, 3, [190, 3, 0, 0, 6170, 6172, 108]),
  (46, .ireturn, 1, []),
  (47, .aload_n 0, 1, []),
  (48, .bipush 51, 2, []),
  (50, .invokevirtual 369, 3, [186, 2, 0, 0, 6158, 6160, 105]),
  (53, .aload_n 0, 1, []),
  (54, .iload_n 1, 1, []),
  (55, .iload_n 2, 1, []),
  (56, .iconst 1, 1, []),
  (57, .iadd, 1, []),
  (58, .invokevirtual 381, 3, [190, 3, 0, 0, 6170, 6172, 108]),
  (61, .ireturn, 1, []),
  (62, .aload_n 0, 1, []),
  (63, .bipush 70, 2, []),
  (65, .invokevirtual 369, 3, [186, 2, 0, 0, 6158, 6160, 105]),
  (68, .aload_n 0, 1, []),
  (69, .iload_n 1, 1, []),
  (70, .iload_n 2, 1, []),
  (71, .invokevirtual 378, 3, [189, 3, 0, 0, 6174, 6176, 109]),
  (74, .istore_n 3, 1, []),
  (75, .iload_n 3, 1, []),
  (76, .aload_n 0, 1, []),
  (77, .iload_n 1, 1, []),
  (78, .iconst 2, 1, []),
  (79, .invokevirtual 372, 3, [187, 3, 0, 0, 6162, 6164, 106]),
  (82, .iadd, 1, []),
  (83, .ireturn, 1, []),
  (84, .aload_n 0, 1, []),
  (85, .iload_n 1, 1, []),
  (86, .iload_n 2, 1, []),
  (87, .invokevirtual 378, 3, [189, 3, 0, 0, 6174, 6176, 109]),
  (90, .ireturn, 1, [])]
def c_192 : List En := [
  (0, .aload_n 0, 1, []),
  (1, .bipush 12, 2, []),
  (3, .invokevirtual 369, 3, [186, 2, 0, 0, 6158, 6160, 105]),
  (6, .aload_n 0, 1, []),
  (7, .iload_n 1, 1, []),
  (8, .iload_n 2, 1, []),
  (9, .invokevirtual 384, 3, [191, 3, 0, 0, 6166, 6168, 107]),
  (12, .iconst 2, 1, []),
  (13, .imul, 1, []),
  (14, .ireturn, 1, [])]
def c_193 : List En := [
  (0, .aload_n 0, 1, []),
  (1, .getfield 19, 3, [7, 3, 0, 4126]),
  (4, .iload_n 1, 1, []),
  (5, .iaload, 1, []),
  (6, .tableswitch 67 3 6 #[30, 67, 52, 30], 30, []),
  (36, .aload_n 0, 1, []),
  (37, .bipush 40, 2, []),
  (39, .invokevirtual 369, 3, [186, 2, 0, 0, 6158, 6160, 105]),
  (42, .aload_n 0, 1, []),
  (43, .iload_n 1, 1, []),
  (44, .iload_n 2, 1, []),
  (45, .invokevirtual 387, 3, [192, 3, 0, 0, 6182, 6184, 111]),
  (48, .istore_n 3, 1, []),
  (49, .iload_n 3, 1, []),
  (50, .aload_n 0, 1, []),
  (51, .iload_n 1, 1, []),
  (52, .iconst 1, 1, []),
  (53, .invokevirtual 384, 3, [191, 3, 0, 0, 6166, 6168, 107]),
  (56, .iadd, 1, []),
  (57, .ireturn, 1, []),
  (58, .aload_n 0, 1, []),
  (59, .bipush 60, 2, []),
  (61, .invokevirtual 369, 3, [186, 2, 0, 0, 6158, 6160, 105]),
  (64, .aload_n 0, 1, []),
  (65, .iload_n 1, 1, []),
  (66, .iload_n 2, 1, []),
  (67, .iload_n 1, 1, []),
  (68, .isub, 1, []),
  (69, .invokevirtual 387, 3, [192, 3, 0, 0, 6182, 6184, 111]),
  (72, .ireturn, 1, []),
  (73, .aload_n 0, 1, []),
  (74, .iload_n 1, 1, []),
  (75, .iload_n 2, 1, []),
  (76, .invokevirtual 387, 3, [192, 3, 0, 0, 6182, 6184, 111]),
  (79, .ireturn, 1, [])]
def c_194 : List En := [
  (0, .aload_n 0, 1, []),
  (1, .iconst 0, 1, []),
  (2, .putfield 187, 3, [7, 58, 0, 4181]),
  (5, .aload_n 0, 1, []),
  (6, .iload_n 1, 1, []),
  (7, .invokevirtual 210, 3, [112, 2, 0, 0, 5089, 5091, 55]),
  (10, .ifCond .eq 13, 3, []),
  (13, .aload_n 0, 1, []),
  (14, .iload_n 2, 1, []),
  (15, .iconst 0, 1, []),
  (16, .iconst 2, 1, []),
  (17, .invokevirtual 206, 3, [109, 4, 0, 0, 5081, 5083, 54]),
  (20, .ifCond .ne 5, 3, []),
  (23, .iconst 0, 1, []),
  (24, .ireturn, 1, []),
  (25, .iload_n 2, 1, []),
  (26, .ifCond .ne 12, 3, []),
  (29, .aload_n 0, 1, []),
  (30, .iload_n 1, 1, []),
  (31, .iload_n 3, 1, []),
  (32, .invokevirtual 375, 3, [188, 3, 0, 0, 6154, 6156, 104]),
  (35, .goto 23, 3, []),
  (38, .iload_n 2, 1, []),
  (39, .iconst 1, 1, []),
  (40, .if_icmp .ne 12, 3, []),
  (43, .aload_n 0, 1, []),
  (44, .iload_n 1, 1, []),
  (45, .iload_n 3, 1, []),
  (46, .invokevirtual 384, 3, [191, 3, 0, 0, 6166, 6168, 107]),
  (49, .goto 9, 3, []),
  (52, .aload_n 0, 1, []),
  (53, .iload_n 1, 1, []),
  (54, .iload_n 3, 1, []),
  (55, .invokevirtual 390, 3, [193, 3, 0, 0, 6178, 6180, 110]),
  (58, .ireturn, 1, [])]
def c_195 : List En := [
  (0, .aload_n 0, 1, []),
  (1, .iload_n 1, 1, []),
  (2, .iconst 0, 1, []),
  (3, .bipush 19, 2, []),
  (5, .invokevirtual 206, 3, [109, 4, 0, 0, 5081, 5083, 54]),
  (8, .ifCond .eq 20, 3, []),
  (11, .iload_n 1, 1, []),
  (12, .aload_n 0, 1, []),
  (13, .getfield 187, 3, [7, 58, 0, 4181]),
  (16, .if_icmp .ge 12, 3, []),
  (19, .aload_n 0, 1, []),
  (20, .getfield 190, 3, [7, 59, 0, 4182]),
  (23, .iload_n 1, 1, []),
  (24, .iaload, 1, []),
  (25, .goto 4, 3, []),
  (28, .iconst (-1), 1, []),
  (29, .ireturn, 1, [])]
def c_196 : List En := [
  (0, .aload_n 0, 1, []),
  (1, .iload_n 2, 1, []),
  (2, .iconst 0, 1, []),
  (3, .bipush 6, 2, []),
  (5, .invokevirtual 206, 3, [109, 4, 0, 0, 5081, 5083, 54]),
  (8, .ifCond .ne 6, 3, []),
  (11, .bipush (-2), 2, []),
  (13, .ireturn, 1, []),
  (14, .aload_n 0, 1, []),
  (15, .iload_n 1, 1, []),
  (16, .invokevirtual 210, 3, [112, 2, 0, 0, 5089, 5091, 55]),
  (19, .ifCond .ne 6, 3, []),
  (22, .bipush (-11), 2, []),
  (24, .ireturn, 1, []),
  (25, .aload_n 0, 1, []),
  (26, .getfield 19, 3, [7, 3, 0, 4126]),
  (29, .iload_n 1, 1, []),
  (30, .iaload, 1, []),
  (31, .istore_n 3, 1, []),
  (32, .iload_n 2, 1, []),
  (33, .ifCond .eq 39, 3, []),
  (36, .iload_n 3, 1, []),
  (37, .iload_n 2, 1, []),
  (38, .if_icmp .eq 34, 3, []),
  (41, .iload_n 2, 1, []),
  (42, .iconst 1, 1, []),
  (43, .if_icmp .ne 8, 3, []),
  (46, .iload_n 3, 1, []),
  (47, .iconst 4, 1, []),
  (48, .if_icmp .eq 24, 3, []),
  (51, .iload_n 2, 1, []),
  (52, .iconst 2, 1, []),
  (53, .if_icmp .ne 8, 3, []),
  (56, .iload_n 3, 1, []),
  (57, .iconst 5, 1, []),
  (58, .if_icmp .eq 14, 3, []),
  (61, .iload_n 2, 1, []),
  (62, .iconst 3, 1, []),
  (63, .if_icmp .ne 13, 3, []),
  (66, .iload_n 3, 1, []),
  (67, .bipush 6, 2, []),
  (69, .if_icmp .ne 7, 3, []),
  (72, .iload_n 3, 1, []),
  (73, .goto 5, 3, []),
  (76, .bipush (-12), 2, []),
  (78, .ireturn, 1, [])]
def c_197 : List En := [
  (0, .iload_n 1, 1, []),
  (1, .tableswitch 60 0 4 #[35, 40, 45, 50, 55], 35, []),
  (36, .aload_n 0, 1, []),
  (37, .getfield 7, 3, [7, 0, 0, 4123]),
  (40, .ireturn, 1, []),
  (41, .aload_n 0, 1, []),
  (42, .getfield 38, 3, [7, 9, 0, 4132]),
  (45, .ireturn, 1, []),
  (46, .aload_n 0, 1, []),
  (47, .getfield 139, 3, [7, 42, 0, 4165]),
  (50, .ireturn, 1, []),
  (51, .aload_n 0, 1, []),
  (52, .getfield 44, 3, [7, 11, 0, 4134]),
  (55, .ireturn, 1, []),
  (56, .aload_n 0, 1, []),
  (57, .getfield 187, 3, [7, 58, 0, 4181]),
  (60, .ireturn, 1, []),
  (61, .bipush (-2), 2, []),
  (63, .ireturn, 1, [])]
def c_198 : List En := [
  (0, .aload_n 0, 1, []),
  (1, .iload_n 1, 1, []),
  (2, .iconst 0, 1, []),
  (3, .iconst 5, 1, []),
  (4, .invokevirtual 206, 3, [109, 4, 0, 0, 5081, 5083, 54]),
  (7, .ireturn, 1, [])]
def c_199 : List En := [
  (0, .aload_n 0, 1, []),
  (1, .iload_n 1, 1, []),
  (2, .invokevirtual 366, 3, [198, 2, 0, 0, 6138, 6140, 103]),
  (5, .ifCond .ne 5, 3, []),
  (8, .iconst (-1), 1, []),
  (9, .ireturn, 1, []),
  (10, .aload_n 0, 1, []),
  (11, .iload_n 2, 1, []),
  (12, .iconst (-1), 1, []),
  (13, .iconst 4, 1, []),
  (14, .invokevirtual 206, 3, [109, 4, 0, 0, 5081, 5083, 54]),
  (17, .ifCond .eq 13, 3, []),
  (20, .iload_n 2, 1, []),
  (21, .ifCond .lt 12, 3, []),
  (24, .iload_n 3, 1, []),
  (25, .bipush 60, 2, []),
  (27, .if_icmp .le 6, 3, []),
  (30, .bipush (-2), 2, []),
  (32, .ireturn, 1, []),
  (33, .iload_n 2, 1, []),
  (34, .ifCond .lt 10, 3, []),
  (37, .iload_n 3, 1, []),
  (38, .ifCond .ge 6, 3, []),
  (41, .bipush (-14), 2, []),
  (43, .ireturn, 1, []),
  (44, .aload_n 0, 1, []),
  (45, .getfield 193, 3, [7, 60, 0, 4183]),
  (48, .iload_n 1, 1, []),
  (49, .iload_n 2, 1, []),
  (50, .iastore, 1, []),
  (51, .aload_n 0, 1, []),
  (52, .getfield 196, 3, [7, 61, 0, 4184]),
  (55, .iload_n 1, 1, []),
  (56, .iload_n 2, 1, []),
  (57, .ifCond .ge 7, 3, []),
  (60, .iconst 0, 1, []),
  (61, .goto 4, 3, []),
  (64, .iload_n 3, 1, []),
  (65, .iastore, 1, []),
  (66, .iconst 0, 1, []),
  (67, .istore 4, 2, []),
  (69, .iload 4, 2, []),
  (71, .bipush 60, 2, []),
  (73, .if_icmp .ge 22, 3, []),
  (76, .aload_n 0, 1, []),
  (77, .getfield 199, 3, [7, 62, 0, 4185]),
  (80, .bipush 60, 2, []),
  (82, .iload_n 1, 1, []),
  (83, .imul, 1, []),
  (84, .iload 4, 2, []),
  (86, .iadd, 1, []),
  (87, .lconst 0, 1, []),
  (88, .lastore, 1, []),
  (89, .iinc 4 1, 3, []),
  (92, .goto (-23), 3, []),
  (95, .iconst 1, 1, []),
  (96, .ireturn, 1, [])]
def c_200 : List En := [
  (0, .iload_n 1, 1, []),
  (1, .ifCond .ne 10, 3, []),
  (4, .lload_n 2, 1, []),
  (5, .l2i, 1, []),
  (6, .i2b, 1, []),
  (7, .i2l, 1, []),
  (8, .goto 46, 3, []),
  (11, .iload_n 1, 1, []),
  (12, .iconst 1, 1, []),
  (13, .if_icmp .ne 10, 3, []),
  (16, .lload_n 2, 1, []),
  (17, .l2i, 1, []),
  (18, .i2s, 1, []),
  (19, .i2l, 1, []),
  (20, .goto 34, 3, []),
  (23, .iload_n 1, 1, []),
  (24, .iconst 2, 1, []),
  (25, .if_icmp .ne 9, 3, []),
  (28, .lload_n 2, 1, []),
  (29, .l2i, 1, []),
  (30, .i2l, 1, []),
  (31, .goto 23, 3, []),
  (34, .iload_n 1, 1, []),
  (35, .iconst 4, 1, []),
  (36, .if_icmp .ne 17, 3, []),
  (39, .lload_n 2, 1, []),
  (40, .lconst 0, 1, []),
  (41, .lcmp, 1, []),
  (42, .ifCond .eq 7, 3, []),
  (45, .lconst 1, 1, []),
  (46, .goto 8, 3, []),
  (49, .lconst 0, 1, []),
  (50, .goto 4, 3, []),
  (53, .lload_n 2, 1, []),
  (54, .lreturn, 1, [])]
def c_201 : List En := [
  (0, .aload_n 0, 1, []),
  (1, .iload_n 1, 1, []),
  (2, .invokevirtual 366, 3, [198, 2, 0, 0, 6138, 6140, 103]),
  (5, .ifCond .ne 5, 3, []),
  (8, .iconst (-1), 1, []),
  (9, .ireturn, 1, []),
  (10, .aload_n 0, 1, []),
  (11, .getfield 193, 3, [7, 60, 0, 4183]),
  (14, .iload_n 1, 1, []),
  (15, .iaload, 1, []),
  (16, .ifCond .ge 6, 3, []),
  (19, .bipush (-11), 2, []),
  (21, .ireturn, 1, []),
  (22, .aload_n 0, 1, []),
  (23, .iload_n 2, 1, []),
  (24, .iconst 0, 1, []),
  (25, .aload_n 0, 1, []),
  (26, .getfield 196, 3, [7, 61, 0, 4184]),
  (29, .iload_n 1, 1, []),
  (30, .iaload, 1, []),
  (31, .iconst 1, 1, []),
  (32, .isub, 1, []),
  (33, .invokevirtual 206, 3, [109, 4, 0, 0, 5081, 5083, 54]),
  (36, .ifCond .ne 6, 3, []),
  (39, .bipush (-13), 2, []),
  (41, .ireturn, 1, []),
  (42, .aload_n 0, 1, []),
  (43, .getfield 199, 3, [7, 62, 0, 4185]),
  (46, .bipush 60, 2, []),
  (48, .iload_n 1, 1, []),
  (49, .imul, 1, []),
  (50, .iload_n 2, 1, []),
  (51, .iadd, 1, []),
  (52, .aload_n 0, 1, []),
  (53, .aload_n 0, 1, []),
  (54, .getfield 193, 3, [7, 60, 0, 4183]),
  (57, .iload_n 1, 1, []),
  (58, .iaload, 1, []),
  (59, .lload_n 3, 1, []),
  (60, .invokevirtual 393, 3, [200, 3, 0, 0, 6206, 6208, 112]),
  (63, .lastore, 1, []),
  (64, .iconst 1, 1, []),
  (65, .ireturn, 1, [])]
def c_202 : List En := [
  (0, .aload_n 0, 1, []),
  (1, .iload_n 1, 1, []),
  (2, .invokevirtual 366, 3, [198, 2, 0, 0, 6138, 6140, 103]),
  (5, .ifCond .eq 29, 3, []),
  (8, .aload_n 0, 1, []),
  (9, .getfield 193, 3, [7, 60, 0, 4183]),
  (12, .iload_n 1, 1, []),
  (13, .iaload, 1, []),
  (14, .ifCond .lt 20, 3, []),
  (17, .aload_n 0, 1, []),
  (18, .iload_n 2, 1, []),
  (19, .iconst 0, 1, []),
  (20, .aload_n 0, 1, []),
  (21, .getfield 196, 3, [7, 61, 0, 4184]),
  (24, .iload_n 1, 1, []),
  (25, .iaload, 1, []),
  (26, .iconst 1, 1, []),
  (27, .isub, 1, []),
  (28, .invokevirtual 206, 3, [109, 4, 0, 0, 5081, 5083, 54]),
  (31, .ifCond .ne 9, 3, []),
  (34, .ldc2_w 360, 3, [9223372036854775808, 6113]),
  (37, .goto 14, 3, []),
  (40, .aload_n 0, 1, []),
  (41, .getfield 199, 3, [7, 62, 0, 4185]),
  (44, .bipush 60, 2, []),
  (46, .iload_n 1, 1, []),
  (47, .imul, 1, []),
  (48, .iload_n 2, 1, []),
  (49, .iadd, 1, []),
  (50, .laload, 1, []),
  (51, .lreturn, 1, [])]
def c_203 : List En := [
  (0, .aload_n 0, 1, []),
  (1, .iload_n 1, 1, []),
  (2, .invokevirtual 366, 3, [198, 2, 0, 0, 6138, 6140, 103]),
  (5, .ifCond .eq 11, 3, []),
  (8, .aload_n 0, 1, []),
  (9, .iload_n 3, 1, []),
  (10, .invokevirtual 366, 3, [198, 2, 0, 0, 6138, 6140, 103]),
  (13, .ifCond .ne 5, 3, []),
  (16, .iconst (-1), 1, []),
  (17, .ireturn, 1, []),
  (18, .aload_n 0, 1, []),
  (19, .getfield 193, 3, [7, 60, 0, 4183]),
  (22, .iload_n 1, 1, []),
  (23, .iaload, 1, []),
  (24, .ifCond .lt 12, 3, []),
  (27, .aload_n 0, 1, []),
  (28, .getfield 193, 3, [7, 60, 0, 4183]),
  (31, .iload_n 3, 1, []),
  (32, .iaload, 1, []),
  (33, .ifCond .ge 6, 3, []),
  (36, .bipush (-11), 2, []),
  (38, .ireturn, 1, []),
  (39, .aload_n 0, 1, []),
  (40, .getfield 193, 3, [7, 60, 0, 4183]),
  (43, .iload_n 1, 1, []),
  (44, .iaload, 1, []),
  (45, .aload_n 0, 1, []),
  (46, .getfield 193, 3, [7, 60, 0, 4183]),
  (49, .iload_n 3, 1, []),
  (50, .iaload, 1, []),
  (51, .if_icmp .eq 6, 3, []),
  (54, .bipush (-12), 2, []),
  (56, .ireturn, 1, []),
  (57, .iload 5, 2, []),
  (59, .ifCond .lt 39, 3, []),
  (62, .iload_n 2, 1, []),
  (63, .ifCond .lt 35, 3, []),
  (66, .iload 4, 2, []),
  (68, .ifCond .lt 30, 3, []),
  (71, .iload_n 2, 1, []),
  (72, .aload_n 0, 1, []),
  (73, .getfield 196, 3, [7, 61, 0, 4184]),
  (76, .iload_n 1, 1, []),
  (77, .iaload, 1, []),
  (78, .iload 5, 2, []),
  (80, .isub, 1, []),
  (81, .if_icmp .gt 17, 3, []),
  (84, .iload 4, 2, []),
  (86, .aload_n 0, 1, []),
  (87, .getfield 196, 3, [7, 61, 0, 4184]),
  (90, .iload_n 3, 1, []),
  (91, .iaload, 1, []),
  (92, .iload 5, 2, []),
  (94, .isub, 1, []),
  (95, .if_icmp .le 6, 3, []),
  (98, .bipush (-13), 2, []),
  (100, .ireturn, 1, []),
  (101, .iconst 0, 1, []),
  (102, .istore 6, 2, []),
  (104, .iload 6, 2, []),
  (106, .iload 5, 2, []),
  (108, .if_icmp .ge 30, 3, []),
  (111, .aload_n 0, 1, []),
  (112, .getfield 203, 3, [7, 63, 0, 4186]),
  (115, .iload 6, 2, []),
  (117, .aload_n 0, 1, []),
  (118, .getfield 199, 3, [7, 62, 0, 4185]),
  (121, .bipush 60, 2, []),
  (123, .iload_n 1, 1, []),
  (124, .imul, 1, []),
  (125, .iload_n 2, 1, []),
  (126, .iadd, 1, []),
  (127, .iload 6, 2, []),
  (129, .iadd, 1, []),
  (130, .laload, 1, []),
  (131, .lastore, 1, []),
  (132, .iinc 6 1, 3, []),
  (135, .goto (-31), 3, []),
  (138, .iconst 0, 1, []),
  (139, .istore 6, 2, []),
  (141, .iload 6, 2, []),
  (143, .iload 5, 2, []),
  (145, .if_icmp .ge 31, 3, []),
  (148, .aload_n 0, 1, []),
  (149, .getfield 199, 3, [7, 62, 0, 4185]),
  (152, .bipush 60, 2, []),
  (154, .iload_n 3, 1, []),
  (155, .imul, 1, []),
  (156, .iload 4, 2, []),
  (158, .iadd, 1, []),
  (159, .iload 6, 2, []),
  (161, .iadd, 1, []),
  (162, .aload_n 0, 1, []),
  (163, .getfield 203, 3, [7, 63, 0, 4186]),
  (166, .iload 6, 2, []),
  (168, .laload, 1, []),
  (169, .lastore, 1, []),
  (170, .iinc 6 1, 3, []),
  (173, .goto (-32), 3, []),
  (176, .iload 5, 2, []),
  (178, .ireturn, 1, [])]
def c_204 : List En := [
  (0, .iload_n 0, 1, []),
  (1, .iload_n 0, 1, []),
  (2, .iconst 1, 1, []),
  (3, .iushr, 1, []),
  (4, .ldc_w 265, 3, [0, 1431655765, 2171]),
  (7, .iand, 1, []),
  (8, .isub, 1, []),
  (9, .istore_n 0, 1, []),
  (10, .iload_n 0, 1, []),
  (11, .ldc_w 266, 3, [0, 858993459, 2172]),
  (14, .iand, 1, []),
  (15, .iload_n 0, 1, []),
  (16, .iconst 2, 1, []),
  (17, .iushr, 1, []),
  (18, .ldc_w 266, 3, [0, 858993459, 2172]),
  (21, .iand, 1, []),
  (22, .iadd, 1, []),
  (23, .istore_n 0, 1, []),
  (24, .iload_n 0, 1, []),
  (25, .iload_n 0, 1, []),
  (26, .iconst 4, 1, []),
  (27, .iushr, 1, []),
  (28, .iadd, 1, []),
  (29, .ldc_w 267, 3, [0, 252645135, 2173]),
  (32, .iand, 1, []),
  (33, .istore_n 0, 1, []),
  (34, .iload_n 0, 1, []),
  (35, .iload_n 0, 1, []),
  (36, .bipush 8, 2, []),
  (38, .iushr, 1, []),
  (39, .iadd, 1, []),
  (40, .istore_n 0, 1, []),
  (41, .iload_n 0, 1, []),
  (42, .iload_n 0, 1, []),
  (43, .bipush 16, 2, []),
  (45, .iushr, 1, []),
  (46, .iadd, 1, []),
  (47, .istore_n 0, 1, []),
  (48, .iload_n 0, 1, []),
  (49, .bipush 63, 2, []),
  (51, .iand, 1, []),
  (52, .ireturn, 1, [])]
def c_205 : List En := [
  (0, .iload_n 0, 1, []),
  (1, .iload_n 1, 1, []),
  (2, .irem, 1, []),
  (3, .istore_n 2, 1, []),
  (4, .iload_n 0, 1, []),
  (5, .iload_n 1, 1, []),
  (6, .ixor, 1, []),
  (7, .ifCond .ge 11, 3, []),
  (10, .iload_n 2, 1, []),
  (11, .ifCond .eq 7, 3, []),
  (14, .iload_n 2, 1, []),
  (15, .iload_n 1, 1, []),
  (16, .iadd, 1, []),
  (17, .ireturn, 1, []),
  (18, .iload_n 2, 1, []),
  (19, .ireturn, 1, [])]
def c_206 : List En := [
  (0, .iload_n 0, 1, []),
  (1, .ifCond .ge 8, 3, []),
  (4, .iload_n 0, 1, []),
  (5, .ineg, 1, []),
  (6, .goto 4, 3, []),
  (9, .iload_n 0, 1, []),
  (10, .ireturn, 1, [])]
def c_207 : List En := [
  (0, .iload_n 0, 1, []),
  (1, .iload_n 1, 1, []),
  (2, .if_icmp .lt 7, 3, []),
  (5, .iload_n 0, 1, []),
  (6, .goto 4, 3, []),
  (9, .iload_n 1, 1, []),
  (10, .ireturn, 1, [])]
def c_208 : List En := [
  (0, .iload_n 0, 1, []),
  (1, .iload_n 1, 1, []),
  (2, .if_icmp .gt 7, 3, []),
  (5, .iload_n 0, 1, []),
  (6, .goto 4, 3, []),
  (9, .iload_n 1, 1, []),
  (10, .ireturn, 1, [])]
def c_209 : List En := [
  (0, .aload_n 0, 1, []),
  (1, .getfield 9, 3, [9, 0, 0, 6219]),
  (4, .arraylength, 1, []),
  (5, .aload_n 0, 1, []),
  (6, .invokevirtual 335, 3, [213, 1, 0, 0, 3024, 3025, 3026]),
  (9, .ishr, 1, []),
  (10, .ireturn, 1, [])]
def c_210 : List En := [
  (0, .aload_n 0, 1, []),
  (1, .invokevirtual 492, 3, [214, 1, 0, 0, 3034, 3035, 3036]),
  (4, .ifCond .eq 12, 3, []),
  (7, .aload_n 0, 1, []),
  (8, .getfield 9, 3, [9, 0, 0, 6219]),
  (11, .iload_n 1, 1, []),
  (12, .invokestatic 495, 3, [216, 2, 2, 0, 3038, 3039, 0]),
  (15, .ireturn, 1, []),
  (16, .aload_n 0, 1, []),
  (17, .getfield 9, 3, [9, 0, 0, 6219]),
  (20, .iload_n 1, 1, []),
  (21, .invokestatic 498, 3, []),
  (24, .ireturn, 1, [])]
def c_211 : List En := [
  (0, .aload_n 0, 1, []),
  (1, .iload_n 1, 1, []),
  (2, .iconst 0, 1, []),
  (3, .invokevirtual 633, 3, [212, 3, 0, 0, 3099, 3100, 3101]),
  (6, .ireturn, 1, [])]
def c_212 : List En := [
  (0, .aload_n 0, 1, []),
  (1, .invokevirtual 492, 3, [214, 1, 0, 0, 3034, 3035, 3036]),
  (4, .ifCond .eq 19, 3, []),
  (7, .aload_n 0, 1, []),
  (8, .getfield 9, 3, [9, 0, 0, 6219]),
  (11, .iload_n 1, 1, []),
  (12, .iload_n 2, 1, []),
  (13, .aload_n 0, 1, []),
  (14, .invokevirtual 505, 3, [209, 1, 0, 0, 3103, 3021, 3022]),
  (17, .invokestatic 637, 3, [218, 4, 2, 0, 3104, 3105, 0]),
  (20, .goto 16, 3, []),
  (23, .aload_n 0, 1, []),
  (24, .getfield 9, 3, [9, 0, 0, 6219]),
  (27, .iload_n 1, 1, []),
  (28, .iload_n 2, 1, []),
  (29, .aload_n 0, 1, []),
  (30, .invokevirtual 505, 3, [209, 1, 0, 0, 3103, 3021, 3022]),
  (33, .invokestatic 640, 3, []),
  (36, .ireturn, 1, [])]
def c_213 : List En := [
  (0, .getstatic 38, 3, [2, 0, 3028]),
  (3, .ifCond .eq 10, 3, []),
  (6, .aload_n 0, 1, []),
  (7, .getfield 15, 3, [9, 1, 0, 6220]),
  (10, .goto 4, 3, []),
  (13, .iconst 1, 1, []),
  (14, .ireturn, 1, [])]
def c_214 : List En := [
  (0, .getstatic 38, 3, [2, 0, 3028]),
  (3, .ifCond .eq 14, 3, []),
  (6, .aload_n 0, 1, []),
  (7, .getfield 15, 3, [9, 1, 0, 6220]),
  (10, .ifCond .ne 7, 3, []),
  (13, .iconst 1, 1, []),
  (14, .goto 4, 3, []),
  (17, .iconst 0, 1, []),
  (18, .ireturn, 1, [])]
def c_215 : List En := [
  (0, .iload_n 0, 1, []),
  (1, .iload_n 1, 1, []),
  (2, .getstatic 1053, 3, [3, 0, 3044]),
  (5, .invokestatic 1059, 3, [222, 3, 2, 0, 3046, 3047, 0]),
  (8, .pop, 1, []),
  (9, .return_, 1, [])]
def c_216 : List En := [
  (0, .iload_n 1, 1, []),
  (1, .aload_n 0, 1, []),
  (2, .arraylength, 1, []),
  (3, .invokestatic 9, 3, [215, 2, 2, 0, 3041, 3042, 0]),
  (6, .aload_n 0, 1, []),
  (7, .iload_n 1, 1, []),
  (8, .baload, 1, []),
  (9, .sipush 255, 3, []),
  (12, .iand, 1, []),
  (13, .i2c, 1, []),
  (14, .ireturn, 1, [])]
def c_217 : List En := [
  (0, .iload_n 0, 1, []),
  (1, .ifCond .lt 14, 3, []),
  (4, .iload_n 0, 1, []),
  (5, .sipush 255, 3, []),
  (8, .if_icmp .gt 7, 3, []),
  (11, .iconst 1, 1, []),
  (12, .goto 4, 3, []),
  (15, .iconst 0, 1, []),
  (16, .ireturn, 1, [])]
def c_218 : List En := [
  (0, .iload_n 1, 1, []),
  (1, .invokestatic 88, 3, [217, 1, 2, 0, 3107, 3108, 0]),
  (4, .ifCond .ne 5, 3, []),
  (7, .iconst (-1), 1, []),
  (8, .ireturn, 1, []),
  (9, .iload_n 2, 1, []),
  (10, .iconst 0, 1, []),
  (11, .invokestatic 92, 3, [207, 2, 2, 0, 3110, 2139, 0]),
  (14, .istore_n 2, 1, []),
  (15, .iload_n 3, 1, []),
  (16, .aload_n 0, 1, []),
  (17, .arraylength, 1, []),
  (18, .invokestatic 38, 3, [208, 2, 2, 0, 3111, 2188, 0]),
  (21, .istore_n 3, 1, []),
  (22, .iload_n 2, 1, []),
  (23, .iload_n 3, 1, []),
  (24, .if_icmp .lt 5, 3, []),
  (27, .iconst (-1), 1, []),
  (28, .ireturn, 1, []),
  (29, .aload_n 0, 1, []),
  (30, .iload_n 1, 1, []),
  (31, .iload_n 2, 1, []),
  (32, .iload_n 3, 1, []),
  (33, .invokestatic 95, 3, [219, 4, 2, 0, 3112, 3113, 0]),
  (36, .ireturn, 1, [])]
def c_219 : List En := [
  (0, .iload_n 1, 1, []),
  (1, .i2b, 1, []),
  (2, .istore 4, 2, []),
  (4, .iload_n 2, 1, []),
  (5, .istore 5, 2, []),
  (7, .iload 5, 2, []),
  (9, .iload_n 3, 1, []),
  (10, .if_icmp .ge 21, 3, []),
  (13, .aload_n 0, 1, []),
  (14, .iload 5, 2, []),
  (16, .baload, 1, []),
  (17, .iload 4, 2, []),
  (19, .if_icmp .ne 6, 3, []),
  (22, .iload 5, 2, []),
  (24, .ireturn, 1, []),
  (25, .iinc 5 1, 3, []),
  (28, .goto (-21), 3, []),
  (31, .iconst (-1), 1, []),
  (32, .ireturn, 1, [])]
def c_220 : List En := [
  (0, .iconst 0, 1, []),
  (1, .istore_n 3, 1, []),
  (2, .aload_n 0, 1, []),
  (3, .arraylength, 1, []),
  (4, .istore 4, 2, []),
  (6, .iload_n 3, 1, []),
  (7, .iload 4, 2, []),
  (9, .if_icmp .ge 13, 3, []),
  (12, .aload_n 0, 1, []),
  (13, .iload_n 3, 1, []),
  (14, .lload_n 1, 1, []),
  (15, .lastore, 1, []),
  (16, .iinc 3 1, 3, []),
  (19, .goto (-13), 3, []),
  (22, .return_, 1, [])]
def c_221 : List En := [
  (0, .iconst 0, 1, []),
  (1, .istore_n 2, 1, []),
  (2, .aload_n 0, 1, []),
  (3, .arraylength, 1, []),
  (4, .istore_n 3, 1, []),
  (5, .iload_n 2, 1, []),
  (6, .iload_n 3, 1, []),
  (7, .if_icmp .ge 13, 3, []),
  (10, .aload_n 0, 1, []),
  (11, .iload_n 2, 1, []),
  (12, .iload_n 1, 1, []),
  (13, .iastore, 1, []),
  (14, .iinc 2 1, 3, []),
  (17, .goto (-12), 3, []),
  (20, .return_, 1, [])]
def c_222 : List En := [
  (0, .iload_n 0, 1, []),
  (1, .ifCond .lt 8, 3, []),
  (4, .iload_n 0, 1, []),
  (5, .iload_n 1, 1, []),
  (6, .if_icmp .lt 10, 3, []),
  (9, .aload_n 2, 1, []),
  (10, .iload_n 0, 1, []),
  (11, .iload_n 1, 1, []),
  (12, .invokestatic 95, 3, []),
  (15, .athrow, 1, []),
  (16, .iload_n 0, 1, []),
  (17, .ireturn, 1, [])]
def progs : List (List En) := [c_0, c_1, c_2, c_3, c_4, c_5, c_6, c_7, c_8, c_9, c_10, c_11, c_12, c_13, c_14, c_15, c_16, c_17, c_18, c_19, c_20, c_21, c_22, c_23, c_24, c_25, c_26, c_27, c_28, c_29, c_30, c_31, c_32, c_33, c_34, c_35, c_36, c_37, c_38, c_39, c_40, c_41, c_42, c_43, c_44, c_45, c_46, c_47, c_48, c_49, c_50, c_51, c_52, c_53, c_54, c_55, c_56, c_57, c_58, c_59, c_60, c_61, c_62, c_63, c_64, c_65, c_66, c_67, c_68, c_69, c_70, c_71, c_72, c_73, c_74, c_75, c_76, c_77, c_78, c_79, c_80, c_81, c_82, c_83, c_84, c_85, c_86, c_87, c_88, c_89, c_90, c_91, c_92, c_93, c_94, c_95, c_96, c_97, c_98, c_99, c_100, c_101, c_102, c_103, c_104, c_105, c_106, c_107, c_108, c_109, c_110, c_111, c_112, c_113, c_114, c_115, c_116, c_117, c_118, c_119, c_120, c_121, c_122, c_123, c_124, c_125, c_126, c_127, c_128, c_129, c_130, c_131, c_132, c_133, c_134, c_135, c_136, c_137, c_138, c_139, c_140, c_141, c_142, c_143, c_144, c_145, c_146, c_147, c_148, c_149, c_150, c_151, c_152, c_153, c_154, c_155, c_156, c_157, c_158, c_159, c_160, c_161, c_162, c_163, c_164, c_165, c_166, c_167, c_168, c_169, c_170, c_171, c_172, c_173, c_174, c_175, c_176, c_177, c_178, c_179, c_180, c_181, c_182, c_183, c_184, c_185, c_186, c_187, c_188, c_189, c_190, c_191, c_192, c_193, c_194, c_195, c_196, c_197, c_198, c_199, c_200, c_201, c_202, c_203, c_204, c_205, c_206, c_207, c_208, c_209, c_210, c_211, c_212, c_213, c_214, c_215, c_216, c_217, c_218, c_219, c_220, c_221, c_222]
def pAt (y pc : Nat) : Option En := (progs.getD y []).find? (fun e => e.1 == pc)
def codePl : List Nat := [1000, 1215, 4060, 4063, 4071, 1098, 2093, 3205, 3237, 3175, 2104, 2116, 2148, 2155, 2178, 2159, 2163, 2167, 2201, 2206, 2182, 2186, 2197, 2193, 2122, 1030, 2074, 2078, 2112, 2108, 4005, 2066, 3228, 2097, 2002, 4037, 4041, 4115, 4093, 4103, 1193, 2226, 2234, 3002, 3006, 3073, 3077, 3081, 3085, 3014, 3010, 3019, 3094, 1106, 2238, 3089, 3157, 2129, 2133, 2137, 3153, 2144, 1022, 2056, 2070, 2210, 2214, 2218, 2222, 2230, 3162, 3167, 3171, 3181, 3189, 3193, 3201, 3209, 3213, 3217, 3221, 3233, 4001, 4009, 4013, 4021, 4025, 4029, 4033, 4047, 4052, 4056, 4076, 4080, 4085, 4089, 4100, 4107, 4111, 2085, 2089, 3197, 2059, 2062, 2081, 3184, 3224, 4017, 4121, 5084, 5176, 6048, 5092, 6000, 5080, 5088, 5096, 5100, 5104, 5124, 5132, 5128, 5140, 5136, 5156, 5160, 5164, 5152, 5148, 5144, 5120, 5116, 5112, 5108, 5212, 5216, 5224, 5220, 5208, 5172, 5204, 5228, 5200, 5196, 5192, 5184, 5188, 5180, 5232, 5168, 5236, 6024, 6020, 6028, 6016, 6036, 6032, 6012, 6008, 6004, 6044, 6052, 6040, 6060, 6056, 6064, 6068, 6072, 6076, 6080, 6084, 6092, 6096, 6088, 6100, 6104, 6108, 6121, 6117, 6112, 6125, 6129, 6133, 6137, 6145, 6149, 6161, 6165, 6157, 6177, 6173, 6169, 6185, 6181, 6153, 6189, 6193, 6197, 6141, 6201, 6209, 6205, 6213, 6217, 2170, 2125, 2151, 2140, 2189, 3023, 3033, 3098, 3102, 3027, 3037, 3043, 3040, 3109, 3106, 3114, 4096, 2008, 3048]
def layP : List (List Nat) := [[1227, 1229, 1231, 1233, 1235], [1151, 1153, 1155, 1157, 1159, 1161, 1163, 1165, 1167, 1169, 1171, 1173, 1175, 1177, 1179, 1181, 1183], [1066, 1068, 1070, 1072, 1074, 1076, 1078, 1080, 1082, 1084, 1086, 1088, 1090], [2014, 2016, 2018], [1202, 1204, 1206, 1208], [1114, 1116, 1118, 1120, 1122, 1124], [2032, 2034, 2036, 2038, 2040, 2042, 2044, 2046, 2048, 2050], [4187, 4189, 4191, 4193, 4195, 4197, 4199, 4201, 4203, 4205, 4207, 4209, 4211, 4213, 4215, 4217, 4219, 4221, 4223, 4225, 4227, 4229, 4231, 4233, 4235, 4237, 4239, 5001, 5003, 5005, 5007, 5009, 5011, 5013, 5015, 5017, 5019, 5021, 5023, 5025, 5027, 5029, 5031, 5033, 5035, 5037, 5039, 5041, 5043, 5045, 5047, 5049, 5051, 5053, 5055, 5057, 5059, 5061, 5063, 5065, 5067, 5069, 5071, 5073]]
def insP : List Nat := [1212, 1095, 1027, 1239, 1190, 1103, 1019, 4118]
def arcP : List Nat := [1093, 2021, 5076]
def natP : List Nat := [2100, 2099, 1010]
def objP : List Nat := [1024, 1025]
def iniP : List (String × Nat) := [("PastCatchersLaw", 1000), ("PastCatchers", 1001), ("PastCatchers$Group", 1002), ("PastCatchers$Crossing", 1003), ("PastCatchers$Yard", 1004), ("PastCatchers$TextReader", 1005), ("PastCatchers$Acts", 1006), ("PastCatchers$Tapes", 1007), ("java/util/Arrays", 1008), ("PastCatchersModel", 1009), ("java/lang/System", 1010), ("java/lang/Math", 1011), ("java/lang/Integer", 1012), ("java/lang/String", 1013), ("java/lang/StringLatin1", 1014), ("jdk/internal/util/Preconditions", 1015), ("java/lang/StringUTF16", 1016), ("java/lang/Character", 1017)]
end
section
/-! A machine of its own over the printed instructions: a pure step, and a run with fuel and depth. Objects and arrays are numbers; what a cell holds is said by functions. -/
def OLDB : Nat := 1000000
theorem OLDB_eq : OLDB = 1000000 := rfl
abbrev Sh : Type := (Nat × Nat) ⊕ Nat
abbrev Hp : Type := List Sh × (Nat → Nat → Int32) × (Nat → Nat → Int64) × (Nat → Nat → Option Nat)
abbrev Scr : Type := Nat × (Nat → Int32)
abbrev Cfg : Type := Nat × List Value × List Value × Hp
def ud {α : Type} (f : Nat → Nat → α) (a i : Nat) (v : α) : Nat → Nat → α := fun a' => if a' = a then (fun j => if j = i then v else f a j) else f a'
def clr {α : Type} (f : Nat → Nat → α) (a : Nat) (v : α) : Nat → Nat → α := fun a' => if a' = a then (fun _ => v) else f a'
def inB (i : Int32) (n : Nat) : Bool := decide (¬ i < 0) && decide (i.toNatClampNeg < n)
def aboveL : List Int32 := [-1, 0, 0, 0, 1, 2, 3]
def bodiesL : List Int32 := [10, 0, 30, 0, 50, 0, 71, 11, 20, 0, 0, 51, 0, 70, 12, 0, 0, 40, 0, 60, 0]
def strB : List (List Int32) := [[101, 97, 99, 104], [111, 108, 100], [111, 100, 103, 101], [112, 107, 108, 115, 97, 121], [60, 61, 62]]
def strL : List Nat := [4, 3, 4, 6, 3]
def oldArr (X : Scr) (j : Nat) : Option (Nat × Nat × (Nat → Int32)) :=
  if j = 0 then some (0, X.1, X.2)
  else if j = 1 then some (0, 7, fun i => aboveL.getD i 0)
  else if j = 2 then some (0, 21, fun i => bodiesL.getD i 0)
  else if 8 ≤ j ∧ j < 13 then some (5, strL.getD (j - 8) 0, fun i => (strB.getD (j - 8) []).getD i 0)
  else none
def isRefTy : FieldType → Bool
  | .object _ => true
  | .array _ => true
  | _ => false
def isBoolTy : FieldType → Bool
  | .boolean => true
  | _ => false
/-- the slot before k isn't the first half of a long -/
def okSt (L : List Value) : Nat → Bool
  | 0 => true
  | k + 1 => match L[k]? with
    | some v => v.category == 1
    | none => false
def condB : Jvm.ClassFile.Cond → Int32 → Int32 → Bool
  | .eq, x, y => decide (x = y)
  | .ne, x, y => decide (¬ x = y)
  | .lt, x, y => decide (x < y)
  | .ge, x, y => decide (y ≤ x)
  | .gt, x, y => decide (y < x)
  | .le, x, y => decide (x ≤ y)
def jump (pc : Nat) (off : Int) : Option Nat := if 0 ≤ (pc : Int) + off then some ((pc : Int) + off).toNat else none
def atag : ArrayType → Option Nat
  | .int => some 0
  | .long => some 1
  | .boolean => some 2
  | _ => none
def catSum (st : List Value) : Nat := (st.map fun v => v.category).sum
/-- the value of a field of a new object -/
def fval (h : Hp) (ci a k : Nat) : Option Value := if isRefTy (vwTy ci k) then (match h.2.2.2 a k with
    | some b => if b < OLDB then some (.ref b) else none
    | none => none) else some (.int (h.2.1 a k))
def getF (o : List Nat) (st : List Value) (h : Hp) : Option (List Value) := match o with
  | [9, f, _, _] => (match st with
    | .ref a :: st => if OLDB + 3 ≤ a ∧ a < OLDB + 8 then some ((if f = 0 then .ref (a + 5) else .int 0) :: st) else none
    | _ => none)
  | [ci, k, _, _] => (match st with
    | .ref a :: st => if a < OLDB ∧ h.1[a]? = some (.inr ci) ∧ k < vwN ci then (fval h ci a k).map (· :: st) else none
    | _ => none)
  | _ => none
def putF (o : List Nat) (st : List Value) (h : Hp) : Option (List Value × Hp) := match o with
  | [ci, k, _, _] => (match st with
    | v :: .ref a :: st => if a < OLDB ∧ h.1[a]? = some (.inr ci) ∧ k < vwN ci then
        (match v with
        | .int x => if isRefTy (vwTy ci k) then none else if isBoolTy (vwTy ci k) ∧ ¬ (x = 0 ∨ x = 1) then none else some (st, (h.1, ud h.2.1 a k x, h.2.2.1, h.2.2.2))
        | .ref b => if isRefTy (vwTy ci k) ∧ b < OLDB then some (st, (h.1, h.2.1, h.2.2.1, ud h.2.2.2 a k (some b))) else none
        | _ => none)
      else none
    | _ => none)
  | _ => none
def arrNew (h : Hp) (t n : Nat) : Hp := (h.1 ++ [.inl (t, n)], clr h.2.1 h.1.length 0, clr h.2.2.1 h.1.length 0, clr h.2.2.2 h.1.length none)
def objNew (h : Hp) (ci : Nat) : Hp := (h.1 ++ [.inr ci], clr h.2.1 h.1.length 0, clr h.2.2.1 h.1.length 0, clr h.2.2.2 h.1.length none)
/-- new long[n][k] -/
def rowNew (h : Hp) (n k : Nat) : Hp := (h.1 ++ .inl (4, n) :: List.replicate n (.inl (1, k)), fun a => if h.1.length ≤ a then (fun _ => 0) else h.2.1 a, fun a => if h.1.length ≤ a then (fun _ => 0) else h.2.2.1 a,
  fun a => if a = h.1.length then (fun i => if i < n then some (h.1.length + 1 + i) else none) else if h.1.length ≤ a then (fun _ => none) else h.2.2.2 a)
def copyA (st : List Value) (h : Hp) : Option (List Value × Hp) := match st with
  | .int n :: .int dp :: .ref a :: .int sp :: .ref b :: st =>
    if a < OLDB ∧ b < OLDB ∧ ¬ sp < 0 ∧ ¬ dp < 0 ∧ ¬ n < 0 ∧ catSum st ≤ 8 then
      (match h.1[a]?, h.1[b]? with
      | some (.inl (t, m)), some (.inl (t', m')) =>
        if t = t' ∧ sp.toNatClampNeg + n.toNatClampNeg ≤ m' ∧ dp.toNatClampNeg + n.toNatClampNeg ≤ m then
          (if t = 0 then some (st, (h.1, (fun x => if x = a then va_cpy (h.2.1 b) (h.2.1 a) sp.toNatClampNeg dp.toNatClampNeg n.toNatClampNeg else h.2.1 x), h.2.2.1, h.2.2.2))
          else if t = 1 then some (st, (h.1, h.2.1, (fun x => if x = a then va_cpy (h.2.2.1 b) (h.2.2.1 a) sp.toNatClampNeg dp.toNatClampNeg n.toNatClampNeg else h.2.2.1 x), h.2.2.2))
          else none)
        else none
      | _, _ => none)
    else none
  | _ => none
/-- the instructions on locals, stack and numbers alone -/
def pstep (i : Instr) (o : List Nat) (pc : Nat) (L st : List Value) : Option (Nat × List Value × List Value) := match i with
  | .iconst k => some (pc + 1, L, .int (Int32.ofInt k) :: st)
  | .bipush k => some (pc + 2, L, .int (Int8.ofInt k).toInt32 :: st)
  | .sipush k => some (pc + 3, L, .int (Int16.ofInt k).toInt32 :: st)
  | .lconst k => some (pc + 1, L, .long (Int64.ofNat (k : Nat)) :: st)
  | .ldc _ => (match o with
    | [0, v, _] => some (pc + 2, L, .int (Int32.ofNat v) :: st)
    | [1, j, _] => if j < 5 then some (pc + 2, L, .ref (OLDB + 3 + j) :: st) else none
    | _ => none)
  | .ldc_w _ => (match o with
    | [0, v, _] => some (pc + 3, L, .int (Int32.ofNat v) :: st)
    | _ => none)
  | .ldc2_w _ => (match o with
    | [v, _] => some (pc + 3, L, .long (Int64.ofNat v) :: st)
    | _ => none)
  | .iload k => (match L[k]? with | some (.int x) => some (pc + 2, L, .int x :: st) | _ => none)
  | .iload_n k => (match L[(k : Nat)]? with | some (.int x) => some (pc + 1, L, .int x :: st) | _ => none)
  | .lload k => (match L[k]? with | some (.long x) => some (pc + 2, L, .long x :: st) | _ => none)
  | .lload_n k => (match L[(k : Nat)]? with | some (.long x) => some (pc + 1, L, .long x :: st) | _ => none)
  | .aload k => (match L[k]? with | some (.ref x) => if x = OLDB + 13 then none else some (pc + 2, L, .ref x :: st) | _ => none)
  | .aload_n k => (match L[(k : Nat)]? with | some (.ref x) => if x = OLDB + 13 then none else some (pc + 1, L, .ref x :: st) | _ => none)
  | .istore k => (match st with | .int x :: st => if k < L.length ∧ okSt L k = true then some (pc + 2, L.set k (.int x), st) else none | _ => none)
  | .istore_n k => (match st with | .int x :: st => if (k : Nat) < L.length ∧ okSt L k = true then some (pc + 1, L.set k (.int x), st) else none | _ => none)
  | .lstore k => (match st with | .long x :: st => if k + 1 < L.length ∧ okSt L k = true then some (pc + 2, (L.set k (.long x)).set (k + 1) (.retAddr 0), st) else none | _ => none)
  | .lstore_n k => (match st with | .long x :: st => if (k : Nat) + 1 < L.length ∧ okSt L k = true then some (pc + 1, (L.set k (.long x)).set (k + 1) (.retAddr 0), st) else none | _ => none)
  | .astore_n k => (match st with | .ref x :: st => if (k : Nat) < L.length ∧ okSt L k = true ∧ ¬ x = OLDB + 13 then some (pc + 1, L.set k (.ref x), st) else none | _ => none)
  | .iinc k n => (match L[k]? with | some (.int x) => if okSt L k = true then some (pc + 3, L.set k (.int (x + Int32.ofInt n)), st) else none | _ => none)
  | .iadd => (match st with | .int y :: .int x :: st => some (pc + 1, L, .int (x + y) :: st) | _ => none)
  | .isub => (match st with | .int y :: .int x :: st => some (pc + 1, L, .int (x - y) :: st) | _ => none)
  | .imul => (match st with | .int y :: .int x :: st => some (pc + 1, L, .int (x * y) :: st) | _ => none)
  | .idiv => (match st with | .int y :: .int x :: st => if y = 0 then none else some (pc + 1, L, .int (x / y) :: st) | _ => none)
  | .irem => (match st with | .int y :: .int x :: st => if y = 0 then none else some (pc + 1, L, .int (x - x / y * y) :: st) | _ => none)
  | .ineg => (match st with | .int x :: st => some (pc + 1, L, .int (-x) :: st) | _ => none)
  | .iand => (match st with | .int y :: .int x :: st => some (pc + 1, L, .int (x &&& y) :: st) | _ => none)
  | .ior => (match st with | .int y :: .int x :: st => some (pc + 1, L, .int (x ||| y) :: st) | _ => none)
  | .ixor => (match st with | .int y :: .int x :: st => some (pc + 1, L, .int (x ^^^ y) :: st) | _ => none)
  | .ishl => (match st with | .int y :: .int x :: st => some (pc + 1, L, .int (x <<< (y &&& 31)) :: st) | _ => none)
  | .ishr => (match st with | .int y :: .int x :: st => some (pc + 1, L, .int (x >>> (y &&& 31)) :: st) | _ => none)
  | .iushr => (match st with | .int y :: .int x :: st => some (pc + 1, L, .int (x.toUInt32 >>> (y.toUInt32 &&& Int32.toUInt32 31)).toInt32 :: st) | _ => none)
  | .ladd => (match st with | .long y :: .long x :: st => some (pc + 1, L, .long (x + y) :: st) | _ => none)
  | .lsub => (match st with | .long y :: .long x :: st => some (pc + 1, L, .long (x - y) :: st) | _ => none)
  | .land => (match st with | .long y :: .long x :: st => some (pc + 1, L, .long (x &&& y) :: st) | _ => none)
  | .lor => (match st with | .long y :: .long x :: st => some (pc + 1, L, .long (x ||| y) :: st) | _ => none)
  | .lxor => (match st with | .long y :: .long x :: st => some (pc + 1, L, .long (x ^^^ y) :: st) | _ => none)
  | .lshl => (match st with | .int y :: .long x :: st => some (pc + 1, L, .long (x <<< (y.toInt64 &&& 63)) :: st) | _ => none)
  | .lshr => (match st with | .int y :: .long x :: st => some (pc + 1, L, .long (x >>> (y.toInt64 &&& 63)) :: st) | _ => none)
  | .lcmp => (match st with | .long y :: .long x :: st => some (pc + 1, L, .int (lg_cmp x y) :: st) | _ => none)
  | .i2l => (match st with | .int x :: st => some (pc + 1, L, .long x.toInt64 :: st) | _ => none)
  | .l2i => (match st with | .long x :: st => some (pc + 1, L, .int x.toInt32 :: st) | _ => none)
  | .i2b => (match st with | .int x :: st => some (pc + 1, L, .int x.toInt8.toInt32 :: st) | _ => none)
  | .i2s => (match st with | .int x :: st => some (pc + 1, L, .int x.toInt16.toInt32 :: st) | _ => none)
  | .i2c => (match st with | .int x :: st => some (pc + 1, L, .int (x.toUInt32 % 65536).toInt32 :: st) | _ => none)
  | .dup => (match st with | v :: st => if v.category = 1 then some (pc + 1, L, v :: v :: st) else none | _ => none)
  | .pop => (match st with | v :: st => if v.category = 1 then some (pc + 1, L, st) else none | _ => none)
  | .dup2 => (match st with | v :: w :: st => if v.category = 1 ∧ w.category = 1 then some (pc + 1, L, v :: w :: v :: w :: st) else none | _ => none)
  | .pop2 => (match st with | v :: st => if v.category = 2 then some (pc + 1, L, st) else none | _ => none)
  | .ifCond q off => (match st with | .int x :: st => (jump pc off).map (fun t => (if condB q x 0 = true then t else pc + 3, L, st)) | _ => none)
  | .if_icmp q off => (match st with | .int y :: .int x :: st => (jump pc off).map (fun t => (if condB q x y = true then t else pc + 3, L, st)) | _ => none)
  | .goto off => (jump pc off).map (fun t => (t, L, st))
  | .tableswitch dflt lo hi offs => (match st with
    | .int x :: st => if x.toInt < lo ∨ hi < x.toInt then (jump pc dflt).map (fun t => (t, L, st)) else
        (match offs[(x.toInt - lo).toNat]? with | some off => (jump pc off).map (fun t => (t, L, st)) | none => none)
    | _ => none)
  | .lookupswitch dflt ps => (match st with
    | .int x :: st => if (ps.toList.zip (ps.toList.drop 1)).all (fun (a, next) => a.1 < next.1) = true then (jump pc (Op.lookupswitch.offset ps.toList dflt x.toInt)).map (fun t => (t, L, st)) else none
    | _ => none)
  | _ => none
/-- the instructions on the heap, without calls -/
def hstep (X : Scr) (i : Instr) (o : List Nat) (pc : Nat) (L st : List Value) (h : Hp) : Option Cfg := match i with
  | .getfield _ => (getF o st h).map (fun st' => (pc + 3, L, st', h))
  | .putfield _ => (putF o st h).map (fun q => (pc + 3, L, q.1, q.2))
  | .getstatic _ => (match o with
    | [0, _, _] => some (pc + 3, L, .ref (OLDB + 1) :: st, h)
    | [1, _, _] => some (pc + 3, L, .ref (OLDB + 2) :: st, h)
    | [2, _, _] => some (pc + 3, L, .int 1 :: st, h)
    | [3, _, _] => some (pc + 3, L, .ref (OLDB + 13) :: st, h)
    | _ => none)
  | .arraylength => (match st with
    | .ref a :: st => if a < OLDB then (match h.1[a]? with | some (.inl (t, n)) => if t < 5 then some (pc + 1, L, .int (Int32.ofNat n) :: st, h) else none | _ => none)
        else (match oldArr X (a - OLDB) with | some (_, n, _) => some (pc + 1, L, .int (Int32.ofNat n) :: st, h) | none => none)
    | _ => none)
  | .iaload => (match st with
    | .int j :: .ref a :: st => if a < OLDB then (match h.1[a]? with | some (.inl (0, n)) => if inB j n = true then some (pc + 1, L, .int (h.2.1 a j.toNatClampNeg) :: st, h) else none | _ => none)
        else (match oldArr X (a - OLDB) with | some (0, n, f) => if inB j n = true then some (pc + 1, L, .int (f j.toNatClampNeg) :: st, h) else none | _ => none)
    | _ => none)
  | .baload => (match st with
    | .int j :: .ref a :: st => if a < OLDB then (match h.1[a]? with | some (.inl (2, n)) => if inB j n = true then some (pc + 1, L, .int (h.2.1 a j.toNatClampNeg) :: st, h) else none | _ => none)
        else (match oldArr X (a - OLDB) with | some (5, n, f) => if inB j n = true then some (pc + 1, L, .int (f j.toNatClampNeg) :: st, h) else none | _ => none)
    | _ => none)
  | .laload => (match st with
    | .int j :: .ref a :: st => if a < OLDB then (match h.1[a]? with | some (.inl (1, n)) => if inB j n = true then some (pc + 1, L, .long (h.2.2.1 a j.toNatClampNeg) :: st, h) else none | _ => none) else none
    | _ => none)
  | .aaload => (match st with
    | .int j :: .ref a :: st => if a < OLDB then (match h.1[a]? with
      | some (.inl (t, n)) => if (t = 3 ∨ t = 4) ∧ inB j n = true then (match h.2.2.2 a j.toNatClampNeg with | some b => if b < OLDB then some (pc + 1, L, .ref b :: st, h) else none | none => none) else none
      | _ => none) else none
    | _ => none)
  | .iastore => (match st with
    | .int x :: .int j :: .ref a :: st => if a < OLDB then (match h.1[a]? with | some (.inl (0, n)) => if inB j n = true then some (pc + 1, L, st, (h.1, ud h.2.1 a j.toNatClampNeg x, h.2.2.1, h.2.2.2)) else none | _ => none) else none
    | _ => none)
  | .bastore => (match st with
    | .int x :: .int j :: .ref a :: st => if a < OLDB ∧ (x = 0 ∨ x = 1) then (match h.1[a]? with | some (.inl (2, n)) => if inB j n = true then some (pc + 1, L, st, (h.1, ud h.2.1 a j.toNatClampNeg x, h.2.2.1, h.2.2.2)) else none | _ => none) else none
    | _ => none)
  | .lastore => (match st with
    | .long x :: .int j :: .ref a :: st => if a < OLDB then (match h.1[a]? with | some (.inl (1, n)) => if inB j n = true then some (pc + 1, L, st, (h.1, h.2.1, ud h.2.2.1 a j.toNatClampNeg x, h.2.2.2)) else none | _ => none) else none
    | _ => none)
  | .aastore => (match st with
    | .ref b :: .int j :: .ref a :: st => if a < OLDB ∧ b < OLDB ∧ h.1[b]? = some (.inr 5) then (match h.1[a]? with | some (.inl (3, n)) => if inB j n = true then some (pc + 1, L, st, (h.1, h.2.1, h.2.2.1, ud h.2.2.2 a j.toNatClampNeg (some b))) else none | _ => none) else none
    | _ => none)
  | .new _ => (match o with | [ci, _] => if h.1.length < OLDB ∧ ci < 8 then some (pc + 3, L, .ref h.1.length :: st, objNew h ci) else none | _ => none)
  | .newarray ty => (match st with
    | .int n :: st => (match atag ty with | some t => if h.1.length < OLDB ∧ ¬ n < 0 ∧ n.toNatClampNeg ≤ 10000 then some (pc + 2, L, .ref h.1.length :: st, arrNew h t n.toNatClampNeg) else none | none => none)
    | _ => none)
  | .anewarray _ => (match st with
    | .int n :: st => if h.1.length < OLDB ∧ ¬ n < 0 ∧ n.toNatClampNeg ≤ 10000 then some (pc + 3, L, .ref h.1.length :: st, arrNew h 3 n.toNatClampNeg) else none
    | _ => none)
  | .multianewarray _ d => (match st with
    | .int k :: .int n :: st => if d = 2 ∧ h.1.length < OLDB ∧ ¬ n < 0 ∧ ¬ k < 0 ∧ n.toNatClampNeg ≤ 1000 ∧ k.toNatClampNeg ≤ 1000 then some (pc + 4, L, .ref h.1.length :: st, rowNew h n.toNatClampNeg k.toNatClampNeg) else none
    | _ => none)
  | .invokespecial _ => (match o with
    | [9999, _, _, _, _] => (match st with | .ref a :: st => if a < OLDB ∧ catSum st ≤ 8 then some (pc + 3, L, st, h) else none | _ => none)
    | _ => none)
  | .invokestatic _ => (match o with
    | [9998, _, _, _, _] => (copyA st h).map (fun q => (pc + 3, L, q.1, q.2))
    | _ => none)
  | i => (pstep i o pc L st).map (fun q => (q.1, q.2.1, q.2.2, h))
/-- the receiver of a call of method c -/
def recvOK (c : Nat) (h : Hp) (v : Value) : Bool := match v with
  | .ref a => if a < OLDB then decide (h.1[a]? = some (.inr (mCi c))) && decide (mCi c < 8) else decide (mCi c = 9) && decide (OLDB + 3 ≤ a) && decide (a < OLDB + 8)
  | _ => false
/-- the locals with which a method begins -/
def entL0 : List Value → List Value
  | [] => []
  | v :: vs => if v.category = 2 then v :: .retAddr 0 :: entL0 vs else v :: entL0 vs
def entL (n : Nat) (vs : List Value) : List Value := entL0 vs ++ List.replicate (n - (entL0 vs).length) (.retAddr 0)
def argOK (v : Value) : Bool := match v with
  | .int _ => true
  | .long _ => true
  | .ref _ => true
  | _ => false
def callOK (c na kd : Nat) (st : List Value) (h : Hp) : Bool :=
  decide (na ≤ st.length) && decide (catSum (st.drop na) ≤ 8) && (st.take na).all argOK && decide ((entL0 (st.take na).reverse).length ≤ mMaxL c) &&
  (if kd = 2 then true else match (st.take na).reverse with
    | v :: _ => if kd = 0 then recvOK c h v else (match v with | .ref a => decide (a < OLDB) | _ => false)
    | [] => false)
def retI (y : Nat) (st : List Value) (h : Hp) : Option (Option Value × Hp) := match st with
  | [.int x] => (match mRet y with | some ty => if isRefTy ty = false ∧ narrow ty (.int x) = .int x then some (some (.int x), h) else none | none => none)
  | _ => none
def retL (y : Nat) (st : List Value) (h : Hp) : Option (Option Value × Hp) := match st with
  | [.long x] => if mRet y = some .long then some (some (.long x), h) else none
  | _ => none
def retV (y : Nat) (st : List Value) (h : Hp) : Option (Option Value × Hp) := match st with
  | [] => if mRet y = none then some (none, h) else none
  | _ => none
def callO (i : Instr) (o : List Nat) : Option (Nat × Nat × Nat) := match i with
  | .invokevirtual _ => (match o with | [c, na, kd, _, _, _, _] => some (c, na, kd) | _ => none)
  | .invokespecial _ => (match o with | [c, na, kd, _, _, _, _] => some (c, na, kd) | _ => none)
  | .invokestatic _ => (match o with | [c, na, kd, _, _, _, _] => some (c, na, kd) | _ => none)
  | _ => none
def retO (y : Nat) (i : Instr) (st : List Value) (h : Hp) : Option (Option (Option Value × Hp)) := match i with
  | .ireturn => some (retI y st h)
  | .lreturn => some (retL y st h)
  | .return_ => some (retV y st h)
  | _ => none
def run (X : Scr) : Nat → Nat → Nat → Nat → List Value → List Value → Hp → Option (Option Value × Hp)
  | 0, _, _, _, _, _, _ => none
  | n + 1, dp, y, pc, L, st, h => match pAt y pc with
    | none => none
    | some (_, i, _, o) => match retO y i st h with
      | some r => r
      | none => match callO i o with
        | some (c, na, kd) => (match dp with
          | 0 => none
          | dp' + 1 => if callOK c na kd st h = true then
              (match run X n dp' c 0 (entL (mMaxL c) (st.take na).reverse) [] h with
              | some (rv, h1) => run X n (dp' + 1) y (pc + 3) L (rv.toList ++ st.drop na) h1
              | none => none)
            else none)
        | none => match hstep X i o pc L st h with
          | some (pc', L', st', h') => run X n dp y pc' L' st' h'
          | none => none
end
section
/-! What the tables' words say of every printed instruction, checked by the kernel in bulk. -/
def vwC : Nat → String := fun c => match c with
  | 0 => RX0
  | 1 => RX1
  | 2 => RX2
  | 3 => RX3
  | 4 => RX4
  | 5 => RX5
  | 6 => RX6
  | _ => RX7
def vwT : Nat → u_T := fun c => match c with
  | 0 => TX0
  | 1 => TX1
  | 2 => TX2
  | 3 => TX3
  | 4 => TX4
  | 5 => TX5
  | 6 => TX6
  | _ => TX7
def BIGG : List Jvm.Cond := lw_tbl.filter goodWord
def isNest : Jvm.Cond → Bool
  | .fieldLinkNest _ _ _ _ _ _ => true
  | .methodLinkNest _ _ _ _ => true
  | _ => false
def NEST : List Jvm.Cond := tables_1.filter isNest
/-- a word by its place: 1000 times the chunk, and the place there; chunk 0: the selects of private methods -/
def wAt (pl : Nat) : Option Jvm.Cond := match pl / 1000 with
  | 0 => (k2_sels lw_privs)[pl % 1000]?
  | 1 => tables_1_1[pl % 1000]?
  | 2 => tables_1_2[pl % 1000]?
  | 3 => tables_1_3[pl % 1000]?
  | 4 => tables_1_4[pl % 1000]?
  | 5 => tables_1_5[pl % 1000]?
  | 6 => tables_1_6[pl % 1000]?
  | _ => none
def linkOK (pl : Nat) (w : Jvm.Cond) : Bool := match wAt pl with
  | some w' => decide (w' = w) && goodWord w
  | none => false
def nestOK (pl : Nat) (w : Jvm.Cond) : Bool := match wAt pl with
  | some w' => decide (w' = w) && isNest w
  | none => false
theorem wAt_in {pl : Nat} {w : Jvm.Cond} (h : wAt pl = some w) : w ∈ lw_tbl := by
  have t : ∀ x, (x ∈ tables_1_1 ∨ x ∈ tables_1_2 ∨ x ∈ tables_1_3 ∨ x ∈ tables_1_4 ∨ x ∈ tables_1_5 ∨ x ∈ tables_1_6) → x ∈ lw_tbl := by
    intro x hx
    refine List.mem_append_right _ ?_
    show x ∈ tables_1_1 ++ (tables_1_2 ++ (tables_1_3 ++ (tables_1_4 ++ (tables_1_5 ++ tables_1_6))))
    simpa only [List.mem_append] using hx
  unfold wAt at h
  split at h
  · exact List.mem_append_left _ (List.mem_of_getElem? h)
  · exact t _ (Or.inl (List.mem_of_getElem? h))
  · exact t _ (Or.inr (Or.inl (List.mem_of_getElem? h)))
  · exact t _ (Or.inr (Or.inr (Or.inl (List.mem_of_getElem? h))))
  · exact t _ (Or.inr (Or.inr (Or.inr (Or.inl (List.mem_of_getElem? h)))))
  · exact t _ (Or.inr (Or.inr (Or.inr (Or.inr (Or.inl (List.mem_of_getElem? h))))))
  · exact t _ (Or.inr (Or.inr (Or.inr (Or.inr (Or.inr (List.mem_of_getElem? h))))))
  · cases h
theorem sels_not_nest : ∀ w ∈ k2_sels lw_privs, isNest w = false := by
  intro w hw
  obtain ⟨q, -, rfl⟩ := List.mem_map.mp hw
  rfl
theorem linkOK_in {pl : Nat} {w : Jvm.Cond} (h : linkOK pl w = true) : w ∈ BIGG := by
  unfold linkOK at h
  split at h
  · rename_i w' hw
    obtain ⟨h1, h2⟩ := (Bool.and_eq_true _ _).mp h
    have h1 := of_decide_eq_true h1
    subst h1
    exact List.mem_filter.mpr ⟨wAt_in hw, h2⟩
  · cases h
theorem nestOK_in {pl : Nat} {w : Jvm.Cond} (h : nestOK pl w = true) : w ∈ NEST := by
  unfold nestOK at h
  split at h
  · rename_i w' hw
    obtain ⟨h1, h2⟩ := (Bool.and_eq_true _ _).mp h
    have h1 := of_decide_eq_true h1
    subst h1
    rcases List.mem_append.mp (wAt_in hw) with h3 | h3
    · rw [sels_not_nest _ h3] at h2
      cases h2
    · exact List.mem_filter.mpr ⟨h3, h2⟩
  · cases h
theorem BIGG_good : ∀ w ∈ BIGG, goodWord w = true := fun _ h => (List.mem_filter.mp h).2
theorem BIGG_tbl : ∀ w ∈ BIGG, w ∈ lw_tbl := fun _ h => (List.mem_filter.mp h).1
/-- the length of an instruction; 0: it is as the table says -/
def ilen : Instr → Nat
  | .bipush _ => 2 | .sipush _ => 3 | .ldc _ => 2 | .ldc_w _ => 3 | .ldc2_w _ => 3
  | .iload _ => 2 | .lload _ => 2 | .aload _ => 2 | .istore _ => 2 | .lstore _ => 2 | .astore _ => 2
  | .iinc _ _ => 3 | .ifCond _ _ => 3 | .if_icmp _ _ => 3 | .goto _ => 3
  | .tableswitch _ _ _ _ => 0 | .lookupswitch _ _ => 0
  | .getfield _ => 3 | .putfield _ => 3 | .getstatic _ => 3 | .new _ => 3 | .newarray _ => 2 | .anewarray _ => 3 | .multianewarray _ _ => 4
  | .invokevirtual _ => 3 | .invokespecial _ => 3 | .invokestatic _ => 3
  | _ => 1
def sFld (f : Nat) : String := if f = 0 then "value" else "coder"
def sFldD (f : Nat) : String := if f = 0 then "[B" else "B"
def fldOK (own : String) (idx ci k nest pl : Nat) : Bool := if nest = 0 then linkOK pl (.fieldLink own idx (vwC ci) (vwT ci k).2.1 (vwT ci k).2.2.1) else nestOK pl (.fieldLinkNest own idx (vwC ci) (vwT ci k).2.1 (vwT ci k).2.2.1 "PastCatchers")
def staOK (own : String) (idx s nest pl : Nat) : Bool := match s with
  | 0 => if nest = 0 then linkOK pl (.fieldLink own idx "PastCatchers" "ABOVE" "[I") else nestOK pl (.fieldLinkNest own idx "PastCatchers" "ABOVE" "[I" "PastCatchers")
  | 1 => nest == 0 && linkOK pl (.fieldLink own idx "PastCatchers$Acts" "BODIES" "[I")
  | 2 => nest == 0 && linkOK pl (.fieldLink own idx "java/lang/String" "COMPACT_STRINGS" "Z")
  | 3 => nest == 0 && linkOK pl (.fieldLink own idx "jdk/internal/util/Preconditions" "SIOOBE_FORMATTER" "Ljava/util/function/BiFunction;")
  | _ => false
def iniPl (ci : Nat) (nm : String) : Nat := (iniP.find? (fun q => q.1 == nm)).elim 0 (·.2)
def idxS : Nat → Nat := fun j => match j with
  | 0 => 55 | 1 => 61 | 2 => 63 | 3 => 78 | _ => 84
def txS : Nat → String := fun j => match j with
  | 0 => "each" | 1 => "old" | 2 => "odge" | 3 => "pklsay" | _ => "<=>"
/-- what holds of a method once for all its calls -/
def mOK (c : Nat) : Bool := decide ((mName c).cls ≠ "java/lang/invoke/MethodHandle") && decide ((mName c).cls ≠ "java/lang/invoke/VarHandle") && plainFor (mName c) && decide (mMaxL c ≤ 40) &&
  (decide (mCi c < 8 ∧ (mName c).cls = vwC (mCi c)) || decide (mCi c = 9 ∧ (mName c).cls = "java/lang/String") || decide (mCi c = 10)) && linkOK (iniPl (mCi c) (mName c).cls) (.initialized (mName c).cls)
/-- what a call of each kind wants -/
def kdOK (c na kd a sl : Nat) : Bool := match kd with
  | 0 => linkOK a (.instanceMethod (mName c)) && linkOK sl (.selects (mName c).cls (mName c) (mName c)) && decide ((parseMethodDescriptor (mName c).desc).map (fun d => d.parameters.length + 1) = some na) && decide (mCi c < 10)
  | 1 => linkOK a (.instanceMethod (mName c)) && decide ((mName c).name = "<init>") && decide (mRet c = none) && decide ((parseMethodDescriptor (mName c).desc).map (fun d => d.parameters.length + 1) = some na)
  | 2 => linkOK a (.static (mName c)) && decide ((parseMethodDescriptor (mName c).desc).map (fun d => d.parameters.length) = some na)
  | _ => false
/-- a call of method c: its link -/
def calOK (own : String) (idx c na kd nest pl a sl : Nat) : Bool :=
  (if nest = 0 then linkOK pl (.methodLink own idx (mName c)) else nestOK pl (.methodLinkNest own idx (mName c) "PastCatchers")) && decide (0 < c) && decide (c < 223) && kdOK c na kd a sl
def lnkE (y : Nat) (i : Instr) (o : List Nat) : Bool := match i with
  | .getfield idx => (match o with
    | [9, f, _, pl] => linkOK pl (.fieldLink (mName y).cls idx "java/lang/String" (sFld f) (sFldD f))
    | [ci, k, nest, pl] => fldOK (mName y).cls idx ci k nest pl && decide (ci < 8)
    | _ => true)
  | .putfield idx => (match o with
    | [ci, k, nest, pl] => fldOK (mName y).cls idx ci k nest pl && decide (ci < 8) && ((vwT ci k).2.2.2 == false || (decide (nest = 0) && decide ((mName y).name = "<init>") && decide ((mName y).cls = vwC ci)))
    | _ => true)
  | .getstatic idx => (match o with
    | [s, nest, pl] => staOK (mName y).cls idx s nest pl
    | _ => true)
  | .ldc idx => (match o with
    | [0, v, pl] => linkOK pl (.constant (mName y).cls idx (Int32.ofNat v))
    | [1, j, _] => decide ((mName y).cls = RX4) && decide (idx = idxS j)
    | _ => true)
  | .ldc_w idx => (match o with
    | [0, v, pl] => linkOK pl (.constant (mName y).cls idx (Int32.ofNat v))
    | _ => true)
  | .ldc2_w idx => (match o with
    | [v, pl] => linkOK pl (.constantLong (mName y).cls idx (Int64.ofNat v))
    | _ => true)
  | .new idx => (match o with
    | [ci, pl] => linkOK pl (.classLink (mName y).cls idx (vwC ci))
    | _ => true)
  | .anewarray idx => (match o with
    | [pl] => linkOK pl (.classLink (mName y).cls idx RX5)
    | _ => false)
  | .multianewarray idx _ => (match o with
    | [pl] => linkOK pl (.classLink (mName y).cls idx "[[J")
    | _ => false)
  | .invokespecial idx => (match o with
    | [9999, _, _, _, pl] => linkOK pl (.methodLink (mName y).cls idx objectInit)
    | [c, na, kd, nest, pl, a, sl] => kd == 1 && calOK (mName y).cls idx c na kd nest pl a sl
    | _ => true)
  | .invokestatic idx => (match o with
    | [9998, _, _, _, pl] => linkOK pl (.methodLink (mName y).cls idx arraycopyName)
    | [c, na, kd, nest, pl, a, sl] => kd == 2 && calOK (mName y).cls idx c na kd nest pl a sl
    | _ => true)
  | .invokevirtual idx => (match o with
    | [c, na, kd, nest, pl, a, sl] => kd == 0 && calOK (mName y).cls idx c na kd nest pl a sl
    | _ => true)
  | _ => true
def okE (y : Nat) (q : En) : Bool := decide (decode (mBytes y) q.1 = .ok (q.2.1, q.2.2.1)) && (ilen q.2.1 == 0 || ilen q.2.1 == q.2.2.1) && lnkE y q.2.1 q.2.2.2
end
section
theorem okm_0_0 : ((c_0.drop 0).take 60).all (okE 0) = true := by decide +kernel
theorem okm_0_1 : ((c_0.drop 60).take 60).all (okE 0) = true := by decide +kernel
theorem okm_0_2 : ((c_0.drop 120).take 60).all (okE 0) = true := by decide +kernel
theorem okm_0_3 : ((c_0.drop 180).take 60).all (okE 0) = true := by decide +kernel
theorem okm_0_4 : ((c_0.drop 240).take 60).all (okE 0) = true := by decide +kernel
theorem okm_0_5 : ((c_0.drop 300).take 60).all (okE 0) = true := by decide +kernel
theorem okm_0_6 : ((c_0.drop 360).take 60).all (okE 0) = true := by decide +kernel
theorem okm_0_7 : ((c_0.drop 420).take 60).all (okE 0) = true := by decide +kernel
theorem okm_0_8 : ((c_0.drop 480).take 60).all (okE 0) = true := by decide +kernel
theorem okm_0_9 : ((c_0.drop 540).take 60).all (okE 0) = true := by decide +kernel
theorem okm_0_10 : ((c_0.drop 600).take 60).all (okE 0) = true := by decide +kernel
theorem okm_0_11 : ((c_0.drop 660).take 60).all (okE 0) = true := by decide +kernel
theorem okm_0_12 : ((c_0.drop 720).take 60).all (okE 0) = true := by decide +kernel
theorem okm_0_13 : ((c_0.drop 780).take 60).all (okE 0) = true := by decide +kernel
theorem okm_0_14 : ((c_0.drop 840).take 60).all (okE 0) = true := by decide +kernel
theorem okm_0 : c_0.all (okE 0) = true := by
  have h : c_0 = (c_0.drop 0).take 60 ++ (c_0.drop 60).take 60 ++ (c_0.drop 120).take 60 ++ (c_0.drop 180).take 60 ++ (c_0.drop 240).take 60 ++ (c_0.drop 300).take 60 ++ (c_0.drop 360).take 60 ++ (c_0.drop 420).take 60 ++ (c_0.drop 480).take 60 ++ (c_0.drop 540).take 60 ++ (c_0.drop 600).take 60 ++ (c_0.drop 660).take 60 ++ (c_0.drop 720).take 60 ++ (c_0.drop 780).take 60 ++ (c_0.drop 840).take 60 := by decide +kernel
  rw [h]
  simp only [List.all_append, okm_0_0, okm_0_1, okm_0_2, okm_0_3, okm_0_4, okm_0_5, okm_0_6, okm_0_7, okm_0_8, okm_0_9, okm_0_10, okm_0_11, okm_0_12, okm_0_13, okm_0_14, Bool.and_true, Bool.and_self]
theorem okm_1 : c_1.all (okE 1) = true := by decide +kernel
theorem okm_2_0 : ((c_2.drop 0).take 60).all (okE 2) = true := by decide +kernel
theorem okm_2_1 : ((c_2.drop 60).take 60).all (okE 2) = true := by decide +kernel
theorem okm_2_2 : ((c_2.drop 120).take 27).all (okE 2) = true := by decide +kernel
theorem okm_2 : c_2.all (okE 2) = true := by
  have h : c_2 = (c_2.drop 0).take 60 ++ (c_2.drop 60).take 60 ++ (c_2.drop 120).take 27 := by decide +kernel
  rw [h]
  simp only [List.all_append, okm_2_0, okm_2_1, okm_2_2, Bool.and_true, Bool.and_self]
theorem okm_3 : c_3.all (okE 3) = true := by decide +kernel
theorem okm_4 : c_4.all (okE 4) = true := by decide +kernel
theorem okm_5 : c_5.all (okE 5) = true := by decide +kernel
theorem okm_6 : c_6.all (okE 6) = true := by decide +kernel
theorem okm_7 : c_7.all (okE 7) = true := by decide +kernel
theorem okm_8 : c_8.all (okE 8) = true := by decide +kernel
theorem okm_9 : c_9.all (okE 9) = true := by decide +kernel
theorem okm_10 : c_10.all (okE 10) = true := by decide +kernel
theorem okm_11 : c_11.all (okE 11) = true := by decide +kernel
theorem okm_12 : c_12.all (okE 12) = true := by decide +kernel
theorem okm_13 : c_13.all (okE 13) = true := by decide +kernel
theorem okm_14 : c_14.all (okE 14) = true := by decide +kernel
theorem okm_15 : c_15.all (okE 15) = true := by decide +kernel
theorem okm_16 : c_16.all (okE 16) = true := by decide +kernel
theorem okm_17 : c_17.all (okE 17) = true := by decide +kernel
theorem okm_18 : c_18.all (okE 18) = true := by decide +kernel
theorem okm_19 : c_19.all (okE 19) = true := by decide +kernel
theorem okm_20 : c_20.all (okE 20) = true := by decide +kernel
theorem okm_21 : c_21.all (okE 21) = true := by decide +kernel
theorem okm_22 : c_22.all (okE 22) = true := by decide +kernel
theorem okm_23 : c_23.all (okE 23) = true := by decide +kernel
theorem okm_24 : c_24.all (okE 24) = true := by decide +kernel
theorem okm_25 : c_25.all (okE 25) = true := by decide +kernel
theorem okm_26 : c_26.all (okE 26) = true := by decide +kernel
theorem okm_27 : c_27.all (okE 27) = true := by decide +kernel
theorem okm_28 : c_28.all (okE 28) = true := by decide +kernel
theorem okm_29 : c_29.all (okE 29) = true := by decide +kernel
theorem okm_30 : c_30.all (okE 30) = true := by decide +kernel
theorem okm_31 : c_31.all (okE 31) = true := by decide +kernel
theorem okm_32 : c_32.all (okE 32) = true := by decide +kernel
theorem okm_33 : c_33.all (okE 33) = true := by decide +kernel
theorem okm_34 : c_34.all (okE 34) = true := by decide +kernel
theorem okm_35 : c_35.all (okE 35) = true := by decide +kernel
theorem okm_36 : c_36.all (okE 36) = true := by decide +kernel
theorem okm_37 : c_37.all (okE 37) = true := by decide +kernel
theorem okm_38 : c_38.all (okE 38) = true := by decide +kernel
theorem okm_39 : c_39.all (okE 39) = true := by decide +kernel
theorem okm_40 : c_40.all (okE 40) = true := by decide +kernel
theorem okm_41 : c_41.all (okE 41) = true := by decide +kernel
theorem okm_42 : c_42.all (okE 42) = true := by decide +kernel
theorem okm_43 : c_43.all (okE 43) = true := by decide +kernel
theorem okm_44 : c_44.all (okE 44) = true := by decide +kernel
theorem okm_45 : c_45.all (okE 45) = true := by decide +kernel
theorem okm_46 : c_46.all (okE 46) = true := by decide +kernel
theorem okm_47 : c_47.all (okE 47) = true := by decide +kernel
theorem okm_48 : c_48.all (okE 48) = true := by decide +kernel
theorem okm_49 : c_49.all (okE 49) = true := by decide +kernel
theorem okm_50 : c_50.all (okE 50) = true := by decide +kernel
theorem okm_51 : c_51.all (okE 51) = true := by decide +kernel
theorem okm_52 : c_52.all (okE 52) = true := by decide +kernel
theorem okm_53 : c_53.all (okE 53) = true := by decide +kernel
theorem okm_54 : c_54.all (okE 54) = true := by decide +kernel
theorem okm_55 : c_55.all (okE 55) = true := by decide +kernel
theorem okm_56 : c_56.all (okE 56) = true := by decide +kernel
theorem okm_57 : c_57.all (okE 57) = true := by decide +kernel
theorem okm_58 : c_58.all (okE 58) = true := by decide +kernel
theorem okm_59 : c_59.all (okE 59) = true := by decide +kernel
theorem okm_60 : c_60.all (okE 60) = true := by decide +kernel
theorem okm_61 : c_61.all (okE 61) = true := by decide +kernel
theorem okm_62 : c_62.all (okE 62) = true := by decide +kernel
theorem okm_63 : c_63.all (okE 63) = true := by decide +kernel
theorem okm_64 : c_64.all (okE 64) = true := by decide +kernel
theorem okm_65 : c_65.all (okE 65) = true := by decide +kernel
theorem okm_66 : c_66.all (okE 66) = true := by decide +kernel
theorem okm_67 : c_67.all (okE 67) = true := by decide +kernel
theorem okm_68 : c_68.all (okE 68) = true := by decide +kernel
theorem okm_69 : c_69.all (okE 69) = true := by decide +kernel
theorem okm_70 : c_70.all (okE 70) = true := by decide +kernel
theorem okm_71 : c_71.all (okE 71) = true := by decide +kernel
theorem okm_72 : c_72.all (okE 72) = true := by decide +kernel
theorem okm_73 : c_73.all (okE 73) = true := by decide +kernel
theorem okm_74 : c_74.all (okE 74) = true := by decide +kernel
theorem okm_75 : c_75.all (okE 75) = true := by decide +kernel
theorem okm_76 : c_76.all (okE 76) = true := by decide +kernel
theorem okm_77 : c_77.all (okE 77) = true := by decide +kernel
theorem okm_78 : c_78.all (okE 78) = true := by decide +kernel
theorem okm_79 : c_79.all (okE 79) = true := by decide +kernel
theorem okm_80 : c_80.all (okE 80) = true := by decide +kernel
theorem okm_81 : c_81.all (okE 81) = true := by decide +kernel
theorem okm_82 : c_82.all (okE 82) = true := by decide +kernel
theorem okm_83 : c_83.all (okE 83) = true := by decide +kernel
theorem okm_84 : c_84.all (okE 84) = true := by decide +kernel
theorem okm_85 : c_85.all (okE 85) = true := by decide +kernel
theorem okm_86 : c_86.all (okE 86) = true := by decide +kernel
theorem okm_87 : c_87.all (okE 87) = true := by decide +kernel
theorem okm_88 : c_88.all (okE 88) = true := by decide +kernel
theorem okm_89 : c_89.all (okE 89) = true := by decide +kernel
theorem okm_90 : c_90.all (okE 90) = true := by decide +kernel
theorem okm_91 : c_91.all (okE 91) = true := by decide +kernel
theorem okm_92 : c_92.all (okE 92) = true := by decide +kernel
theorem okm_93 : c_93.all (okE 93) = true := by decide +kernel
theorem okm_94 : c_94.all (okE 94) = true := by decide +kernel
theorem okm_95 : c_95.all (okE 95) = true := by decide +kernel
theorem okm_96 : c_96.all (okE 96) = true := by decide +kernel
theorem okm_97 : c_97.all (okE 97) = true := by decide +kernel
theorem okm_98 : c_98.all (okE 98) = true := by decide +kernel
theorem okm_99 : c_99.all (okE 99) = true := by decide +kernel
theorem okm_100 : c_100.all (okE 100) = true := by decide +kernel
theorem okm_101 : c_101.all (okE 101) = true := by decide +kernel
theorem okm_102 : c_102.all (okE 102) = true := by decide +kernel
theorem okm_103 : c_103.all (okE 103) = true := by decide +kernel
theorem okm_104 : c_104.all (okE 104) = true := by decide +kernel
theorem okm_105 : c_105.all (okE 105) = true := by decide +kernel
theorem okm_106 : c_106.all (okE 106) = true := by decide +kernel
theorem okm_107 : c_107.all (okE 107) = true := by decide +kernel
theorem okm_108_0 : ((c_108.drop 0).take 60).all (okE 108) = true := by decide +kernel
theorem okm_108_1 : ((c_108.drop 60).take 60).all (okE 108) = true := by decide +kernel
theorem okm_108_2 : ((c_108.drop 120).take 60).all (okE 108) = true := by decide +kernel
theorem okm_108_3 : ((c_108.drop 180).take 60).all (okE 108) = true := by decide +kernel
theorem okm_108_4 : ((c_108.drop 240).take 60).all (okE 108) = true := by decide +kernel
theorem okm_108_5 : ((c_108.drop 300).take 8).all (okE 108) = true := by decide +kernel
theorem okm_108 : c_108.all (okE 108) = true := by
  have h : c_108 = (c_108.drop 0).take 60 ++ (c_108.drop 60).take 60 ++ (c_108.drop 120).take 60 ++ (c_108.drop 180).take 60 ++ (c_108.drop 240).take 60 ++ (c_108.drop 300).take 8 := by decide +kernel
  rw [h]
  simp only [List.all_append, okm_108_0, okm_108_1, okm_108_2, okm_108_3, okm_108_4, okm_108_5, Bool.and_true, Bool.and_self]
theorem okm_109 : c_109.all (okE 109) = true := by decide +kernel
theorem okm_110 : c_110.all (okE 110) = true := by decide +kernel
theorem okm_111 : c_111.all (okE 111) = true := by decide +kernel
theorem okm_112 : c_112.all (okE 112) = true := by decide +kernel
theorem okm_113 : c_113.all (okE 113) = true := by decide +kernel
theorem okm_114 : c_114.all (okE 114) = true := by decide +kernel
theorem okm_115 : c_115.all (okE 115) = true := by decide +kernel
theorem okm_116 : c_116.all (okE 116) = true := by decide +kernel
theorem okm_117 : c_117.all (okE 117) = true := by decide +kernel
theorem okm_118 : c_118.all (okE 118) = true := by decide +kernel
theorem okm_119 : c_119.all (okE 119) = true := by decide +kernel
theorem okm_120 : c_120.all (okE 120) = true := by decide +kernel
theorem okm_121 : c_121.all (okE 121) = true := by decide +kernel
theorem okm_122 : c_122.all (okE 122) = true := by decide +kernel
theorem okm_123 : c_123.all (okE 123) = true := by decide +kernel
theorem okm_124 : c_124.all (okE 124) = true := by decide +kernel
theorem okm_125 : c_125.all (okE 125) = true := by decide +kernel
theorem okm_126 : c_126.all (okE 126) = true := by decide +kernel
theorem okm_127 : c_127.all (okE 127) = true := by decide +kernel
theorem okm_128 : c_128.all (okE 128) = true := by decide +kernel
theorem okm_129_0 : ((c_129.drop 0).take 60).all (okE 129) = true := by decide +kernel
theorem okm_129_1 : ((c_129.drop 60).take 60).all (okE 129) = true := by decide +kernel
theorem okm_129_2 : ((c_129.drop 120).take 14).all (okE 129) = true := by decide +kernel
theorem okm_129 : c_129.all (okE 129) = true := by
  have h : c_129 = (c_129.drop 0).take 60 ++ (c_129.drop 60).take 60 ++ (c_129.drop 120).take 14 := by decide +kernel
  rw [h]
  simp only [List.all_append, okm_129_0, okm_129_1, okm_129_2, Bool.and_true, Bool.and_self]
theorem okm_130 : c_130.all (okE 130) = true := by decide +kernel
theorem okm_131 : c_131.all (okE 131) = true := by decide +kernel
theorem okm_132 : c_132.all (okE 132) = true := by decide +kernel
theorem okm_133 : c_133.all (okE 133) = true := by decide +kernel
theorem okm_134 : c_134.all (okE 134) = true := by decide +kernel
theorem okm_135 : c_135.all (okE 135) = true := by decide +kernel
theorem okm_136 : c_136.all (okE 136) = true := by decide +kernel
theorem okm_137_0 : ((c_137.drop 0).take 60).all (okE 137) = true := by decide +kernel
theorem okm_137_1 : ((c_137.drop 60).take 60).all (okE 137) = true := by decide +kernel
theorem okm_137_2 : ((c_137.drop 120).take 19).all (okE 137) = true := by decide +kernel
theorem okm_137 : c_137.all (okE 137) = true := by
  have h : c_137 = (c_137.drop 0).take 60 ++ (c_137.drop 60).take 60 ++ (c_137.drop 120).take 19 := by decide +kernel
  rw [h]
  simp only [List.all_append, okm_137_0, okm_137_1, okm_137_2, Bool.and_true, Bool.and_self]
theorem okm_138 : c_138.all (okE 138) = true := by decide +kernel
theorem okm_139 : c_139.all (okE 139) = true := by decide +kernel
theorem okm_140 : c_140.all (okE 140) = true := by decide +kernel
theorem okm_141 : c_141.all (okE 141) = true := by decide +kernel
theorem okm_142 : c_142.all (okE 142) = true := by decide +kernel
theorem okm_143 : c_143.all (okE 143) = true := by decide +kernel
theorem okm_144 : c_144.all (okE 144) = true := by decide +kernel
theorem okm_145 : c_145.all (okE 145) = true := by decide +kernel
theorem okm_146 : c_146.all (okE 146) = true := by decide +kernel
theorem okm_147 : c_147.all (okE 147) = true := by decide +kernel
theorem okm_148 : c_148.all (okE 148) = true := by decide +kernel
theorem okm_149 : c_149.all (okE 149) = true := by decide +kernel
theorem okm_150 : c_150.all (okE 150) = true := by decide +kernel
theorem okm_151 : c_151.all (okE 151) = true := by decide +kernel
theorem okm_152 : c_152.all (okE 152) = true := by decide +kernel
theorem okm_153 : c_153.all (okE 153) = true := by decide +kernel
theorem okm_154 : c_154.all (okE 154) = true := by decide +kernel
theorem okm_155 : c_155.all (okE 155) = true := by decide +kernel
theorem okm_156 : c_156.all (okE 156) = true := by decide +kernel
theorem okm_157 : c_157.all (okE 157) = true := by decide +kernel
theorem okm_158 : c_158.all (okE 158) = true := by decide +kernel
theorem okm_159 : c_159.all (okE 159) = true := by decide +kernel
theorem okm_160 : c_160.all (okE 160) = true := by decide +kernel
theorem okm_161 : c_161.all (okE 161) = true := by decide +kernel
theorem okm_162 : c_162.all (okE 162) = true := by decide +kernel
theorem okm_163 : c_163.all (okE 163) = true := by decide +kernel
theorem okm_164 : c_164.all (okE 164) = true := by decide +kernel
theorem okm_165 : c_165.all (okE 165) = true := by decide +kernel
theorem okm_166 : c_166.all (okE 166) = true := by decide +kernel
theorem okm_167 : c_167.all (okE 167) = true := by decide +kernel
theorem okm_168 : c_168.all (okE 168) = true := by decide +kernel
theorem okm_169 : c_169.all (okE 169) = true := by decide +kernel
theorem okm_170 : c_170.all (okE 170) = true := by decide +kernel
theorem okm_171 : c_171.all (okE 171) = true := by decide +kernel
theorem okm_172 : c_172.all (okE 172) = true := by decide +kernel
theorem okm_173 : c_173.all (okE 173) = true := by decide +kernel
theorem okm_174 : c_174.all (okE 174) = true := by decide +kernel
theorem okm_175 : c_175.all (okE 175) = true := by decide +kernel
theorem okm_176 : c_176.all (okE 176) = true := by decide +kernel
theorem okm_177 : c_177.all (okE 177) = true := by decide +kernel
theorem okm_178 : c_178.all (okE 178) = true := by decide +kernel
theorem okm_179 : c_179.all (okE 179) = true := by decide +kernel
theorem okm_180 : c_180.all (okE 180) = true := by decide +kernel
theorem okm_181 : c_181.all (okE 181) = true := by decide +kernel
theorem okm_182 : c_182.all (okE 182) = true := by decide +kernel
theorem okm_183 : c_183.all (okE 183) = true := by decide +kernel
theorem okm_184 : c_184.all (okE 184) = true := by decide +kernel
theorem okm_185 : c_185.all (okE 185) = true := by decide +kernel
theorem okm_186 : c_186.all (okE 186) = true := by decide +kernel
theorem okm_187 : c_187.all (okE 187) = true := by decide +kernel
theorem okm_188 : c_188.all (okE 188) = true := by decide +kernel
theorem okm_189 : c_189.all (okE 189) = true := by decide +kernel
theorem okm_190 : c_190.all (okE 190) = true := by decide +kernel
theorem okm_191 : c_191.all (okE 191) = true := by decide +kernel
theorem okm_192 : c_192.all (okE 192) = true := by decide +kernel
theorem okm_193 : c_193.all (okE 193) = true := by decide +kernel
theorem okm_194 : c_194.all (okE 194) = true := by decide +kernel
theorem okm_195 : c_195.all (okE 195) = true := by decide +kernel
theorem okm_196 : c_196.all (okE 196) = true := by decide +kernel
theorem okm_197 : c_197.all (okE 197) = true := by decide +kernel
theorem okm_198 : c_198.all (okE 198) = true := by decide +kernel
theorem okm_199 : c_199.all (okE 199) = true := by decide +kernel
theorem okm_200 : c_200.all (okE 200) = true := by decide +kernel
theorem okm_201 : c_201.all (okE 201) = true := by decide +kernel
theorem okm_202 : c_202.all (okE 202) = true := by decide +kernel
theorem okm_203 : c_203.all (okE 203) = true := by decide +kernel
theorem okm_204 : c_204.all (okE 204) = true := by decide +kernel
theorem okm_205 : c_205.all (okE 205) = true := by decide +kernel
theorem okm_206 : c_206.all (okE 206) = true := by decide +kernel
theorem okm_207 : c_207.all (okE 207) = true := by decide +kernel
theorem okm_208 : c_208.all (okE 208) = true := by decide +kernel
theorem okm_209 : c_209.all (okE 209) = true := by decide +kernel
theorem okm_210 : c_210.all (okE 210) = true := by decide +kernel
theorem okm_211 : c_211.all (okE 211) = true := by decide +kernel
theorem okm_212 : c_212.all (okE 212) = true := by decide +kernel
theorem okm_213 : c_213.all (okE 213) = true := by decide +kernel
theorem okm_214 : c_214.all (okE 214) = true := by decide +kernel
theorem okm_215 : c_215.all (okE 215) = true := by decide +kernel
theorem okm_216 : c_216.all (okE 216) = true := by decide +kernel
theorem okm_217 : c_217.all (okE 217) = true := by decide +kernel
theorem okm_218 : c_218.all (okE 218) = true := by decide +kernel
theorem okm_219 : c_219.all (okE 219) = true := by decide +kernel
theorem okm_220 : c_220.all (okE 220) = true := by decide +kernel
theorem okm_221 : c_221.all (okE 221) = true := by decide +kernel
theorem okm_222 : c_222.all (okE 222) = true := by decide +kernel
set_option maxRecDepth 10000 in
theorem cw_1 : wAt 1215 = some (.code (mName 1) (mBytes 1) (mMaxL 1) (mRet 1)) := rfl
set_option maxRecDepth 10000 in
theorem cw_2 : wAt 4060 = some (.code (mName 2) (mBytes 2) (mMaxL 2) (mRet 2)) := rfl
set_option maxRecDepth 10000 in
theorem cw_3 : wAt 4063 = some (.code (mName 3) (mBytes 3) (mMaxL 3) (mRet 3)) := rfl
set_option maxRecDepth 10000 in
theorem cw_4 : wAt 4071 = some (.code (mName 4) (mBytes 4) (mMaxL 4) (mRet 4)) := rfl
set_option maxRecDepth 10000 in
theorem cw_5 : wAt 1098 = some (.code (mName 5) (mBytes 5) (mMaxL 5) (mRet 5)) := rfl
set_option maxRecDepth 10000 in
theorem cw_6 : wAt 2093 = some (.code (mName 6) (mBytes 6) (mMaxL 6) (mRet 6)) := rfl
set_option maxRecDepth 10000 in
theorem cw_7 : wAt 3205 = some (.code (mName 7) (mBytes 7) (mMaxL 7) (mRet 7)) := rfl
set_option maxRecDepth 10000 in
theorem cw_8 : wAt 3237 = some (.code (mName 8) (mBytes 8) (mMaxL 8) (mRet 8)) := rfl
set_option maxRecDepth 10000 in
theorem cw_9 : wAt 3175 = some (.code (mName 9) (mBytes 9) (mMaxL 9) (mRet 9)) := rfl
set_option maxRecDepth 10000 in
theorem cw_10 : wAt 2104 = some (.code (mName 10) (mBytes 10) (mMaxL 10) (mRet 10)) := rfl
set_option maxRecDepth 10000 in
theorem cw_11 : wAt 2116 = some (.code (mName 11) (mBytes 11) (mMaxL 11) (mRet 11)) := rfl
set_option maxRecDepth 10000 in
theorem cw_12 : wAt 2148 = some (.code (mName 12) (mBytes 12) (mMaxL 12) (mRet 12)) := rfl
set_option maxRecDepth 10000 in
theorem cw_13 : wAt 2155 = some (.code (mName 13) (mBytes 13) (mMaxL 13) (mRet 13)) := rfl
set_option maxRecDepth 10000 in
theorem cw_14 : wAt 2178 = some (.code (mName 14) (mBytes 14) (mMaxL 14) (mRet 14)) := rfl
set_option maxRecDepth 10000 in
theorem cw_15 : wAt 2159 = some (.code (mName 15) (mBytes 15) (mMaxL 15) (mRet 15)) := rfl
set_option maxRecDepth 10000 in
theorem cw_16 : wAt 2163 = some (.code (mName 16) (mBytes 16) (mMaxL 16) (mRet 16)) := rfl
set_option maxRecDepth 10000 in
theorem cw_17 : wAt 2167 = some (.code (mName 17) (mBytes 17) (mMaxL 17) (mRet 17)) := rfl
set_option maxRecDepth 10000 in
theorem cw_18 : wAt 2201 = some (.code (mName 18) (mBytes 18) (mMaxL 18) (mRet 18)) := rfl
set_option maxRecDepth 10000 in
theorem cw_19 : wAt 2206 = some (.code (mName 19) (mBytes 19) (mMaxL 19) (mRet 19)) := rfl
set_option maxRecDepth 10000 in
theorem cw_20 : wAt 2182 = some (.code (mName 20) (mBytes 20) (mMaxL 20) (mRet 20)) := rfl
set_option maxRecDepth 10000 in
theorem cw_21 : wAt 2186 = some (.code (mName 21) (mBytes 21) (mMaxL 21) (mRet 21)) := rfl
set_option maxRecDepth 10000 in
theorem cw_22 : wAt 2197 = some (.code (mName 22) (mBytes 22) (mMaxL 22) (mRet 22)) := rfl
set_option maxRecDepth 10000 in
theorem cw_23 : wAt 2193 = some (.code (mName 23) (mBytes 23) (mMaxL 23) (mRet 23)) := rfl
set_option maxRecDepth 10000 in
theorem cw_24 : wAt 2122 = some (.code (mName 24) (mBytes 24) (mMaxL 24) (mRet 24)) := rfl
set_option maxRecDepth 10000 in
theorem cw_25 : wAt 1030 = some (.code (mName 25) (mBytes 25) (mMaxL 25) (mRet 25)) := rfl
set_option maxRecDepth 10000 in
theorem cw_26 : wAt 2074 = some (.code (mName 26) (mBytes 26) (mMaxL 26) (mRet 26)) := rfl
set_option maxRecDepth 10000 in
theorem cw_27 : wAt 2078 = some (.code (mName 27) (mBytes 27) (mMaxL 27) (mRet 27)) := rfl
set_option maxRecDepth 10000 in
theorem cw_28 : wAt 2112 = some (.code (mName 28) (mBytes 28) (mMaxL 28) (mRet 28)) := rfl
set_option maxRecDepth 10000 in
theorem cw_29 : wAt 2108 = some (.code (mName 29) (mBytes 29) (mMaxL 29) (mRet 29)) := rfl
set_option maxRecDepth 10000 in
theorem cw_30 : wAt 4005 = some (.code (mName 30) (mBytes 30) (mMaxL 30) (mRet 30)) := rfl
set_option maxRecDepth 10000 in
theorem cw_31 : wAt 2066 = some (.code (mName 31) (mBytes 31) (mMaxL 31) (mRet 31)) := rfl
set_option maxRecDepth 10000 in
theorem cw_32 : wAt 3228 = some (.code (mName 32) (mBytes 32) (mMaxL 32) (mRet 32)) := rfl
set_option maxRecDepth 10000 in
theorem cw_33 : wAt 2097 = some (.code (mName 33) (mBytes 33) (mMaxL 33) (mRet 33)) := rfl
set_option maxRecDepth 10000 in
theorem cw_34 : wAt 2002 = some (.code (mName 34) (mBytes 34) (mMaxL 34) (mRet 34)) := rfl
set_option maxRecDepth 10000 in
theorem cw_35 : wAt 4037 = some (.code (mName 35) (mBytes 35) (mMaxL 35) (mRet 35)) := rfl
set_option maxRecDepth 10000 in
theorem cw_36 : wAt 4041 = some (.code (mName 36) (mBytes 36) (mMaxL 36) (mRet 36)) := rfl
set_option maxRecDepth 10000 in
theorem cw_37 : wAt 4115 = some (.code (mName 37) (mBytes 37) (mMaxL 37) (mRet 37)) := rfl
set_option maxRecDepth 10000 in
theorem cw_38 : wAt 4093 = some (.code (mName 38) (mBytes 38) (mMaxL 38) (mRet 38)) := rfl
set_option maxRecDepth 10000 in
theorem cw_39 : wAt 4103 = some (.code (mName 39) (mBytes 39) (mMaxL 39) (mRet 39)) := rfl
set_option maxRecDepth 10000 in
theorem cw_40 : wAt 1193 = some (.code (mName 40) (mBytes 40) (mMaxL 40) (mRet 40)) := rfl
set_option maxRecDepth 10000 in
theorem cw_41 : wAt 2226 = some (.code (mName 41) (mBytes 41) (mMaxL 41) (mRet 41)) := rfl
set_option maxRecDepth 10000 in
theorem cw_42 : wAt 2234 = some (.code (mName 42) (mBytes 42) (mMaxL 42) (mRet 42)) := rfl
set_option maxRecDepth 10000 in
theorem cw_43 : wAt 3002 = some (.code (mName 43) (mBytes 43) (mMaxL 43) (mRet 43)) := rfl
set_option maxRecDepth 10000 in
theorem cw_44 : wAt 3006 = some (.code (mName 44) (mBytes 44) (mMaxL 44) (mRet 44)) := rfl
set_option maxRecDepth 10000 in
theorem cw_45 : wAt 3073 = some (.code (mName 45) (mBytes 45) (mMaxL 45) (mRet 45)) := rfl
set_option maxRecDepth 10000 in
theorem cw_46 : wAt 3077 = some (.code (mName 46) (mBytes 46) (mMaxL 46) (mRet 46)) := rfl
set_option maxRecDepth 10000 in
theorem cw_47 : wAt 3081 = some (.code (mName 47) (mBytes 47) (mMaxL 47) (mRet 47)) := rfl
set_option maxRecDepth 10000 in
theorem cw_48 : wAt 3085 = some (.code (mName 48) (mBytes 48) (mMaxL 48) (mRet 48)) := rfl
set_option maxRecDepth 10000 in
theorem cw_49 : wAt 3014 = some (.code (mName 49) (mBytes 49) (mMaxL 49) (mRet 49)) := rfl
set_option maxRecDepth 10000 in
theorem cw_50 : wAt 3010 = some (.code (mName 50) (mBytes 50) (mMaxL 50) (mRet 50)) := rfl
set_option maxRecDepth 10000 in
theorem cw_51 : wAt 3019 = some (.code (mName 51) (mBytes 51) (mMaxL 51) (mRet 51)) := rfl
set_option maxRecDepth 10000 in
theorem cw_52 : wAt 3094 = some (.code (mName 52) (mBytes 52) (mMaxL 52) (mRet 52)) := rfl
set_option maxRecDepth 10000 in
theorem cw_53 : wAt 1106 = some (.code (mName 53) (mBytes 53) (mMaxL 53) (mRet 53)) := rfl
set_option maxRecDepth 10000 in
theorem cw_54 : wAt 2238 = some (.code (mName 54) (mBytes 54) (mMaxL 54) (mRet 54)) := rfl
set_option maxRecDepth 10000 in
theorem cw_55 : wAt 3089 = some (.code (mName 55) (mBytes 55) (mMaxL 55) (mRet 55)) := rfl
set_option maxRecDepth 10000 in
theorem cw_56 : wAt 3157 = some (.code (mName 56) (mBytes 56) (mMaxL 56) (mRet 56)) := rfl
set_option maxRecDepth 10000 in
theorem cw_57 : wAt 2129 = some (.code (mName 57) (mBytes 57) (mMaxL 57) (mRet 57)) := rfl
set_option maxRecDepth 10000 in
theorem cw_58 : wAt 2133 = some (.code (mName 58) (mBytes 58) (mMaxL 58) (mRet 58)) := rfl
set_option maxRecDepth 10000 in
theorem cw_59 : wAt 2137 = some (.code (mName 59) (mBytes 59) (mMaxL 59) (mRet 59)) := rfl
set_option maxRecDepth 10000 in
theorem cw_60 : wAt 3153 = some (.code (mName 60) (mBytes 60) (mMaxL 60) (mRet 60)) := rfl
set_option maxRecDepth 10000 in
theorem cw_61 : wAt 2144 = some (.code (mName 61) (mBytes 61) (mMaxL 61) (mRet 61)) := rfl
set_option maxRecDepth 10000 in
theorem cw_62 : wAt 1022 = some (.code (mName 62) (mBytes 62) (mMaxL 62) (mRet 62)) := rfl
set_option maxRecDepth 10000 in
theorem cw_63 : wAt 2056 = some (.code (mName 63) (mBytes 63) (mMaxL 63) (mRet 63)) := rfl
set_option maxRecDepth 10000 in
theorem cw_64 : wAt 2070 = some (.code (mName 64) (mBytes 64) (mMaxL 64) (mRet 64)) := rfl
set_option maxRecDepth 10000 in
theorem cw_65 : wAt 2210 = some (.code (mName 65) (mBytes 65) (mMaxL 65) (mRet 65)) := rfl
set_option maxRecDepth 10000 in
theorem cw_66 : wAt 2214 = some (.code (mName 66) (mBytes 66) (mMaxL 66) (mRet 66)) := rfl
set_option maxRecDepth 10000 in
theorem cw_67 : wAt 2218 = some (.code (mName 67) (mBytes 67) (mMaxL 67) (mRet 67)) := rfl
set_option maxRecDepth 10000 in
theorem cw_68 : wAt 2222 = some (.code (mName 68) (mBytes 68) (mMaxL 68) (mRet 68)) := rfl
set_option maxRecDepth 10000 in
theorem cw_69 : wAt 2230 = some (.code (mName 69) (mBytes 69) (mMaxL 69) (mRet 69)) := rfl
set_option maxRecDepth 10000 in
theorem cw_70 : wAt 3162 = some (.code (mName 70) (mBytes 70) (mMaxL 70) (mRet 70)) := rfl
set_option maxRecDepth 10000 in
theorem cw_71 : wAt 3167 = some (.code (mName 71) (mBytes 71) (mMaxL 71) (mRet 71)) := rfl
set_option maxRecDepth 10000 in
theorem cw_72 : wAt 3171 = some (.code (mName 72) (mBytes 72) (mMaxL 72) (mRet 72)) := rfl
set_option maxRecDepth 10000 in
theorem cw_73 : wAt 3181 = some (.code (mName 73) (mBytes 73) (mMaxL 73) (mRet 73)) := rfl
set_option maxRecDepth 10000 in
theorem cw_74 : wAt 3189 = some (.code (mName 74) (mBytes 74) (mMaxL 74) (mRet 74)) := rfl
set_option maxRecDepth 10000 in
theorem cw_75 : wAt 3193 = some (.code (mName 75) (mBytes 75) (mMaxL 75) (mRet 75)) := rfl
set_option maxRecDepth 10000 in
theorem cw_76 : wAt 3201 = some (.code (mName 76) (mBytes 76) (mMaxL 76) (mRet 76)) := rfl
set_option maxRecDepth 10000 in
theorem cw_77 : wAt 3209 = some (.code (mName 77) (mBytes 77) (mMaxL 77) (mRet 77)) := rfl
set_option maxRecDepth 10000 in
theorem cw_78 : wAt 3213 = some (.code (mName 78) (mBytes 78) (mMaxL 78) (mRet 78)) := rfl
set_option maxRecDepth 10000 in
theorem cw_79 : wAt 3217 = some (.code (mName 79) (mBytes 79) (mMaxL 79) (mRet 79)) := rfl
set_option maxRecDepth 10000 in
theorem cw_80 : wAt 3221 = some (.code (mName 80) (mBytes 80) (mMaxL 80) (mRet 80)) := rfl
set_option maxRecDepth 10000 in
theorem cw_81 : wAt 3233 = some (.code (mName 81) (mBytes 81) (mMaxL 81) (mRet 81)) := rfl
set_option maxRecDepth 10000 in
theorem cw_82 : wAt 4001 = some (.code (mName 82) (mBytes 82) (mMaxL 82) (mRet 82)) := rfl
set_option maxRecDepth 10000 in
theorem cw_83 : wAt 4009 = some (.code (mName 83) (mBytes 83) (mMaxL 83) (mRet 83)) := rfl
set_option maxRecDepth 10000 in
theorem cw_84 : wAt 4013 = some (.code (mName 84) (mBytes 84) (mMaxL 84) (mRet 84)) := rfl
set_option maxRecDepth 10000 in
theorem cw_85 : wAt 4021 = some (.code (mName 85) (mBytes 85) (mMaxL 85) (mRet 85)) := rfl
set_option maxRecDepth 10000 in
theorem cw_86 : wAt 4025 = some (.code (mName 86) (mBytes 86) (mMaxL 86) (mRet 86)) := rfl
set_option maxRecDepth 10000 in
theorem cw_87 : wAt 4029 = some (.code (mName 87) (mBytes 87) (mMaxL 87) (mRet 87)) := rfl
set_option maxRecDepth 10000 in
theorem cw_88 : wAt 4033 = some (.code (mName 88) (mBytes 88) (mMaxL 88) (mRet 88)) := rfl
set_option maxRecDepth 10000 in
theorem cw_89 : wAt 4047 = some (.code (mName 89) (mBytes 89) (mMaxL 89) (mRet 89)) := rfl
set_option maxRecDepth 10000 in
theorem cw_90 : wAt 4052 = some (.code (mName 90) (mBytes 90) (mMaxL 90) (mRet 90)) := rfl
set_option maxRecDepth 10000 in
theorem cw_91 : wAt 4056 = some (.code (mName 91) (mBytes 91) (mMaxL 91) (mRet 91)) := rfl
set_option maxRecDepth 10000 in
theorem cw_92 : wAt 4076 = some (.code (mName 92) (mBytes 92) (mMaxL 92) (mRet 92)) := rfl
set_option maxRecDepth 10000 in
theorem cw_93 : wAt 4080 = some (.code (mName 93) (mBytes 93) (mMaxL 93) (mRet 93)) := rfl
set_option maxRecDepth 10000 in
theorem cw_94 : wAt 4085 = some (.code (mName 94) (mBytes 94) (mMaxL 94) (mRet 94)) := rfl
set_option maxRecDepth 10000 in
theorem cw_95 : wAt 4089 = some (.code (mName 95) (mBytes 95) (mMaxL 95) (mRet 95)) := rfl
set_option maxRecDepth 10000 in
theorem cw_96 : wAt 4100 = some (.code (mName 96) (mBytes 96) (mMaxL 96) (mRet 96)) := rfl
set_option maxRecDepth 10000 in
theorem cw_97 : wAt 4107 = some (.code (mName 97) (mBytes 97) (mMaxL 97) (mRet 97)) := rfl
set_option maxRecDepth 10000 in
theorem cw_98 : wAt 4111 = some (.code (mName 98) (mBytes 98) (mMaxL 98) (mRet 98)) := rfl
set_option maxRecDepth 10000 in
theorem cw_99 : wAt 2085 = some (.code (mName 99) (mBytes 99) (mMaxL 99) (mRet 99)) := rfl
set_option maxRecDepth 10000 in
theorem cw_100 : wAt 2089 = some (.code (mName 100) (mBytes 100) (mMaxL 100) (mRet 100)) := rfl
set_option maxRecDepth 10000 in
theorem cw_101 : wAt 3197 = some (.code (mName 101) (mBytes 101) (mMaxL 101) (mRet 101)) := rfl
set_option maxRecDepth 10000 in
theorem cw_102 : wAt 2059 = some (.code (mName 102) (mBytes 102) (mMaxL 102) (mRet 102)) := rfl
set_option maxRecDepth 10000 in
theorem cw_103 : wAt 2062 = some (.code (mName 103) (mBytes 103) (mMaxL 103) (mRet 103)) := rfl
set_option maxRecDepth 10000 in
theorem cw_104 : wAt 2081 = some (.code (mName 104) (mBytes 104) (mMaxL 104) (mRet 104)) := rfl
set_option maxRecDepth 10000 in
theorem cw_105 : wAt 3184 = some (.code (mName 105) (mBytes 105) (mMaxL 105) (mRet 105)) := rfl
set_option maxRecDepth 10000 in
theorem cw_106 : wAt 3224 = some (.code (mName 106) (mBytes 106) (mMaxL 106) (mRet 106)) := rfl
set_option maxRecDepth 10000 in
theorem cw_107 : wAt 4017 = some (.code (mName 107) (mBytes 107) (mMaxL 107) (mRet 107)) := rfl
set_option maxRecDepth 10000 in
theorem cw_108 : wAt 4121 = some (.code (mName 108) (mBytes 108) (mMaxL 108) (mRet 108)) := rfl
set_option maxRecDepth 10000 in
theorem cw_109 : wAt 5084 = some (.code (mName 109) (mBytes 109) (mMaxL 109) (mRet 109)) := rfl
set_option maxRecDepth 10000 in
theorem cw_110 : wAt 5176 = some (.code (mName 110) (mBytes 110) (mMaxL 110) (mRet 110)) := rfl
set_option maxRecDepth 10000 in
theorem cw_111 : wAt 6048 = some (.code (mName 111) (mBytes 111) (mMaxL 111) (mRet 111)) := rfl
set_option maxRecDepth 10000 in
theorem cw_112 : wAt 5092 = some (.code (mName 112) (mBytes 112) (mMaxL 112) (mRet 112)) := rfl
set_option maxRecDepth 10000 in
theorem cw_113 : wAt 6000 = some (.code (mName 113) (mBytes 113) (mMaxL 113) (mRet 113)) := rfl
set_option maxRecDepth 10000 in
theorem cw_114 : wAt 5080 = some (.code (mName 114) (mBytes 114) (mMaxL 114) (mRet 114)) := rfl
set_option maxRecDepth 10000 in
theorem cw_115 : wAt 5088 = some (.code (mName 115) (mBytes 115) (mMaxL 115) (mRet 115)) := rfl
set_option maxRecDepth 10000 in
theorem cw_116 : wAt 5096 = some (.code (mName 116) (mBytes 116) (mMaxL 116) (mRet 116)) := rfl
set_option maxRecDepth 10000 in
theorem cw_117 : wAt 5100 = some (.code (mName 117) (mBytes 117) (mMaxL 117) (mRet 117)) := rfl
set_option maxRecDepth 10000 in
theorem cw_118 : wAt 5104 = some (.code (mName 118) (mBytes 118) (mMaxL 118) (mRet 118)) := rfl
set_option maxRecDepth 10000 in
theorem cw_119 : wAt 5124 = some (.code (mName 119) (mBytes 119) (mMaxL 119) (mRet 119)) := rfl
set_option maxRecDepth 10000 in
theorem cw_120 : wAt 5132 = some (.code (mName 120) (mBytes 120) (mMaxL 120) (mRet 120)) := rfl
set_option maxRecDepth 10000 in
theorem cw_121 : wAt 5128 = some (.code (mName 121) (mBytes 121) (mMaxL 121) (mRet 121)) := rfl
set_option maxRecDepth 10000 in
theorem cw_122 : wAt 5140 = some (.code (mName 122) (mBytes 122) (mMaxL 122) (mRet 122)) := rfl
set_option maxRecDepth 10000 in
theorem cw_123 : wAt 5136 = some (.code (mName 123) (mBytes 123) (mMaxL 123) (mRet 123)) := rfl
set_option maxRecDepth 10000 in
theorem cw_124 : wAt 5156 = some (.code (mName 124) (mBytes 124) (mMaxL 124) (mRet 124)) := rfl
set_option maxRecDepth 10000 in
theorem cw_125 : wAt 5160 = some (.code (mName 125) (mBytes 125) (mMaxL 125) (mRet 125)) := rfl
set_option maxRecDepth 10000 in
theorem cw_126 : wAt 5164 = some (.code (mName 126) (mBytes 126) (mMaxL 126) (mRet 126)) := rfl
set_option maxRecDepth 10000 in
theorem cw_127 : wAt 5152 = some (.code (mName 127) (mBytes 127) (mMaxL 127) (mRet 127)) := rfl
set_option maxRecDepth 10000 in
theorem cw_128 : wAt 5148 = some (.code (mName 128) (mBytes 128) (mMaxL 128) (mRet 128)) := rfl
set_option maxRecDepth 10000 in
theorem cw_129 : wAt 5144 = some (.code (mName 129) (mBytes 129) (mMaxL 129) (mRet 129)) := rfl
set_option maxRecDepth 10000 in
theorem cw_130 : wAt 5120 = some (.code (mName 130) (mBytes 130) (mMaxL 130) (mRet 130)) := rfl
set_option maxRecDepth 10000 in
theorem cw_131 : wAt 5116 = some (.code (mName 131) (mBytes 131) (mMaxL 131) (mRet 131)) := rfl
set_option maxRecDepth 10000 in
theorem cw_132 : wAt 5112 = some (.code (mName 132) (mBytes 132) (mMaxL 132) (mRet 132)) := rfl
set_option maxRecDepth 10000 in
theorem cw_133 : wAt 5108 = some (.code (mName 133) (mBytes 133) (mMaxL 133) (mRet 133)) := rfl
set_option maxRecDepth 10000 in
theorem cw_134 : wAt 5212 = some (.code (mName 134) (mBytes 134) (mMaxL 134) (mRet 134)) := rfl
set_option maxRecDepth 10000 in
theorem cw_135 : wAt 5216 = some (.code (mName 135) (mBytes 135) (mMaxL 135) (mRet 135)) := rfl
set_option maxRecDepth 10000 in
theorem cw_136 : wAt 5224 = some (.code (mName 136) (mBytes 136) (mMaxL 136) (mRet 136)) := rfl
set_option maxRecDepth 10000 in
theorem cw_137 : wAt 5220 = some (.code (mName 137) (mBytes 137) (mMaxL 137) (mRet 137)) := rfl
set_option maxRecDepth 10000 in
theorem cw_138 : wAt 5208 = some (.code (mName 138) (mBytes 138) (mMaxL 138) (mRet 138)) := rfl
set_option maxRecDepth 10000 in
theorem cw_139 : wAt 5172 = some (.code (mName 139) (mBytes 139) (mMaxL 139) (mRet 139)) := rfl
set_option maxRecDepth 10000 in
theorem cw_140 : wAt 5204 = some (.code (mName 140) (mBytes 140) (mMaxL 140) (mRet 140)) := rfl
set_option maxRecDepth 10000 in
theorem cw_141 : wAt 5228 = some (.code (mName 141) (mBytes 141) (mMaxL 141) (mRet 141)) := rfl
set_option maxRecDepth 10000 in
theorem cw_142 : wAt 5200 = some (.code (mName 142) (mBytes 142) (mMaxL 142) (mRet 142)) := rfl
set_option maxRecDepth 10000 in
theorem cw_143 : wAt 5196 = some (.code (mName 143) (mBytes 143) (mMaxL 143) (mRet 143)) := rfl
set_option maxRecDepth 10000 in
theorem cw_144 : wAt 5192 = some (.code (mName 144) (mBytes 144) (mMaxL 144) (mRet 144)) := rfl
set_option maxRecDepth 10000 in
theorem cw_145 : wAt 5184 = some (.code (mName 145) (mBytes 145) (mMaxL 145) (mRet 145)) := rfl
set_option maxRecDepth 10000 in
theorem cw_146 : wAt 5188 = some (.code (mName 146) (mBytes 146) (mMaxL 146) (mRet 146)) := rfl
set_option maxRecDepth 10000 in
theorem cw_147 : wAt 5180 = some (.code (mName 147) (mBytes 147) (mMaxL 147) (mRet 147)) := rfl
set_option maxRecDepth 10000 in
theorem cw_148 : wAt 5232 = some (.code (mName 148) (mBytes 148) (mMaxL 148) (mRet 148)) := rfl
set_option maxRecDepth 10000 in
theorem cw_149 : wAt 5168 = some (.code (mName 149) (mBytes 149) (mMaxL 149) (mRet 149)) := rfl
set_option maxRecDepth 10000 in
theorem cw_150 : wAt 5236 = some (.code (mName 150) (mBytes 150) (mMaxL 150) (mRet 150)) := rfl
set_option maxRecDepth 10000 in
theorem cw_151 : wAt 6024 = some (.code (mName 151) (mBytes 151) (mMaxL 151) (mRet 151)) := rfl
set_option maxRecDepth 10000 in
theorem cw_152 : wAt 6020 = some (.code (mName 152) (mBytes 152) (mMaxL 152) (mRet 152)) := rfl
set_option maxRecDepth 10000 in
theorem cw_153 : wAt 6028 = some (.code (mName 153) (mBytes 153) (mMaxL 153) (mRet 153)) := rfl
set_option maxRecDepth 10000 in
theorem cw_154 : wAt 6016 = some (.code (mName 154) (mBytes 154) (mMaxL 154) (mRet 154)) := rfl
set_option maxRecDepth 10000 in
theorem cw_155 : wAt 6036 = some (.code (mName 155) (mBytes 155) (mMaxL 155) (mRet 155)) := rfl
set_option maxRecDepth 10000 in
theorem cw_156 : wAt 6032 = some (.code (mName 156) (mBytes 156) (mMaxL 156) (mRet 156)) := rfl
set_option maxRecDepth 10000 in
theorem cw_157 : wAt 6012 = some (.code (mName 157) (mBytes 157) (mMaxL 157) (mRet 157)) := rfl
set_option maxRecDepth 10000 in
theorem cw_158 : wAt 6008 = some (.code (mName 158) (mBytes 158) (mMaxL 158) (mRet 158)) := rfl
set_option maxRecDepth 10000 in
theorem cw_159 : wAt 6004 = some (.code (mName 159) (mBytes 159) (mMaxL 159) (mRet 159)) := rfl
set_option maxRecDepth 10000 in
theorem cw_160 : wAt 6044 = some (.code (mName 160) (mBytes 160) (mMaxL 160) (mRet 160)) := rfl
set_option maxRecDepth 10000 in
theorem cw_161 : wAt 6052 = some (.code (mName 161) (mBytes 161) (mMaxL 161) (mRet 161)) := rfl
set_option maxRecDepth 10000 in
theorem cw_162 : wAt 6040 = some (.code (mName 162) (mBytes 162) (mMaxL 162) (mRet 162)) := rfl
set_option maxRecDepth 10000 in
theorem cw_163 : wAt 6060 = some (.code (mName 163) (mBytes 163) (mMaxL 163) (mRet 163)) := rfl
set_option maxRecDepth 10000 in
theorem cw_164 : wAt 6056 = some (.code (mName 164) (mBytes 164) (mMaxL 164) (mRet 164)) := rfl
set_option maxRecDepth 10000 in
theorem cw_165 : wAt 6064 = some (.code (mName 165) (mBytes 165) (mMaxL 165) (mRet 165)) := rfl
set_option maxRecDepth 10000 in
theorem cw_166 : wAt 6068 = some (.code (mName 166) (mBytes 166) (mMaxL 166) (mRet 166)) := rfl
set_option maxRecDepth 10000 in
theorem cw_167 : wAt 6072 = some (.code (mName 167) (mBytes 167) (mMaxL 167) (mRet 167)) := rfl
set_option maxRecDepth 10000 in
theorem cw_168 : wAt 6076 = some (.code (mName 168) (mBytes 168) (mMaxL 168) (mRet 168)) := rfl
set_option maxRecDepth 10000 in
theorem cw_169 : wAt 6080 = some (.code (mName 169) (mBytes 169) (mMaxL 169) (mRet 169)) := rfl
set_option maxRecDepth 10000 in
theorem cw_170 : wAt 6084 = some (.code (mName 170) (mBytes 170) (mMaxL 170) (mRet 170)) := rfl
set_option maxRecDepth 10000 in
theorem cw_171 : wAt 6092 = some (.code (mName 171) (mBytes 171) (mMaxL 171) (mRet 171)) := rfl
set_option maxRecDepth 10000 in
theorem cw_172 : wAt 6096 = some (.code (mName 172) (mBytes 172) (mMaxL 172) (mRet 172)) := rfl
set_option maxRecDepth 10000 in
theorem cw_173 : wAt 6088 = some (.code (mName 173) (mBytes 173) (mMaxL 173) (mRet 173)) := rfl
set_option maxRecDepth 10000 in
theorem cw_174 : wAt 6100 = some (.code (mName 174) (mBytes 174) (mMaxL 174) (mRet 174)) := rfl
set_option maxRecDepth 10000 in
theorem cw_175 : wAt 6104 = some (.code (mName 175) (mBytes 175) (mMaxL 175) (mRet 175)) := rfl
set_option maxRecDepth 10000 in
theorem cw_176 : wAt 6108 = some (.code (mName 176) (mBytes 176) (mMaxL 176) (mRet 176)) := rfl
set_option maxRecDepth 10000 in
theorem cw_177 : wAt 6121 = some (.code (mName 177) (mBytes 177) (mMaxL 177) (mRet 177)) := rfl
set_option maxRecDepth 10000 in
theorem cw_178 : wAt 6117 = some (.code (mName 178) (mBytes 178) (mMaxL 178) (mRet 178)) := rfl
set_option maxRecDepth 10000 in
theorem cw_179 : wAt 6112 = some (.code (mName 179) (mBytes 179) (mMaxL 179) (mRet 179)) := rfl
set_option maxRecDepth 10000 in
theorem cw_180 : wAt 6125 = some (.code (mName 180) (mBytes 180) (mMaxL 180) (mRet 180)) := rfl
set_option maxRecDepth 10000 in
theorem cw_181 : wAt 6129 = some (.code (mName 181) (mBytes 181) (mMaxL 181) (mRet 181)) := rfl
set_option maxRecDepth 10000 in
theorem cw_182 : wAt 6133 = some (.code (mName 182) (mBytes 182) (mMaxL 182) (mRet 182)) := rfl
set_option maxRecDepth 10000 in
theorem cw_183 : wAt 6137 = some (.code (mName 183) (mBytes 183) (mMaxL 183) (mRet 183)) := rfl
set_option maxRecDepth 10000 in
theorem cw_184 : wAt 6145 = some (.code (mName 184) (mBytes 184) (mMaxL 184) (mRet 184)) := rfl
set_option maxRecDepth 10000 in
theorem cw_185 : wAt 6149 = some (.code (mName 185) (mBytes 185) (mMaxL 185) (mRet 185)) := rfl
set_option maxRecDepth 10000 in
theorem cw_186 : wAt 6161 = some (.code (mName 186) (mBytes 186) (mMaxL 186) (mRet 186)) := rfl
set_option maxRecDepth 10000 in
theorem cw_187 : wAt 6165 = some (.code (mName 187) (mBytes 187) (mMaxL 187) (mRet 187)) := rfl
set_option maxRecDepth 10000 in
theorem cw_188 : wAt 6157 = some (.code (mName 188) (mBytes 188) (mMaxL 188) (mRet 188)) := rfl
set_option maxRecDepth 10000 in
theorem cw_189 : wAt 6177 = some (.code (mName 189) (mBytes 189) (mMaxL 189) (mRet 189)) := rfl
set_option maxRecDepth 10000 in
theorem cw_190 : wAt 6173 = some (.code (mName 190) (mBytes 190) (mMaxL 190) (mRet 190)) := rfl
set_option maxRecDepth 10000 in
theorem cw_191 : wAt 6169 = some (.code (mName 191) (mBytes 191) (mMaxL 191) (mRet 191)) := rfl
set_option maxRecDepth 10000 in
theorem cw_192 : wAt 6185 = some (.code (mName 192) (mBytes 192) (mMaxL 192) (mRet 192)) := rfl
set_option maxRecDepth 10000 in
theorem cw_193 : wAt 6181 = some (.code (mName 193) (mBytes 193) (mMaxL 193) (mRet 193)) := rfl
set_option maxRecDepth 10000 in
theorem cw_194 : wAt 6153 = some (.code (mName 194) (mBytes 194) (mMaxL 194) (mRet 194)) := rfl
set_option maxRecDepth 10000 in
theorem cw_195 : wAt 6189 = some (.code (mName 195) (mBytes 195) (mMaxL 195) (mRet 195)) := rfl
set_option maxRecDepth 10000 in
theorem cw_196 : wAt 6193 = some (.code (mName 196) (mBytes 196) (mMaxL 196) (mRet 196)) := rfl
set_option maxRecDepth 10000 in
theorem cw_197 : wAt 6197 = some (.code (mName 197) (mBytes 197) (mMaxL 197) (mRet 197)) := rfl
set_option maxRecDepth 10000 in
theorem cw_198 : wAt 6141 = some (.code (mName 198) (mBytes 198) (mMaxL 198) (mRet 198)) := rfl
set_option maxRecDepth 10000 in
theorem cw_199 : wAt 6201 = some (.code (mName 199) (mBytes 199) (mMaxL 199) (mRet 199)) := rfl
set_option maxRecDepth 10000 in
theorem cw_200 : wAt 6209 = some (.code (mName 200) (mBytes 200) (mMaxL 200) (mRet 200)) := rfl
set_option maxRecDepth 10000 in
theorem cw_201 : wAt 6205 = some (.code (mName 201) (mBytes 201) (mMaxL 201) (mRet 201)) := rfl
set_option maxRecDepth 10000 in
theorem cw_202 : wAt 6213 = some (.code (mName 202) (mBytes 202) (mMaxL 202) (mRet 202)) := rfl
set_option maxRecDepth 10000 in
theorem cw_203 : wAt 6217 = some (.code (mName 203) (mBytes 203) (mMaxL 203) (mRet 203)) := rfl
set_option maxRecDepth 10000 in
theorem cw_204 : wAt 2170 = some (.code (mName 204) (mBytes 204) (mMaxL 204) (mRet 204)) := rfl
set_option maxRecDepth 10000 in
theorem cw_205 : wAt 2125 = some (.code (mName 205) (mBytes 205) (mMaxL 205) (mRet 205)) := rfl
set_option maxRecDepth 10000 in
theorem cw_206 : wAt 2151 = some (.code (mName 206) (mBytes 206) (mMaxL 206) (mRet 206)) := rfl
set_option maxRecDepth 10000 in
theorem cw_207 : wAt 2140 = some (.code (mName 207) (mBytes 207) (mMaxL 207) (mRet 207)) := rfl
set_option maxRecDepth 10000 in
theorem cw_208 : wAt 2189 = some (.code (mName 208) (mBytes 208) (mMaxL 208) (mRet 208)) := rfl
set_option maxRecDepth 10000 in
theorem cw_209 : wAt 3023 = some (.code (mName 209) (mBytes 209) (mMaxL 209) (mRet 209)) := rfl
set_option maxRecDepth 10000 in
theorem cw_210 : wAt 3033 = some (.code (mName 210) (mBytes 210) (mMaxL 210) (mRet 210)) := rfl
set_option maxRecDepth 10000 in
theorem cw_211 : wAt 3098 = some (.code (mName 211) (mBytes 211) (mMaxL 211) (mRet 211)) := rfl
set_option maxRecDepth 10000 in
theorem cw_212 : wAt 3102 = some (.code (mName 212) (mBytes 212) (mMaxL 212) (mRet 212)) := rfl
set_option maxRecDepth 10000 in
theorem cw_213 : wAt 3027 = some (.code (mName 213) (mBytes 213) (mMaxL 213) (mRet 213)) := rfl
set_option maxRecDepth 10000 in
theorem cw_214 : wAt 3037 = some (.code (mName 214) (mBytes 214) (mMaxL 214) (mRet 214)) := rfl
set_option maxRecDepth 10000 in
theorem cw_215 : wAt 3043 = some (.code (mName 215) (mBytes 215) (mMaxL 215) (mRet 215)) := rfl
set_option maxRecDepth 10000 in
theorem cw_216 : wAt 3040 = some (.code (mName 216) (mBytes 216) (mMaxL 216) (mRet 216)) := rfl
set_option maxRecDepth 10000 in
theorem cw_217 : wAt 3109 = some (.code (mName 217) (mBytes 217) (mMaxL 217) (mRet 217)) := rfl
set_option maxRecDepth 10000 in
theorem cw_218 : wAt 3106 = some (.code (mName 218) (mBytes 218) (mMaxL 218) (mRet 218)) := rfl
set_option maxRecDepth 10000 in
theorem cw_219 : wAt 3114 = some (.code (mName 219) (mBytes 219) (mMaxL 219) (mRet 219)) := rfl
set_option maxRecDepth 10000 in
theorem cw_220 : wAt 4096 = some (.code (mName 220) (mBytes 220) (mMaxL 220) (mRet 220)) := rfl
set_option maxRecDepth 10000 in
theorem cw_221 : wAt 2008 = some (.code (mName 221) (mBytes 221) (mMaxL 221) (mRet 221)) := rfl
set_option maxRecDepth 10000 in
theorem cw_222 : wAt 3048 = some (.code (mName 222) (mBytes 222) (mMaxL 222) (mRet 222)) := rfl
theorem ok_codes : ∀ c, 0 < c → c < 223 → Jvm.Cond.code (mName c) (mBytes c) (mMaxL c) (mRet c) ∈ BIGG := by
  intro c h0 hc
  match c, h0, hc with
  | 0, h0, _ => exact absurd h0 (by decide)
  | 1, _, _ => exact List.mem_filter.mpr ⟨wAt_in cw_1, rfl⟩
  | 2, _, _ => exact List.mem_filter.mpr ⟨wAt_in cw_2, rfl⟩
  | 3, _, _ => exact List.mem_filter.mpr ⟨wAt_in cw_3, rfl⟩
  | 4, _, _ => exact List.mem_filter.mpr ⟨wAt_in cw_4, rfl⟩
  | 5, _, _ => exact List.mem_filter.mpr ⟨wAt_in cw_5, rfl⟩
  | 6, _, _ => exact List.mem_filter.mpr ⟨wAt_in cw_6, rfl⟩
  | 7, _, _ => exact List.mem_filter.mpr ⟨wAt_in cw_7, rfl⟩
  | 8, _, _ => exact List.mem_filter.mpr ⟨wAt_in cw_8, rfl⟩
  | 9, _, _ => exact List.mem_filter.mpr ⟨wAt_in cw_9, rfl⟩
  | 10, _, _ => exact List.mem_filter.mpr ⟨wAt_in cw_10, rfl⟩
  | 11, _, _ => exact List.mem_filter.mpr ⟨wAt_in cw_11, rfl⟩
  | 12, _, _ => exact List.mem_filter.mpr ⟨wAt_in cw_12, rfl⟩
  | 13, _, _ => exact List.mem_filter.mpr ⟨wAt_in cw_13, rfl⟩
  | 14, _, _ => exact List.mem_filter.mpr ⟨wAt_in cw_14, rfl⟩
  | 15, _, _ => exact List.mem_filter.mpr ⟨wAt_in cw_15, rfl⟩
  | 16, _, _ => exact List.mem_filter.mpr ⟨wAt_in cw_16, rfl⟩
  | 17, _, _ => exact List.mem_filter.mpr ⟨wAt_in cw_17, rfl⟩
  | 18, _, _ => exact List.mem_filter.mpr ⟨wAt_in cw_18, rfl⟩
  | 19, _, _ => exact List.mem_filter.mpr ⟨wAt_in cw_19, rfl⟩
  | 20, _, _ => exact List.mem_filter.mpr ⟨wAt_in cw_20, rfl⟩
  | 21, _, _ => exact List.mem_filter.mpr ⟨wAt_in cw_21, rfl⟩
  | 22, _, _ => exact List.mem_filter.mpr ⟨wAt_in cw_22, rfl⟩
  | 23, _, _ => exact List.mem_filter.mpr ⟨wAt_in cw_23, rfl⟩
  | 24, _, _ => exact List.mem_filter.mpr ⟨wAt_in cw_24, rfl⟩
  | 25, _, _ => exact List.mem_filter.mpr ⟨wAt_in cw_25, rfl⟩
  | 26, _, _ => exact List.mem_filter.mpr ⟨wAt_in cw_26, rfl⟩
  | 27, _, _ => exact List.mem_filter.mpr ⟨wAt_in cw_27, rfl⟩
  | 28, _, _ => exact List.mem_filter.mpr ⟨wAt_in cw_28, rfl⟩
  | 29, _, _ => exact List.mem_filter.mpr ⟨wAt_in cw_29, rfl⟩
  | 30, _, _ => exact List.mem_filter.mpr ⟨wAt_in cw_30, rfl⟩
  | 31, _, _ => exact List.mem_filter.mpr ⟨wAt_in cw_31, rfl⟩
  | 32, _, _ => exact List.mem_filter.mpr ⟨wAt_in cw_32, rfl⟩
  | 33, _, _ => exact List.mem_filter.mpr ⟨wAt_in cw_33, rfl⟩
  | 34, _, _ => exact List.mem_filter.mpr ⟨wAt_in cw_34, rfl⟩
  | 35, _, _ => exact List.mem_filter.mpr ⟨wAt_in cw_35, rfl⟩
  | 36, _, _ => exact List.mem_filter.mpr ⟨wAt_in cw_36, rfl⟩
  | 37, _, _ => exact List.mem_filter.mpr ⟨wAt_in cw_37, rfl⟩
  | 38, _, _ => exact List.mem_filter.mpr ⟨wAt_in cw_38, rfl⟩
  | 39, _, _ => exact List.mem_filter.mpr ⟨wAt_in cw_39, rfl⟩
  | 40, _, _ => exact List.mem_filter.mpr ⟨wAt_in cw_40, rfl⟩
  | 41, _, _ => exact List.mem_filter.mpr ⟨wAt_in cw_41, rfl⟩
  | 42, _, _ => exact List.mem_filter.mpr ⟨wAt_in cw_42, rfl⟩
  | 43, _, _ => exact List.mem_filter.mpr ⟨wAt_in cw_43, rfl⟩
  | 44, _, _ => exact List.mem_filter.mpr ⟨wAt_in cw_44, rfl⟩
  | 45, _, _ => exact List.mem_filter.mpr ⟨wAt_in cw_45, rfl⟩
  | 46, _, _ => exact List.mem_filter.mpr ⟨wAt_in cw_46, rfl⟩
  | 47, _, _ => exact List.mem_filter.mpr ⟨wAt_in cw_47, rfl⟩
  | 48, _, _ => exact List.mem_filter.mpr ⟨wAt_in cw_48, rfl⟩
  | 49, _, _ => exact List.mem_filter.mpr ⟨wAt_in cw_49, rfl⟩
  | 50, _, _ => exact List.mem_filter.mpr ⟨wAt_in cw_50, rfl⟩
  | 51, _, _ => exact List.mem_filter.mpr ⟨wAt_in cw_51, rfl⟩
  | 52, _, _ => exact List.mem_filter.mpr ⟨wAt_in cw_52, rfl⟩
  | 53, _, _ => exact List.mem_filter.mpr ⟨wAt_in cw_53, rfl⟩
  | 54, _, _ => exact List.mem_filter.mpr ⟨wAt_in cw_54, rfl⟩
  | 55, _, _ => exact List.mem_filter.mpr ⟨wAt_in cw_55, rfl⟩
  | 56, _, _ => exact List.mem_filter.mpr ⟨wAt_in cw_56, rfl⟩
  | 57, _, _ => exact List.mem_filter.mpr ⟨wAt_in cw_57, rfl⟩
  | 58, _, _ => exact List.mem_filter.mpr ⟨wAt_in cw_58, rfl⟩
  | 59, _, _ => exact List.mem_filter.mpr ⟨wAt_in cw_59, rfl⟩
  | 60, _, _ => exact List.mem_filter.mpr ⟨wAt_in cw_60, rfl⟩
  | 61, _, _ => exact List.mem_filter.mpr ⟨wAt_in cw_61, rfl⟩
  | 62, _, _ => exact List.mem_filter.mpr ⟨wAt_in cw_62, rfl⟩
  | 63, _, _ => exact List.mem_filter.mpr ⟨wAt_in cw_63, rfl⟩
  | 64, _, _ => exact List.mem_filter.mpr ⟨wAt_in cw_64, rfl⟩
  | 65, _, _ => exact List.mem_filter.mpr ⟨wAt_in cw_65, rfl⟩
  | 66, _, _ => exact List.mem_filter.mpr ⟨wAt_in cw_66, rfl⟩
  | 67, _, _ => exact List.mem_filter.mpr ⟨wAt_in cw_67, rfl⟩
  | 68, _, _ => exact List.mem_filter.mpr ⟨wAt_in cw_68, rfl⟩
  | 69, _, _ => exact List.mem_filter.mpr ⟨wAt_in cw_69, rfl⟩
  | 70, _, _ => exact List.mem_filter.mpr ⟨wAt_in cw_70, rfl⟩
  | 71, _, _ => exact List.mem_filter.mpr ⟨wAt_in cw_71, rfl⟩
  | 72, _, _ => exact List.mem_filter.mpr ⟨wAt_in cw_72, rfl⟩
  | 73, _, _ => exact List.mem_filter.mpr ⟨wAt_in cw_73, rfl⟩
  | 74, _, _ => exact List.mem_filter.mpr ⟨wAt_in cw_74, rfl⟩
  | 75, _, _ => exact List.mem_filter.mpr ⟨wAt_in cw_75, rfl⟩
  | 76, _, _ => exact List.mem_filter.mpr ⟨wAt_in cw_76, rfl⟩
  | 77, _, _ => exact List.mem_filter.mpr ⟨wAt_in cw_77, rfl⟩
  | 78, _, _ => exact List.mem_filter.mpr ⟨wAt_in cw_78, rfl⟩
  | 79, _, _ => exact List.mem_filter.mpr ⟨wAt_in cw_79, rfl⟩
  | 80, _, _ => exact List.mem_filter.mpr ⟨wAt_in cw_80, rfl⟩
  | 81, _, _ => exact List.mem_filter.mpr ⟨wAt_in cw_81, rfl⟩
  | 82, _, _ => exact List.mem_filter.mpr ⟨wAt_in cw_82, rfl⟩
  | 83, _, _ => exact List.mem_filter.mpr ⟨wAt_in cw_83, rfl⟩
  | 84, _, _ => exact List.mem_filter.mpr ⟨wAt_in cw_84, rfl⟩
  | 85, _, _ => exact List.mem_filter.mpr ⟨wAt_in cw_85, rfl⟩
  | 86, _, _ => exact List.mem_filter.mpr ⟨wAt_in cw_86, rfl⟩
  | 87, _, _ => exact List.mem_filter.mpr ⟨wAt_in cw_87, rfl⟩
  | 88, _, _ => exact List.mem_filter.mpr ⟨wAt_in cw_88, rfl⟩
  | 89, _, _ => exact List.mem_filter.mpr ⟨wAt_in cw_89, rfl⟩
  | 90, _, _ => exact List.mem_filter.mpr ⟨wAt_in cw_90, rfl⟩
  | 91, _, _ => exact List.mem_filter.mpr ⟨wAt_in cw_91, rfl⟩
  | 92, _, _ => exact List.mem_filter.mpr ⟨wAt_in cw_92, rfl⟩
  | 93, _, _ => exact List.mem_filter.mpr ⟨wAt_in cw_93, rfl⟩
  | 94, _, _ => exact List.mem_filter.mpr ⟨wAt_in cw_94, rfl⟩
  | 95, _, _ => exact List.mem_filter.mpr ⟨wAt_in cw_95, rfl⟩
  | 96, _, _ => exact List.mem_filter.mpr ⟨wAt_in cw_96, rfl⟩
  | 97, _, _ => exact List.mem_filter.mpr ⟨wAt_in cw_97, rfl⟩
  | 98, _, _ => exact List.mem_filter.mpr ⟨wAt_in cw_98, rfl⟩
  | 99, _, _ => exact List.mem_filter.mpr ⟨wAt_in cw_99, rfl⟩
  | 100, _, _ => exact List.mem_filter.mpr ⟨wAt_in cw_100, rfl⟩
  | 101, _, _ => exact List.mem_filter.mpr ⟨wAt_in cw_101, rfl⟩
  | 102, _, _ => exact List.mem_filter.mpr ⟨wAt_in cw_102, rfl⟩
  | 103, _, _ => exact List.mem_filter.mpr ⟨wAt_in cw_103, rfl⟩
  | 104, _, _ => exact List.mem_filter.mpr ⟨wAt_in cw_104, rfl⟩
  | 105, _, _ => exact List.mem_filter.mpr ⟨wAt_in cw_105, rfl⟩
  | 106, _, _ => exact List.mem_filter.mpr ⟨wAt_in cw_106, rfl⟩
  | 107, _, _ => exact List.mem_filter.mpr ⟨wAt_in cw_107, rfl⟩
  | 108, _, _ => exact List.mem_filter.mpr ⟨wAt_in cw_108, rfl⟩
  | 109, _, _ => exact List.mem_filter.mpr ⟨wAt_in cw_109, rfl⟩
  | 110, _, _ => exact List.mem_filter.mpr ⟨wAt_in cw_110, rfl⟩
  | 111, _, _ => exact List.mem_filter.mpr ⟨wAt_in cw_111, rfl⟩
  | 112, _, _ => exact List.mem_filter.mpr ⟨wAt_in cw_112, rfl⟩
  | 113, _, _ => exact List.mem_filter.mpr ⟨wAt_in cw_113, rfl⟩
  | 114, _, _ => exact List.mem_filter.mpr ⟨wAt_in cw_114, rfl⟩
  | 115, _, _ => exact List.mem_filter.mpr ⟨wAt_in cw_115, rfl⟩
  | 116, _, _ => exact List.mem_filter.mpr ⟨wAt_in cw_116, rfl⟩
  | 117, _, _ => exact List.mem_filter.mpr ⟨wAt_in cw_117, rfl⟩
  | 118, _, _ => exact List.mem_filter.mpr ⟨wAt_in cw_118, rfl⟩
  | 119, _, _ => exact List.mem_filter.mpr ⟨wAt_in cw_119, rfl⟩
  | 120, _, _ => exact List.mem_filter.mpr ⟨wAt_in cw_120, rfl⟩
  | 121, _, _ => exact List.mem_filter.mpr ⟨wAt_in cw_121, rfl⟩
  | 122, _, _ => exact List.mem_filter.mpr ⟨wAt_in cw_122, rfl⟩
  | 123, _, _ => exact List.mem_filter.mpr ⟨wAt_in cw_123, rfl⟩
  | 124, _, _ => exact List.mem_filter.mpr ⟨wAt_in cw_124, rfl⟩
  | 125, _, _ => exact List.mem_filter.mpr ⟨wAt_in cw_125, rfl⟩
  | 126, _, _ => exact List.mem_filter.mpr ⟨wAt_in cw_126, rfl⟩
  | 127, _, _ => exact List.mem_filter.mpr ⟨wAt_in cw_127, rfl⟩
  | 128, _, _ => exact List.mem_filter.mpr ⟨wAt_in cw_128, rfl⟩
  | 129, _, _ => exact List.mem_filter.mpr ⟨wAt_in cw_129, rfl⟩
  | 130, _, _ => exact List.mem_filter.mpr ⟨wAt_in cw_130, rfl⟩
  | 131, _, _ => exact List.mem_filter.mpr ⟨wAt_in cw_131, rfl⟩
  | 132, _, _ => exact List.mem_filter.mpr ⟨wAt_in cw_132, rfl⟩
  | 133, _, _ => exact List.mem_filter.mpr ⟨wAt_in cw_133, rfl⟩
  | 134, _, _ => exact List.mem_filter.mpr ⟨wAt_in cw_134, rfl⟩
  | 135, _, _ => exact List.mem_filter.mpr ⟨wAt_in cw_135, rfl⟩
  | 136, _, _ => exact List.mem_filter.mpr ⟨wAt_in cw_136, rfl⟩
  | 137, _, _ => exact List.mem_filter.mpr ⟨wAt_in cw_137, rfl⟩
  | 138, _, _ => exact List.mem_filter.mpr ⟨wAt_in cw_138, rfl⟩
  | 139, _, _ => exact List.mem_filter.mpr ⟨wAt_in cw_139, rfl⟩
  | 140, _, _ => exact List.mem_filter.mpr ⟨wAt_in cw_140, rfl⟩
  | 141, _, _ => exact List.mem_filter.mpr ⟨wAt_in cw_141, rfl⟩
  | 142, _, _ => exact List.mem_filter.mpr ⟨wAt_in cw_142, rfl⟩
  | 143, _, _ => exact List.mem_filter.mpr ⟨wAt_in cw_143, rfl⟩
  | 144, _, _ => exact List.mem_filter.mpr ⟨wAt_in cw_144, rfl⟩
  | 145, _, _ => exact List.mem_filter.mpr ⟨wAt_in cw_145, rfl⟩
  | 146, _, _ => exact List.mem_filter.mpr ⟨wAt_in cw_146, rfl⟩
  | 147, _, _ => exact List.mem_filter.mpr ⟨wAt_in cw_147, rfl⟩
  | 148, _, _ => exact List.mem_filter.mpr ⟨wAt_in cw_148, rfl⟩
  | 149, _, _ => exact List.mem_filter.mpr ⟨wAt_in cw_149, rfl⟩
  | 150, _, _ => exact List.mem_filter.mpr ⟨wAt_in cw_150, rfl⟩
  | 151, _, _ => exact List.mem_filter.mpr ⟨wAt_in cw_151, rfl⟩
  | 152, _, _ => exact List.mem_filter.mpr ⟨wAt_in cw_152, rfl⟩
  | 153, _, _ => exact List.mem_filter.mpr ⟨wAt_in cw_153, rfl⟩
  | 154, _, _ => exact List.mem_filter.mpr ⟨wAt_in cw_154, rfl⟩
  | 155, _, _ => exact List.mem_filter.mpr ⟨wAt_in cw_155, rfl⟩
  | 156, _, _ => exact List.mem_filter.mpr ⟨wAt_in cw_156, rfl⟩
  | 157, _, _ => exact List.mem_filter.mpr ⟨wAt_in cw_157, rfl⟩
  | 158, _, _ => exact List.mem_filter.mpr ⟨wAt_in cw_158, rfl⟩
  | 159, _, _ => exact List.mem_filter.mpr ⟨wAt_in cw_159, rfl⟩
  | 160, _, _ => exact List.mem_filter.mpr ⟨wAt_in cw_160, rfl⟩
  | 161, _, _ => exact List.mem_filter.mpr ⟨wAt_in cw_161, rfl⟩
  | 162, _, _ => exact List.mem_filter.mpr ⟨wAt_in cw_162, rfl⟩
  | 163, _, _ => exact List.mem_filter.mpr ⟨wAt_in cw_163, rfl⟩
  | 164, _, _ => exact List.mem_filter.mpr ⟨wAt_in cw_164, rfl⟩
  | 165, _, _ => exact List.mem_filter.mpr ⟨wAt_in cw_165, rfl⟩
  | 166, _, _ => exact List.mem_filter.mpr ⟨wAt_in cw_166, rfl⟩
  | 167, _, _ => exact List.mem_filter.mpr ⟨wAt_in cw_167, rfl⟩
  | 168, _, _ => exact List.mem_filter.mpr ⟨wAt_in cw_168, rfl⟩
  | 169, _, _ => exact List.mem_filter.mpr ⟨wAt_in cw_169, rfl⟩
  | 170, _, _ => exact List.mem_filter.mpr ⟨wAt_in cw_170, rfl⟩
  | 171, _, _ => exact List.mem_filter.mpr ⟨wAt_in cw_171, rfl⟩
  | 172, _, _ => exact List.mem_filter.mpr ⟨wAt_in cw_172, rfl⟩
  | 173, _, _ => exact List.mem_filter.mpr ⟨wAt_in cw_173, rfl⟩
  | 174, _, _ => exact List.mem_filter.mpr ⟨wAt_in cw_174, rfl⟩
  | 175, _, _ => exact List.mem_filter.mpr ⟨wAt_in cw_175, rfl⟩
  | 176, _, _ => exact List.mem_filter.mpr ⟨wAt_in cw_176, rfl⟩
  | 177, _, _ => exact List.mem_filter.mpr ⟨wAt_in cw_177, rfl⟩
  | 178, _, _ => exact List.mem_filter.mpr ⟨wAt_in cw_178, rfl⟩
  | 179, _, _ => exact List.mem_filter.mpr ⟨wAt_in cw_179, rfl⟩
  | 180, _, _ => exact List.mem_filter.mpr ⟨wAt_in cw_180, rfl⟩
  | 181, _, _ => exact List.mem_filter.mpr ⟨wAt_in cw_181, rfl⟩
  | 182, _, _ => exact List.mem_filter.mpr ⟨wAt_in cw_182, rfl⟩
  | 183, _, _ => exact List.mem_filter.mpr ⟨wAt_in cw_183, rfl⟩
  | 184, _, _ => exact List.mem_filter.mpr ⟨wAt_in cw_184, rfl⟩
  | 185, _, _ => exact List.mem_filter.mpr ⟨wAt_in cw_185, rfl⟩
  | 186, _, _ => exact List.mem_filter.mpr ⟨wAt_in cw_186, rfl⟩
  | 187, _, _ => exact List.mem_filter.mpr ⟨wAt_in cw_187, rfl⟩
  | 188, _, _ => exact List.mem_filter.mpr ⟨wAt_in cw_188, rfl⟩
  | 189, _, _ => exact List.mem_filter.mpr ⟨wAt_in cw_189, rfl⟩
  | 190, _, _ => exact List.mem_filter.mpr ⟨wAt_in cw_190, rfl⟩
  | 191, _, _ => exact List.mem_filter.mpr ⟨wAt_in cw_191, rfl⟩
  | 192, _, _ => exact List.mem_filter.mpr ⟨wAt_in cw_192, rfl⟩
  | 193, _, _ => exact List.mem_filter.mpr ⟨wAt_in cw_193, rfl⟩
  | 194, _, _ => exact List.mem_filter.mpr ⟨wAt_in cw_194, rfl⟩
  | 195, _, _ => exact List.mem_filter.mpr ⟨wAt_in cw_195, rfl⟩
  | 196, _, _ => exact List.mem_filter.mpr ⟨wAt_in cw_196, rfl⟩
  | 197, _, _ => exact List.mem_filter.mpr ⟨wAt_in cw_197, rfl⟩
  | 198, _, _ => exact List.mem_filter.mpr ⟨wAt_in cw_198, rfl⟩
  | 199, _, _ => exact List.mem_filter.mpr ⟨wAt_in cw_199, rfl⟩
  | 200, _, _ => exact List.mem_filter.mpr ⟨wAt_in cw_200, rfl⟩
  | 201, _, _ => exact List.mem_filter.mpr ⟨wAt_in cw_201, rfl⟩
  | 202, _, _ => exact List.mem_filter.mpr ⟨wAt_in cw_202, rfl⟩
  | 203, _, _ => exact List.mem_filter.mpr ⟨wAt_in cw_203, rfl⟩
  | 204, _, _ => exact List.mem_filter.mpr ⟨wAt_in cw_204, rfl⟩
  | 205, _, _ => exact List.mem_filter.mpr ⟨wAt_in cw_205, rfl⟩
  | 206, _, _ => exact List.mem_filter.mpr ⟨wAt_in cw_206, rfl⟩
  | 207, _, _ => exact List.mem_filter.mpr ⟨wAt_in cw_207, rfl⟩
  | 208, _, _ => exact List.mem_filter.mpr ⟨wAt_in cw_208, rfl⟩
  | 209, _, _ => exact List.mem_filter.mpr ⟨wAt_in cw_209, rfl⟩
  | 210, _, _ => exact List.mem_filter.mpr ⟨wAt_in cw_210, rfl⟩
  | 211, _, _ => exact List.mem_filter.mpr ⟨wAt_in cw_211, rfl⟩
  | 212, _, _ => exact List.mem_filter.mpr ⟨wAt_in cw_212, rfl⟩
  | 213, _, _ => exact List.mem_filter.mpr ⟨wAt_in cw_213, rfl⟩
  | 214, _, _ => exact List.mem_filter.mpr ⟨wAt_in cw_214, rfl⟩
  | 215, _, _ => exact List.mem_filter.mpr ⟨wAt_in cw_215, rfl⟩
  | 216, _, _ => exact List.mem_filter.mpr ⟨wAt_in cw_216, rfl⟩
  | 217, _, _ => exact List.mem_filter.mpr ⟨wAt_in cw_217, rfl⟩
  | 218, _, _ => exact List.mem_filter.mpr ⟨wAt_in cw_218, rfl⟩
  | 219, _, _ => exact List.mem_filter.mpr ⟨wAt_in cw_219, rfl⟩
  | 220, _, _ => exact List.mem_filter.mpr ⟨wAt_in cw_220, rfl⟩
  | 221, _, _ => exact List.mem_filter.mpr ⟨wAt_in cw_221, rfl⟩
  | 222, _, _ => exact List.mem_filter.mpr ⟨wAt_in cw_222, rfl⟩
  | n + 223, _, h => exact absurd h (by omega)
theorem ok_meths : (List.range 223).all (fun c => c == 0 || mOK c) = true := by decide +kernel
theorem ok_progs : ∀ y, y < 223 → (progs.getD y []).all (okE y) = true := by
  intro y hy
  match y, hy with
  | 0, _ => exact okm_0
  | 1, _ => exact okm_1
  | 2, _ => exact okm_2
  | 3, _ => exact okm_3
  | 4, _ => exact okm_4
  | 5, _ => exact okm_5
  | 6, _ => exact okm_6
  | 7, _ => exact okm_7
  | 8, _ => exact okm_8
  | 9, _ => exact okm_9
  | 10, _ => exact okm_10
  | 11, _ => exact okm_11
  | 12, _ => exact okm_12
  | 13, _ => exact okm_13
  | 14, _ => exact okm_14
  | 15, _ => exact okm_15
  | 16, _ => exact okm_16
  | 17, _ => exact okm_17
  | 18, _ => exact okm_18
  | 19, _ => exact okm_19
  | 20, _ => exact okm_20
  | 21, _ => exact okm_21
  | 22, _ => exact okm_22
  | 23, _ => exact okm_23
  | 24, _ => exact okm_24
  | 25, _ => exact okm_25
  | 26, _ => exact okm_26
  | 27, _ => exact okm_27
  | 28, _ => exact okm_28
  | 29, _ => exact okm_29
  | 30, _ => exact okm_30
  | 31, _ => exact okm_31
  | 32, _ => exact okm_32
  | 33, _ => exact okm_33
  | 34, _ => exact okm_34
  | 35, _ => exact okm_35
  | 36, _ => exact okm_36
  | 37, _ => exact okm_37
  | 38, _ => exact okm_38
  | 39, _ => exact okm_39
  | 40, _ => exact okm_40
  | 41, _ => exact okm_41
  | 42, _ => exact okm_42
  | 43, _ => exact okm_43
  | 44, _ => exact okm_44
  | 45, _ => exact okm_45
  | 46, _ => exact okm_46
  | 47, _ => exact okm_47
  | 48, _ => exact okm_48
  | 49, _ => exact okm_49
  | 50, _ => exact okm_50
  | 51, _ => exact okm_51
  | 52, _ => exact okm_52
  | 53, _ => exact okm_53
  | 54, _ => exact okm_54
  | 55, _ => exact okm_55
  | 56, _ => exact okm_56
  | 57, _ => exact okm_57
  | 58, _ => exact okm_58
  | 59, _ => exact okm_59
  | 60, _ => exact okm_60
  | 61, _ => exact okm_61
  | 62, _ => exact okm_62
  | 63, _ => exact okm_63
  | 64, _ => exact okm_64
  | 65, _ => exact okm_65
  | 66, _ => exact okm_66
  | 67, _ => exact okm_67
  | 68, _ => exact okm_68
  | 69, _ => exact okm_69
  | 70, _ => exact okm_70
  | 71, _ => exact okm_71
  | 72, _ => exact okm_72
  | 73, _ => exact okm_73
  | 74, _ => exact okm_74
  | 75, _ => exact okm_75
  | 76, _ => exact okm_76
  | 77, _ => exact okm_77
  | 78, _ => exact okm_78
  | 79, _ => exact okm_79
  | 80, _ => exact okm_80
  | 81, _ => exact okm_81
  | 82, _ => exact okm_82
  | 83, _ => exact okm_83
  | 84, _ => exact okm_84
  | 85, _ => exact okm_85
  | 86, _ => exact okm_86
  | 87, _ => exact okm_87
  | 88, _ => exact okm_88
  | 89, _ => exact okm_89
  | 90, _ => exact okm_90
  | 91, _ => exact okm_91
  | 92, _ => exact okm_92
  | 93, _ => exact okm_93
  | 94, _ => exact okm_94
  | 95, _ => exact okm_95
  | 96, _ => exact okm_96
  | 97, _ => exact okm_97
  | 98, _ => exact okm_98
  | 99, _ => exact okm_99
  | 100, _ => exact okm_100
  | 101, _ => exact okm_101
  | 102, _ => exact okm_102
  | 103, _ => exact okm_103
  | 104, _ => exact okm_104
  | 105, _ => exact okm_105
  | 106, _ => exact okm_106
  | 107, _ => exact okm_107
  | 108, _ => exact okm_108
  | 109, _ => exact okm_109
  | 110, _ => exact okm_110
  | 111, _ => exact okm_111
  | 112, _ => exact okm_112
  | 113, _ => exact okm_113
  | 114, _ => exact okm_114
  | 115, _ => exact okm_115
  | 116, _ => exact okm_116
  | 117, _ => exact okm_117
  | 118, _ => exact okm_118
  | 119, _ => exact okm_119
  | 120, _ => exact okm_120
  | 121, _ => exact okm_121
  | 122, _ => exact okm_122
  | 123, _ => exact okm_123
  | 124, _ => exact okm_124
  | 125, _ => exact okm_125
  | 126, _ => exact okm_126
  | 127, _ => exact okm_127
  | 128, _ => exact okm_128
  | 129, _ => exact okm_129
  | 130, _ => exact okm_130
  | 131, _ => exact okm_131
  | 132, _ => exact okm_132
  | 133, _ => exact okm_133
  | 134, _ => exact okm_134
  | 135, _ => exact okm_135
  | 136, _ => exact okm_136
  | 137, _ => exact okm_137
  | 138, _ => exact okm_138
  | 139, _ => exact okm_139
  | 140, _ => exact okm_140
  | 141, _ => exact okm_141
  | 142, _ => exact okm_142
  | 143, _ => exact okm_143
  | 144, _ => exact okm_144
  | 145, _ => exact okm_145
  | 146, _ => exact okm_146
  | 147, _ => exact okm_147
  | 148, _ => exact okm_148
  | 149, _ => exact okm_149
  | 150, _ => exact okm_150
  | 151, _ => exact okm_151
  | 152, _ => exact okm_152
  | 153, _ => exact okm_153
  | 154, _ => exact okm_154
  | 155, _ => exact okm_155
  | 156, _ => exact okm_156
  | 157, _ => exact okm_157
  | 158, _ => exact okm_158
  | 159, _ => exact okm_159
  | 160, _ => exact okm_160
  | 161, _ => exact okm_161
  | 162, _ => exact okm_162
  | 163, _ => exact okm_163
  | 164, _ => exact okm_164
  | 165, _ => exact okm_165
  | 166, _ => exact okm_166
  | 167, _ => exact okm_167
  | 168, _ => exact okm_168
  | 169, _ => exact okm_169
  | 170, _ => exact okm_170
  | 171, _ => exact okm_171
  | 172, _ => exact okm_172
  | 173, _ => exact okm_173
  | 174, _ => exact okm_174
  | 175, _ => exact okm_175
  | 176, _ => exact okm_176
  | 177, _ => exact okm_177
  | 178, _ => exact okm_178
  | 179, _ => exact okm_179
  | 180, _ => exact okm_180
  | 181, _ => exact okm_181
  | 182, _ => exact okm_182
  | 183, _ => exact okm_183
  | 184, _ => exact okm_184
  | 185, _ => exact okm_185
  | 186, _ => exact okm_186
  | 187, _ => exact okm_187
  | 188, _ => exact okm_188
  | 189, _ => exact okm_189
  | 190, _ => exact okm_190
  | 191, _ => exact okm_191
  | 192, _ => exact okm_192
  | 193, _ => exact okm_193
  | 194, _ => exact okm_194
  | 195, _ => exact okm_195
  | 196, _ => exact okm_196
  | 197, _ => exact okm_197
  | 198, _ => exact okm_198
  | 199, _ => exact okm_199
  | 200, _ => exact okm_200
  | 201, _ => exact okm_201
  | 202, _ => exact okm_202
  | 203, _ => exact okm_203
  | 204, _ => exact okm_204
  | 205, _ => exact okm_205
  | 206, _ => exact okm_206
  | 207, _ => exact okm_207
  | 208, _ => exact okm_208
  | 209, _ => exact okm_209
  | 210, _ => exact okm_210
  | 211, _ => exact okm_211
  | 212, _ => exact okm_212
  | 213, _ => exact okm_213
  | 214, _ => exact okm_214
  | 215, _ => exact okm_215
  | 216, _ => exact okm_216
  | 217, _ => exact okm_217
  | 218, _ => exact okm_218
  | 219, _ => exact okm_219
  | 220, _ => exact okm_220
  | 221, _ => exact okm_221
  | 222, _ => exact okm_222
  | n + 223, h => exact absurd h (by omega)
end
section
/-! The world: what the real heap holds when the pure machine's heap is h. -/
abbrev WC : Type := Nat × va_G × (Nat → ClassId) × (Nat → Nat) × Value × Scr
def wfi (w : WC) (n : Nat) : Nat := if n < OLDB then w.1 + n else w.2.2.2.1 (n - OLDB)
def tr (w : WC) : Value → Value
  | .ref n => if n = OLDB + 13 then w.2.2.2.2.1 else .ref (wfi w n)
  | v => v
def Ab (w : WC) : Nat → Prop := fun q => w.1 ≤ q
def cfv (w : WC) (h : Hp) (ci a k : Nat) : Value := if isRefTy (vwTy ci k) = true then va_rf ((h.2.2.2 a k).map (fun b => w.1 + b)) else .int (h.2.1 a k)
def cfa (w : WC) (h : Hp) (a t : Nat) : (Nat → Int32) ⊕ (Nat → Int64) ⊕ (Nat → UInt32) ⊕ (Nat → UInt64) ⊕ (Nat → Option Nat) :=
  if t = 0 ∨ t = 2 then .inl (h.2.1 a) else if t = 1 then .inr (.inl (h.2.2.1 a)) else .inr (.inr (.inr (.inr (fun i => (h.2.2.2 a i).map (fun b => w.1 + b)))))
def cel (w : WC) (h : Hp) (a : Nat) : Sh → va_E
  | .inl q => .inl (w.2.2.1 q.1, q.2, cfa w h a q.1)
  | .inr ci => .inr (ci, (List.range (vwN ci)).map (fun k => cfv w h ci a k))
def wsH (w : WC) (h : Hp) : va_W := (List.range h.1.length).map (fun a => (w.1 + a, cel w h a (h.1.getD a (.inr 0))))
def tysW (w : WC) : List (ClassId × FieldType) := [(w.2.2.1 0, .int), (w.2.2.1 1, .long), (w.2.2.1 2, .boolean), (w.2.2.1 3, .object RX5), (w.2.2.1 4, .array .long)]
def shSz : Sh → Nat
  | .inl q => q.2
  | .inr ci => vwN ci
def slotS (l : List Sh) : Nat := (l.map shSz).sum
theorem wsH_get {w : WC} {h : Hp} {a : Nat} {s : Sh} (hs : h.1[a]? = some s) : (wsH w h)[a]? = some (w.1 + a, cel w h a s) := by
  have hl := (List.getElem?_eq_some_iff.mp hs).1
  unfold wsH
  rw [List.getElem?_map, List.getElem?_range hl]
  simp [List.getD_eq_getElem?_getD, hs]
theorem wsH_len (w : WC) (h : Hp) : (wsH w h).length = h.1.length := by simp [wsH]
theorem wsH_D (w : WC) (h : Hp) : va_D (Ab w) (wsH w h) := by
  have key : ∀ (k : Nat) (q : Nat × va_E), (wsH w h)[k]? = some q → q.1 = w.1 + k := by
    intro k q hk
    have hl : k < h.1.length := by rw [← wsH_len w h]; exact (List.getElem?_eq_some_iff.mp hk).1
    unfold wsH at hk
    rw [List.getElem?_map, List.getElem?_range hl] at hk
    cases hk
    rfl
  refine ⟨fun i j p q hi hj hpq => ?_, fun k q hk => ?_⟩
  · have h1 := key i p hi
    have h2 := key j q hj
    omega
  · have h1 := key k q hk
    show w.1 ≤ q.1
    omega
theorem wsH_set {w : WC} {h h' : Hp} {a : Nat} {s : Sh} (hs : h.1[a]? = some s) (h1 : h'.1 = h.1) (ho : ∀ b s', b ≠ a → cel w h' b s' = cel w h b s') : (wsH w h).set a (w.1 + a, cel w h' a s) = wsH w h' := by
  have hl := (List.getElem?_eq_some_iff.mp hs).1
  apply List.ext_getElem?
  intro k
  by_cases hk : k = a
  · subst hk
    rw [List.getElem?_set_self (by rw [wsH_len]; exact hl), wsH_get (h := h') (s := s) (by rw [h1]; exact hs)]
  · rw [List.getElem?_set_ne (Ne.symm hk)]
    by_cases hkl : k < h.1.length
    · have e : h.1[k]? = some h.1[k] := List.getElem?_eq_getElem hkl
      rw [wsH_get e, wsH_get (h := h') (s := h.1[k]) (by rw [h1]; exact e), ho k _ hk]
    · rw [List.getElem?_eq_none (by rw [wsH_len]; omega), List.getElem?_eq_none (by rw [wsH_len, h1]; omega)]
theorem cel_push {w : WC} {h : Hp} {h' : Hp} {a : Nat} (hd : h'.2.1 a = h.2.1 a) (he : h'.2.2.1 a = h.2.2.1 a) (hr : h'.2.2.2 a = h.2.2.2 a) (s : Sh) : cel w h' a s = cel w h a s := by
  cases s with
  | inl q => simp only [cel, cfa, hd, he, hr]
  | inr ci => simp only [cel, cfv, hd, hr]
theorem wsH_app {w : WC} {h h' : Hp} {l : List Sh} (h1 : h'.1 = h.1 ++ l) (ho : ∀ b s', b < h.1.length → cel w h' b s' = cel w h b s') :
    wsH w h' = wsH w h ++ (List.range l.length).map (fun j => (w.1 + (h.1.length + j), cel w h' (h.1.length + j) (l.getD j (.inr 0)))) := by
  apply List.ext_getElem?
  intro k
  by_cases hk : k < h.1.length
  · rw [List.getElem?_append_left (by rw [wsH_len]; exact hk)]
    have e : h.1[k]? = some h.1[k] := List.getElem?_eq_getElem hk
    rw [wsH_get e, wsH_get (h := h') (s := h.1[k]) (by rw [h1, List.getElem?_append_left hk]; exact e), ho k _ hk]
  · rw [List.getElem?_append_right (by rw [wsH_len]; omega), wsH_len]
    by_cases hk2 : k - h.1.length < l.length
    · have e : h'.1[k]? = some (l.getD (k - h.1.length) (.inr 0)) := by
        rw [h1, List.getElem?_append_right (by omega), List.getD_eq_getElem?_getD, List.getElem?_eq_getElem hk2]
        rfl
      rw [wsH_get e, List.getElem?_map, List.getElem?_range hk2]
      simp only [Option.map_some]
      rw [show h.1.length + (k - h.1.length) = k by omega]
    · rw [List.getElem?_eq_none (by rw [wsH_len, h1, List.length_append]; omega), List.getElem?_eq_none (by simp; omega)]
/-- arrays over an array type stand in the tables -/
def vz_AOA (t : FieldType) (U : State) : Prop := (Jvm.Cond.arrayOver (.array t)).before #[] U = true
theorem vz_AOA.moved {t : FieldType} {u U : State} (hvm : u.vm.Alike U.vm) (h : vz_AOA t u) : vz_AOA t U := by
  obtain ⟨comp, c, k, h1, h2, h3, h4, h5⟩ := arrayOverA_spec h
  obtain ⟨k', hk', he⟩ := hvm.2.2 _ _ h3
  have hi : (U.vm.classes.findIdx? fun (x : Class) => match x.kind with | .array component _ => component == comp | _ => false) = some c := by
    rw [hvm.findIdx?_eq _ (fun _ => rfl)]
    exact h2
  have hkind : k'.kind = .array comp (.array t) := by rw [he]; exact h4
  have f1 : U.vm.findClass (FieldType.array t).toString = some comp := by rw [hvm.findClass]; exact h1
  have f2 : U.vm.findClass ("[" ++ (FieldType.array t).toString) = some c := by rw [hvm.findClass]; exact h5
  unfold vz_AOA Jvm.Cond.before Jvm.Cond.holds
  simp only [Jvm.Cond.value]
  rw [f1, Option.bind_some]
  refine (congrArg (fun o : Option Nat => (o.bind (fun c => (U.vm.classes[c]?).map fun (k : Class) => match k.kind with | .array _ ty => decide (ty = FieldType.array t) && decide (U.vm.findClass ("[" ++ (FieldType.array t).toString) = some c) | _ => false) == some true)) hi).trans ?_
  simp [hk', hkind, f2]
/-- the old cells: the script, the two tables, the texts, some statics -/
def OldW (w : WC) (s : State) : Prop :=
  va_X (w.2.2.2.1 0) w.2.2.2.2.2.1 w.2.2.2.2.2.2 s s.heap ∧ w.2.2.2.1 0 < w.1 ∧ w.1 ≤ s.heap.size ∧
  va_T .int (w.2.2.2.1 1) 7 (fun j => .int (aboveL.getD j 0)) (Ab w) s s.heap ∧ va_T .int (w.2.2.2.1 2) 21 (fun j => .int (bodiesL.getD j 0)) (Ab w) s s.heap ∧
  va_Z "PastCatchers" "ABOVE" "[I" (.ref (w.2.2.2.1 1)) (Ab w) s s.heap ∧ va_Z "PastCatchers$Acts" "BODIES" "[I" (.ref (w.2.2.2.1 2)) (Ab w) s s.heap ∧
  va_Z "java/lang/String" "COMPACT_STRINGS" "Z" (.int 1) (Ab w) s s.heap ∧ va_Z "jdk/internal/util/Preconditions" "SIOOBE_FORMATTER" "Ljava/util/function/BiFunction;" w.2.2.2.2.1 (Ab w) s s.heap ∧
  vk_S 5 strL strB (fun i => w.2.2.2.1 (3 + i)) (fun i => w.2.2.2.1 (8 + i)) (Ab w) s s.heap ∧
  (∀ j, j < 5 → vk_R RX4 (idxS j) (txS j) (w.2.2.2.1 (3 + j)) s) ∧ va_AO RX5 s ∧ vz_AOA .long s ∧ (w.2.2.2.2.1 = .null ∨ ∃ t, w.2.2.2.2.1 = .ref t)
def NestW (s : State) : Prop := ∀ q ∈ NEST, va_Nw q s
theorem NestW.warm {s U : State} (hW : s.WarmedH U.vm) (h : NestW s) : NestW U := by
  intro q hq
  have h1 := h q hq
  have h2 := (List.mem_filter.mp hq).2
  cases q with
  | fieldLinkNest a i b n d x => exact va_Nw.warmF hW h1
  | methodLinkNest a i x hh => exact va_Nw.warmM hW h1
  | _ => cases h2
theorem NestW.same {u U : State} (e : u.vm = U.vm) (h : NestW u) : NestW U := by
  intro q hq
  have h1 := h q hq
  have h2 := (List.mem_filter.mp hq).2
  cases q with
  | fieldLinkNest a i b n d x => exact va_Nw.same rfl e h1
  | methodLinkNest a i x hh => exact va_Nw.same rfl e h1
  | _ => cases h2
/-- into a callee: the heap has gone on, the tables are warm -/
theorem OldW.to {w : WC} {s U : State} {H : Heap} {locs : List Loc} (h : OldW w s) (hS : va_S (Ab w) s.heap H locs) (hU : U.heap = H) (hW : s.WarmedH U.vm) : OldW w U := by
  obtain ⟨hX, hb, hz, hT1, hT2, hZ1, hZ2, hZ3, hZ4, hK, hR, hA, hAA, hq⟩ := h
  have hk : ∀ a : Nat, a < s.heap.size → ¬ Ab w a → U.heap[a]? = s.heap[a]? := fun a h1 h2 => by rw [hU]; exact hS.2.1 a h1 h2
  refine ⟨(hX.moved hW.alike).kept (hk _ (by omega) (by show ¬ w.1 ≤ _; omega)), hb, ?_, (hT1.moved hW.alike).kept hk, (hT2.moved hW.alike).kept hk, (hZ1.moved hW.alike).kept hk, (hZ2.moved hW.alike).kept hk, (hZ3.moved hW.alike).kept hk, (hZ4.moved hW.alike).kept hk, (hK.moved hW.alike).kept hk, fun j hj => (hR j hj).warm hW, hA.moved hW.alike, hAA.moved hW.alike, hq⟩
  rw [hU]
  exact Nat.le_trans hz hS.1
theorem OldW.same {w : WC} {u U : State} (h : OldW w u) (e : U.vm = u.vm) (eh : U.heap = u.heap) : OldW w U := by
  obtain ⟨hX, hb, hz, hT1, hT2, hZ1, hZ2, hZ3, hZ4, hK, hR, hA, hAA, hq⟩ := h
  have ha : u.vm.Alike U.vm := by rw [e]; exact Vm.Alike.refl _
  rw [← eh] at hX hT1 hT2 hZ1 hZ2 hZ3 hZ4 hK
  exact ⟨hX.moved ha, hb, by rw [eh]; exact hz, hT1.moved ha, hT2.moved ha, hZ1.moved ha, hZ2.moved ha, hZ3.moved ha, hZ4.moved ha, hK.moved ha, fun j hj => (hR j hj).same e, hA.moved ha, hAA.moved ha, hq⟩
end
section
/-! The pure step is the machine's: instructions on locals, stack and numbers. -/
def isJunk : Value → Bool
  | .retAddr _ => true
  | _ => false
def asL (w : WC) (L : List Value) : List (Nat × Value) := L.zipIdx.filterMap (fun q => if isJunk q.1 = true then none else some (q.2, tr w q.1))
theorem asL_mem {w : WC} {L : List Value} {i : Nat} {v : Value} : (i, v) ∈ asL w L ↔ ∃ u, L[i]? = some u ∧ isJunk u = false ∧ v = tr w u := by
  unfold asL
  rw [List.mem_filterMap]
  constructor
  · rintro ⟨⟨u, j⟩, hm, h⟩
    have hm := List.mem_zipIdx_iff_getElem?.mp hm
    by_cases hj : isJunk u = true
    · simp [hj] at h
    · simp only [hj] at h
      cases h
      exact ⟨u, hm, by simpa using hj, rfl⟩
  · rintro ⟨u, hu, hj, rfl⟩
    exact ⟨(u, i), List.mem_zipIdx_iff_getElem?.mpr hu, by simp [hj]⟩
theorem lv_mono {ls : Array Slot} {nL : Nat} {l l' : List (Nat × Value)} (h : lv_has ls nL l) (hs : ∀ q ∈ l', q ∈ l) : lv_has ls nL l' := ⟨h.1, h.2.1, fun q hq => h.2.2 q (hs q hq)⟩
theorem asL_at {w : WC} {ls : Array Slot} {nL : Nat} {L : List Value} {i : Nat} {u : Value} (h : lv_has ls nL (asL w L)) (hu : L[i]? = some u) (hj : isJunk u = false) : ls[i]? = some (.val (tr w u)) :=
  h.2.2 (i, tr w u) (asL_mem.mpr ⟨u, hu, hj, rfl⟩)
theorem tr_cat {w : WC} (hz : w.2.2.2.2.1.category = 1) (v : Value) : (tr w v).category = v.category := by
  cases v with
  | ref n =>
    simp only [tr]
    split
    · rw [hz]; rfl
    · rfl
  | _ => rfl
theorem asL_set {w : WC} (hz : w.2.2.2.2.1.category = 1) {L : List Value} {k : Nat} {v : Value} (hok : okSt L k = true) :
    ∀ q ∈ asL w (L.set k v), q ∈ (k, tr w v) :: (asL w L).filter (fun q => !(q.1 == k) && !(q.1 + 1 == k && q.2.category == 2)) := by
  rintro ⟨i, x⟩ hq
  obtain ⟨u, hu, hj, rfl⟩ := asL_mem.mp hq
  by_cases hi : i = k
  · subst hi
    rw [List.getElem?_set_self'] at hu
    cases hl : L[i]? with
    | none => rw [hl] at hu; cases hu
    | some z => rw [hl] at hu; cases hu; exact List.mem_cons_self
  · rw [List.getElem?_set_ne (Ne.symm hi)] at hu
    refine List.mem_cons_of_mem _ (List.mem_filter.mpr ⟨asL_mem.mpr ⟨u, hu, hj, rfl⟩, ?_⟩)
    have h1 : (i == k) = false := by simpa using hi
    rw [h1]
    by_cases h2 : i + 1 = k
    · subst h2
      simp only [okSt, hu] at hok
      have hc : u.category = 1 := by simpa using hok
      simp [tr_cat hz, hc]
    · have h3 : (i + 1 == k) = false := by simpa using h2
      rw [h3]
      rfl
theorem asL_set2 {w : WC} (hz : w.2.2.2.2.1.category = 1) {L : List Value} {k : Nat} {x : Int64} (hok : okSt L k = true) :
    ∀ q ∈ asL w ((L.set k (.long x)).set (k + 1) (.retAddr 0)), q ∈ (k, .long x) :: (asL w L).filter (fun q => !(q.1 == k) && (!(q.1 == k + 1) && !(q.1 + 1 == k && q.2.category == 2))) := by
  rintro ⟨i, y⟩ hq
  obtain ⟨u, hu, hj, rfl⟩ := asL_mem.mp hq
  by_cases hk1 : i = k + 1
  · subst hk1
    rw [List.getElem?_set_self'] at hu
    cases hl : (L.set k (.long x))[k + 1]? with
    | none => rw [hl] at hu; cases hu
    | some z => rw [hl] at hu; cases hu; cases hj
  · rw [List.getElem?_set_ne (Ne.symm hk1)] at hu
    have h := asL_set hz (v := .long x) hok (i, tr w u) (asL_mem.mpr ⟨u, hu, hj, rfl⟩)
    rcases List.mem_cons.mp h with h | h
    · rw [h]; exact List.mem_cons_self
    · obtain ⟨h1, h2⟩ := List.mem_filter.mp h
      refine List.mem_cons_of_mem _ (List.mem_filter.mpr ⟨h1, ?_⟩)
      have h3 : (i == k + 1) = false := by simpa using hk1
      simp only [h3] at h2 ⊢
      simpa using h2
theorem dl {cc : ByteArray} {pc len n : Nat} {i : Instr} (hdec : decode cc pc = .ok (i, len)) (hlen : ilen i = 0 ∨ ilen i = len) (h : ilen i = n + 1) : decode cc pc = .ok (i, n + 1) := by
  rcases hlen with h0 | h0
  · rw [h0] at h; cases h
  · rw [hdec, ← h0, h]
theorem jump_eq {pc t : Nat} {off : Int} (h : jump pc off = some t) : (pc : Int) + off = (t : Int) := by
  unfold jump at h
  split at h
  · cases h; omega
  · cases h
section INV
variable {α : Type} {st : List Value} {r : α}
theorem inv_i {f : Int32 → List Value → Option α} (h : (match st with | .int x :: st => f x st | _ => none) = some r) : ∃ x st', st = .int x :: st' ∧ f x st' = some r := by
  split at h
  · exact ⟨_, _, rfl, h⟩
  · cases h
theorem inv_ii {f : Int32 → Int32 → List Value → Option α} (h : (match st with | .int y :: .int x :: st => f y x st | _ => none) = some r) : ∃ y x st', st = .int y :: .int x :: st' ∧ f y x st' = some r := by
  split at h
  · exact ⟨_, _, _, rfl, h⟩
  · cases h
theorem inv_l {f : Int64 → List Value → Option α} (h : (match st with | .long x :: st => f x st | _ => none) = some r) : ∃ x st', st = .long x :: st' ∧ f x st' = some r := by
  split at h
  · exact ⟨_, _, rfl, h⟩
  · cases h
theorem inv_ll {f : Int64 → Int64 → List Value → Option α} (h : (match st with | .long y :: .long x :: st => f y x st | _ => none) = some r) : ∃ y x st', st = .long y :: .long x :: st' ∧ f y x st' = some r := by
  split at h
  · exact ⟨_, _, _, rfl, h⟩
  · cases h
theorem inv_il {f : Int32 → Int64 → List Value → Option α} (h : (match st with | .int y :: .long x :: st => f y x st | _ => none) = some r) : ∃ y x st', st = .int y :: .long x :: st' ∧ f y x st' = some r := by
  split at h
  · exact ⟨_, _, _, rfl, h⟩
  · cases h
theorem inv_r {f : Nat → List Value → Option α} (h : (match st with | .ref x :: st => f x st | _ => none) = some r) : ∃ x st', st = .ref x :: st' ∧ f x st' = some r := by
  split at h
  · exact ⟨_, _, rfl, h⟩
  · cases h
theorem inv_v {f : Value → List Value → Option α} (h : (match st with | x :: st => f x st | _ => none) = some r) : ∃ x st', st = x :: st' ∧ f x st' = some r := by
  split at h
  · exact ⟨_, _, rfl, h⟩
  · cases h
theorem inv_vv {f : Value → Value → List Value → Option α} (h : (match st with | x :: y :: st => f x y st | _ => none) = some r) : ∃ x y st', st = x :: y :: st' ∧ f x y st' = some r := by
  split at h
  · exact ⟨_, _, _, rfl, h⟩
  · cases h
theorem inv_oi {o : Option Value} {f : Int32 → Option α} (h : (match o with | some (.int x) => f x | _ => none) = some r) : ∃ x, o = some (.int x) ∧ f x = some r := by
  split at h
  · exact ⟨_, rfl, h⟩
  · cases h
theorem inv_ol {o : Option Value} {f : Int64 → Option α} (h : (match o with | some (.long x) => f x | _ => none) = some r) : ∃ x, o = some (.long x) ∧ f x = some r := by
  split at h
  · exact ⟨_, rfl, h⟩
  · cases h
theorem inv_or {o : Option Value} {f : Nat → Option α} (h : (match o with | some (.ref x) => f x | _ => none) = some r) : ∃ x, o = some (.ref x) ∧ f x = some r := by
  split at h
  · exact ⟨_, rfl, h⟩
  · cases h
theorem inv_if {c : Prop} [Decidable c] {a : Option α} (h : (if c then a else none) = some r) : c ∧ a = some r := by
  by_cases hc : c
  · rw [if_pos hc] at h; exact ⟨hc, h⟩
  · rw [if_neg hc] at h; cases h
theorem inv_ifn {c : Prop} [Decidable c] {a : Option α} (h : (if c then none else a) = some r) : ¬ c ∧ a = some r := by
  by_cases hc : c
  · rw [if_pos hc] at h; cases h
  · rw [if_neg hc] at h; exact ⟨hc, h⟩
end INV
theorem bif_t {b : Bool} {α : Type} {x y : α} (h : b = true) : (if b = true then x else y) = x := if_pos h
theorem bif_f {b : Bool} {α : Type} {x y : α} (h : ¬ b = true) : (if b = true then x else y) = y := if_neg h
end
section
/-- the facts of one method that its instructions stand on -/
def MC (w : WC) (p : Program) (s : State) (m : MethodId) (args : Array Value) (meth : Method) (c : Code) (y : Nat) : Prop :=
  p.tables.exec = Jvm.exec ∧ c.code = mBytes y ∧ meth.sig.returnType = mRet y ∧ meth.locks = false ∧ c.maxLocals = mMaxL y ∧ s.vm.findClass (mName y).cls = some m.cls ∧ ((mName y).name = "<init>" → meth.name = "<init>") ∧
  (∀ q ∈ BIGG, q.before args s = true) ∧ NestW s ∧ va_K w.2.1 vwCl (tysW w) s ∧ OldW w s
theorem OldW.zc {w : WC} {s : State} (h : OldW w s) : w.2.2.2.2.1.category = 1 := by
  rcases h.2.2.2.2.2.2.2.2.2.2.2.2.2 with e | ⟨t, e⟩ <;> rw [e] <;> rfl
section PS
variable {w : WC} {p : Program} {l : Launch} {e : Env} {R : Room} {s : State} {m : MethodId} {args : Array Value} {below : List Frame} {meth : Method} {c : Code} {H : Heap} {locs : List Loc} {cells slots : Nat} {Q : State → Prop}
variable {y pc len : Nat} {L st L' st' : List Value} {i : Instr} {o : List Nat} {pc' : Nat} {ls : Array Slot}
set_option maxHeartbeats 4000000 in
theorem ps_sound (M : MC w p s m args meth c y) (hdec : decode (mBytes y) pc = .ok (i, len)) (hlen : ilen i = 0 ∨ ilen i = len) (hlk : lnkE y i o = true) (hl : lv_has ls (mMaxL y) (asL w L)) (hL : L.length = mMaxL y) (hps : pstep i o pc L st = some (pc', L', st'))
    (kk : ∀ ls', lv_has ls' (mMaxL y) (asL w L') → L'.length = mMaxL y → W p l e R s m args below meth c H locs cells slots Q (F0 m pc' ls' (st'.map (tr w)))) : W p l e R s m args below meth c H locs cells slots Q (F0 m pc ls (st.map (tr w))) := by
  obtain ⟨hx, hb, -, -, -, hown, -, hts, -, -, hO⟩ := M
  have hz := hO.zc
  cases i with
  | iconst k =>
    cases (show some (pc + 1, L, Value.int (Int32.ofInt k) :: st) = some (pc', L', st') from hps)
    exact lv_iconst hx hb (dl hdec hlen rfl) rfl (kk ls hl hL)
  | bipush k =>
    cases (show some (pc + 2, L, Value.int (Int8.ofInt k).toInt32 :: st) = some (pc', L', st') from hps)
    exact lv_bipush hx hb (dl hdec hlen rfl) rfl (kk ls hl hL)
  | sipush k =>
    cases (show some (pc + 3, L, Value.int (Int16.ofInt k).toInt32 :: st) = some (pc', L', st') from hps)
    exact lv_sipush hx hb (dl hdec hlen rfl) rfl (kk ls hl hL)
  | lconst k =>
    cases (show some (pc + 1, L, Value.long (Int64.ofNat (k : Nat)) :: st) = some (pc', L', st') from hps)
    exact lv_lconst hx hb (dl hdec hlen rfl) rfl (kk ls hl hL)
  | ldc k =>
    simp only [pstep] at hps
    split at hps
    · rename_i v pl
      cases hps
      exact W.ldc hx hb hown (hts _ (linkOK_in hlk)) rfl (dl hdec hlen rfl) (kk ls hl hL)
    · rename_i j pl
      obtain ⟨hj, hps⟩ := inv_if hps
      cases hps
      simp only [lnkE, Bool.and_eq_true, decide_eq_true_eq] at hlk
      obtain ⟨hc, hi⟩ := hlk
      subst hi
      have h3 := hO.2.2.2.2.2.2.2.2.2.2.1 j hj
      refine va_ldcS hx hb (own := RX4) (by rw [← hc]; exact hown) h3 (dl hdec hlen rfl) ?_
      have e : tr w (.ref (OLDB + 3 + j)) = .ref (w.2.2.2.1 (3 + j)) := by
        have hB := OLDB_eq
        have e1 : ¬ (OLDB + 3 + j = OLDB + 13) := by omega
        have e2 : ¬ (OLDB + 3 + j < OLDB) := by omega
        have e3 : OLDB + 3 + j - OLDB = 3 + j := by omega
        show (if OLDB + 3 + j = OLDB + 13 then w.2.2.2.2.1 else Value.ref (if OLDB + 3 + j < OLDB then w.1 + (OLDB + 3 + j) else w.2.2.2.1 (OLDB + 3 + j - OLDB))) = _
        rw [if_neg e1, if_neg e2, e3]
      rw [← e]
      exact kk ls hl hL
    · cases hps
  | ldc_w k =>
    simp only [pstep] at hps
    split at hps
    · rename_i v pl
      cases hps
      exact lv_ldcw hx hb hown (hts _ (linkOK_in hlk)) (dl hdec hlen rfl) (kk ls hl hL)
    · cases hps
  | ldc2_w k =>
    simp only [pstep] at hps
    split at hps
    · rename_i v pl
      cases hps
      exact lv_ldc2 hx hb hown (hts _ (linkOK_in hlk)) (dl hdec hlen rfl) (kk ls hl hL)
    · cases hps
  | iload k =>
    obtain ⟨x, hk, hps⟩ := inv_oi hps
    cases hps
    exact lv_iload hx hb (dl hdec hlen rfl) (asL_at hl hk rfl) (kk ls hl hL)
  | iload_n k =>
    obtain ⟨x, hk, hps⟩ := inv_oi hps
    cases hps
    exact lv_iload_n hx hb (dl hdec hlen rfl) rfl (asL_at hl hk rfl) (kk ls hl hL)
  | lload k =>
    obtain ⟨x, hk, hps⟩ := inv_ol hps
    cases hps
    exact lv_lload hx hb (dl hdec hlen rfl) (asL_at hl hk rfl) (kk ls hl hL)
  | lload_n k =>
    obtain ⟨x, hk, hps⟩ := inv_ol hps
    cases hps
    exact lv_lload_n hx hb (dl hdec hlen rfl) rfl (asL_at hl hk rfl) (kk ls hl hL)
  | aload k =>
    obtain ⟨x, hk, hps⟩ := inv_or hps
    obtain ⟨hn, hps⟩ := inv_ifn hps
    cases hps
    have e : tr w (.ref x) = .ref (wfi w x) := if_neg hn
    have h1 := asL_at hl hk rfl
    rw [e] at h1
    refine lv_aload hx hb (dl hdec hlen rfl) h1 ?_
    rw [← e]
    exact kk ls hl hL
  | aload_n k =>
    obtain ⟨x, hk, hps⟩ := inv_or hps
    obtain ⟨hn, hps⟩ := inv_ifn hps
    cases hps
    have e : tr w (.ref x) = .ref (wfi w x) := if_neg hn
    have h1 := asL_at hl hk rfl
    rw [e] at h1
    refine lv_aload_n hx hb (dl hdec hlen rfl) rfl h1 ?_
    rw [← e]
    exact kk ls hl hL
  | istore k =>
    obtain ⟨x, st1, rfl, hps⟩ := inv_i hps
    obtain ⟨hk, hps⟩ := inv_if hps
    cases hps
    exact lv_istore hx hb (dl hdec hlen rfl) hl (by rw [← hL]; exact hk.1) rfl (fun ls' h' => kk ls' (lv_mono h' (asL_set hz hk.2)) (by simp [hL]))
  | istore_n k =>
    obtain ⟨x, st1, rfl, hps⟩ := inv_i hps
    obtain ⟨hk, hps⟩ := inv_if hps
    cases hps
    exact lv_istore_n hx hb (dl hdec hlen rfl) rfl hl (by rw [← hL]; exact hk.1) rfl (fun ls' h' => kk ls' (lv_mono h' (asL_set hz hk.2)) (by simp [hL]))
  | lstore k =>
    obtain ⟨x, st1, rfl, hps⟩ := inv_l hps
    obtain ⟨hk, hps⟩ := inv_if hps
    cases hps
    exact lv_lstore hx hb (dl hdec hlen rfl) hl (by rw [← hL]; exact hk.1) rfl (fun ls' h' => kk ls' (lv_mono h' (asL_set2 hz hk.2)) (by simp [hL]))
  | lstore_n k =>
    obtain ⟨x, st1, rfl, hps⟩ := inv_l hps
    obtain ⟨hk, hps⟩ := inv_if hps
    cases hps
    exact lv_lstore_n hx hb (dl hdec hlen rfl) rfl hl (by rw [← hL]; exact hk.1) rfl (fun ls' h' => kk ls' (lv_mono h' (asL_set2 hz hk.2)) (by simp [hL]))
  | astore_n k =>
    obtain ⟨x, st1, rfl, hps⟩ := inv_r hps
    obtain ⟨hk, hps⟩ := inv_if hps
    cases hps
    have ee : tr w (.ref x) = .ref (wfi w x) := if_neg hk.2.2
    show W p l e R s m args below meth c H locs cells slots Q (F0 m pc ls (tr w (.ref x) :: st'.map (tr w)))
    rw [ee]
    exact lv_astore_n hx hb (dl hdec hlen rfl) rfl hl (by rw [← hL]; exact hk.1) rfl (fun ls' h' => kk ls' (lv_mono h' (by rw [← ee]; exact asL_set hz hk.2.1)) (by simp [hL]))
  | iinc k n =>
    obtain ⟨x, hk, hps⟩ := inv_oi hps
    obtain ⟨hok, hps⟩ := inv_if hps
    cases hps
    obtain ⟨q, hq⟩ := List.getElem?_of_mem (asL_mem.mpr ⟨_, hk, rfl, rfl⟩ : (k, tr w (.int x)) ∈ asL w L)
    exact lv_iinc hx hb (dl hdec hlen rfl) hl hq rfl (by rw [← hL]; exact (List.getElem?_eq_some_iff.mp hk).1) rfl (fun ls' h' => kk ls' (lv_mono h' (asL_set hz hok)) (by simp [hL]))
  | iadd =>
    obtain ⟨y1, x1, st1, rfl, hps⟩ := inv_ii hps
    cases hps
    exact lv_iadd hx hb (dl hdec hlen rfl) (kk ls hl hL)
  | isub =>
    obtain ⟨y1, x1, st1, rfl, hps⟩ := inv_ii hps
    cases hps
    exact lv_isub hx hb (dl hdec hlen rfl) (kk ls hl hL)
  | imul =>
    obtain ⟨y1, x1, st1, rfl, hps⟩ := inv_ii hps
    cases hps
    exact lv_imul hx hb (dl hdec hlen rfl) (kk ls hl hL)
  | idiv =>
    obtain ⟨y1, x1, st1, rfl, hps⟩ := inv_ii hps
    obtain ⟨hn, hps⟩ := inv_ifn hps
    cases hps
    exact lv_idiv hx hb (dl hdec hlen rfl) hn (kk ls hl hL)
  | irem =>
    obtain ⟨y1, x1, st1, rfl, hps⟩ := inv_ii hps
    obtain ⟨hn, hps⟩ := inv_ifn hps
    cases hps
    exact lv_irem hx hb (dl hdec hlen rfl) hn (kk ls hl hL)
  | ineg =>
    obtain ⟨x1, st1, rfl, hps⟩ := inv_i hps
    cases hps
    exact lv_ineg hx hb (dl hdec hlen rfl) (kk ls hl hL)
  | iand =>
    obtain ⟨y1, x1, st1, rfl, hps⟩ := inv_ii hps
    cases hps
    exact lv_iand hx hb (dl hdec hlen rfl) (kk ls hl hL)
  | ior =>
    obtain ⟨y1, x1, st1, rfl, hps⟩ := inv_ii hps
    cases hps
    exact lv_ior hx hb (dl hdec hlen rfl) (kk ls hl hL)
  | ixor =>
    obtain ⟨y1, x1, st1, rfl, hps⟩ := inv_ii hps
    cases hps
    exact lv_ixor hx hb (dl hdec hlen rfl) (kk ls hl hL)
  | ishl =>
    obtain ⟨y1, x1, st1, rfl, hps⟩ := inv_ii hps
    cases hps
    exact lv_ishl hx hb (dl hdec hlen rfl) (kk ls hl hL)
  | ishr =>
    obtain ⟨y1, x1, st1, rfl, hps⟩ := inv_ii hps
    cases hps
    exact lv_ishr hx hb (dl hdec hlen rfl) (kk ls hl hL)
  | iushr =>
    obtain ⟨y1, x1, st1, rfl, hps⟩ := inv_ii hps
    cases hps
    exact lv_iushr hx hb (dl hdec hlen rfl) rfl (kk ls hl hL)
  | ladd =>
    obtain ⟨y1, x1, st1, rfl, hps⟩ := inv_ll hps
    cases hps
    exact lv_ladd hx hb (dl hdec hlen rfl) (kk ls hl hL)
  | lsub =>
    obtain ⟨y1, x1, st1, rfl, hps⟩ := inv_ll hps
    cases hps
    exact lv_lsub hx hb (dl hdec hlen rfl) (kk ls hl hL)
  | land =>
    obtain ⟨y1, x1, st1, rfl, hps⟩ := inv_ll hps
    cases hps
    exact lv_land hx hb (dl hdec hlen rfl) (kk ls hl hL)
  | lor =>
    obtain ⟨y1, x1, st1, rfl, hps⟩ := inv_ll hps
    cases hps
    exact lv_lor hx hb (dl hdec hlen rfl) (kk ls hl hL)
  | lxor =>
    obtain ⟨y1, x1, st1, rfl, hps⟩ := inv_ll hps
    cases hps
    exact lv_lxor hx hb (dl hdec hlen rfl) (kk ls hl hL)
  | lshl =>
    obtain ⟨y1, x1, st1, rfl, hps⟩ := inv_il hps
    cases hps
    exact lv_lshl hx hb (dl hdec hlen rfl) rfl (kk ls hl hL)
  | lshr =>
    obtain ⟨y1, x1, st1, rfl, hps⟩ := inv_il hps
    cases hps
    exact lv_lshr hx hb (dl hdec hlen rfl) rfl (kk ls hl hL)
  | lcmp =>
    obtain ⟨y1, x1, st1, rfl, hps⟩ := inv_ll hps
    cases hps
    exact W.lcmp hx hb (dl hdec hlen rfl) (kk ls hl hL)
  | i2l =>
    obtain ⟨x1, st1, rfl, hps⟩ := inv_i hps
    cases hps
    exact lv_i2l hx hb (dl hdec hlen rfl) rfl (kk ls hl hL)
  | l2i =>
    obtain ⟨x1, st1, rfl, hps⟩ := inv_l hps
    cases hps
    exact lv_l2i hx hb (dl hdec hlen rfl) rfl (kk ls hl hL)
  | i2b =>
    obtain ⟨x1, st1, rfl, hps⟩ := inv_i hps
    cases hps
    exact lv_i2b hx hb (dl hdec hlen rfl) rfl (kk ls hl hL)
  | i2s =>
    obtain ⟨x1, st1, rfl, hps⟩ := inv_i hps
    cases hps
    exact lv_i2s hx hb (dl hdec hlen rfl) rfl (kk ls hl hL)
  | i2c =>
    obtain ⟨x1, st1, rfl, hps⟩ := inv_i hps
    cases hps
    exact lv_i2c hx hb (dl hdec hlen rfl) rfl (kk ls hl hL)
  | dup =>
    obtain ⟨v1, st1, rfl, hps⟩ := inv_v hps
    obtain ⟨hc, hps⟩ := inv_if hps
    cases hps
    exact lv_dup hx hb (dl hdec hlen rfl) (by rw [tr_cat hz]; exact hc) (kk ls hl hL)
  | pop =>
    obtain ⟨v1, st1, rfl, hps⟩ := inv_v hps
    obtain ⟨hc, hps⟩ := inv_if hps
    cases hps
    exact lv_pop hx hb (dl hdec hlen rfl) (by rw [tr_cat hz]; exact hc) (kk ls hl hL)
  | dup2 =>
    obtain ⟨v1, v2, st1, rfl, hps⟩ := inv_vv hps
    obtain ⟨hc, hps⟩ := inv_if hps
    cases hps
    exact lv_dup2_11 hx hb (dl hdec hlen rfl) (by rw [tr_cat hz]; exact hc.1) (by rw [tr_cat hz]; exact hc.2) (kk ls hl hL)
  | pop2 =>
    obtain ⟨v1, st1, rfl, hps⟩ := inv_v hps
    obtain ⟨hc, hps⟩ := inv_if hps
    cases hps
    exact lv_pop2_2 hx hb (dl hdec hlen rfl) (by rw [tr_cat hz]; exact hc) (kk ls hl hL)
  | ifCond q off =>
    obtain ⟨x1, st1, rfl, hps⟩ := inv_i hps
    obtain ⟨t, ht, hps⟩ := Option.map_eq_some_iff.mp hps
    have hj := jump_eq ht
    cases q
    · cases hps
      exact lv_if_eq hx hb (dl hdec hlen rfl) hj (fun h => by have := kk ls hl hL; rwa [bif_t (by simpa [condB] using h)] at this) (fun h => by have := kk ls hl hL; rwa [bif_f (by simpa [condB] using h)] at this)
    · cases hps
      exact lv_if_ne hx hb (dl hdec hlen rfl) hj (fun h => by have := kk ls hl hL; rwa [bif_t (by simpa [condB] using h)] at this) (fun h => by have := kk ls hl hL; rwa [bif_f (by simpa [condB] using h)] at this)
    · cases hps
      exact lv_if_lt hx hb (dl hdec hlen rfl) hj (fun h => by have := kk ls hl hL; rwa [bif_t (by simpa [condB] using h)] at this) (fun h => by have := kk ls hl hL; rwa [bif_f (by simpa [condB] using h)] at this)
    · cases hps
      exact lv_if_ge hx hb (dl hdec hlen rfl) hj (fun h => by have := kk ls hl hL; rwa [bif_t (by simpa [condB] using h)] at this) (fun h => by have := kk ls hl hL; rwa [bif_f (by simpa [condB] using h)] at this)
    · cases hps
      exact lv_if_gt hx hb (dl hdec hlen rfl) hj (fun h => by have := kk ls hl hL; rwa [bif_t (by simpa [condB] using h)] at this) (fun h => by have := kk ls hl hL; rwa [bif_f (by simpa [condB] using h)] at this)
    · cases hps
      exact lv_if_le hx hb (dl hdec hlen rfl) hj (fun h => by have := kk ls hl hL; rwa [bif_t (by simpa [condB] using h)] at this) (fun h => by have := kk ls hl hL; rwa [bif_f (by simpa [condB] using h)] at this)
  | if_icmp q off =>
    obtain ⟨y1, x1, st1, rfl, hps⟩ := inv_ii hps
    obtain ⟨t, ht, hps⟩ := Option.map_eq_some_iff.mp hps
    have hj := jump_eq ht
    cases q
    · cases hps
      exact lv_icmp_eq hx hb (dl hdec hlen rfl) hj (fun h => by have := kk ls hl hL; rwa [bif_t (by simpa [condB] using h)] at this) (fun h => by have := kk ls hl hL; rwa [bif_f (by simpa [condB] using h)] at this)
    · cases hps
      exact lv_icmp_ne hx hb (dl hdec hlen rfl) hj (fun h => by have := kk ls hl hL; rwa [bif_t (by simpa [condB] using h)] at this) (fun h => by have := kk ls hl hL; rwa [bif_f (by simpa [condB] using h)] at this)
    · cases hps
      exact lv_icmp_lt hx hb (dl hdec hlen rfl) hj (fun h => by have := kk ls hl hL; rwa [bif_t (by simpa [condB] using h)] at this) (fun h => by have := kk ls hl hL; rwa [bif_f (by simpa [condB] using h)] at this)
    · cases hps
      exact lv_icmp_ge hx hb (dl hdec hlen rfl) hj (fun h => by have := kk ls hl hL; rwa [bif_t (by simpa [condB] using h)] at this) (fun h => by have := kk ls hl hL; rwa [bif_f (by simpa [condB] using h)] at this)
    · cases hps
      exact lv_icmp_gt hx hb (dl hdec hlen rfl) hj (fun h => by have := kk ls hl hL; rwa [bif_t (by simpa [condB] using h)] at this) (fun h => by have := kk ls hl hL; rwa [bif_f (by simpa [condB] using h)] at this)
    · cases hps
      exact lv_icmp_le hx hb (dl hdec hlen rfl) hj (fun h => by have := kk ls hl hL; rwa [bif_t (by simpa [condB] using h)] at this) (fun h => by have := kk ls hl hL; rwa [bif_f (by simpa [condB] using h)] at this)
  | goto off =>
    obtain ⟨t, ht, hps⟩ := Option.map_eq_some_iff.mp (show (jump pc off).map (fun t => (t, L, st)) = some (pc', L', st') from hps)
    cases hps
    exact lv_goto hx hb (dl hdec hlen rfl) (jump_eq ht) (kk ls hl hL)
  | tableswitch dflt lo hi offs =>
    obtain ⟨x1, st1, rfl, hp2⟩ := inv_i hps
    clear hps
    by_cases ho : x1.toInt < lo ∨ hi < x1.toInt
    · rw [if_pos ho] at hp2
      obtain ⟨t, ht, hp2⟩ := Option.map_eq_some_iff.mp hp2
      cases hp2
      exact lv_tableOut hx hb hdec ho (jump_eq ht) (kk ls hl hL)
    · rw [if_neg ho] at hp2
      cases hof : offs[(x1.toInt - lo).toNat]? with
      | none => rw [hof] at hp2; cases hp2
      | some off =>
        rw [hof] at hp2
        obtain ⟨t, ht, hp2⟩ := Option.map_eq_some_iff.mp hp2
        cases hp2
        exact lv_tableIn hx hb hdec (fun q => ho (Or.inl q)) (fun q => ho (Or.inr q)) hof (jump_eq ht) (kk ls hl hL)
  | lookupswitch dflt ps =>
    obtain ⟨x1, st1, rfl, hps⟩ := inv_i hps
    obtain ⟨hp, hps⟩ := inv_if hps
    obtain ⟨t, ht, hps⟩ := Option.map_eq_some_iff.mp hps
    cases hps
    exact lv_lookup hx hb hdec hp rfl (jump_eq ht) (kk ls hl hL)
  | _ => exact absurd (show (none : Option (Nat × List Value × List Value)) = some (pc', L', st') from hps) (by simp)
end PS
end
section
/-! The classes' words; the world behind a store. -/
theorem cls_tab : ∀ ci, ci < 8 → vwCl[ci]? = some (vwC ci, vwT ci, vwN ci) := by
  intro ci h
  match ci, h with
  | 0, _ => rfl
  | 1, _ => rfl
  | 2, _ => rfl
  | 3, _ => rfl
  | 4, _ => rfl
  | 5, _ => rfl
  | 6, _ => rfl
  | 7, _ => rfl
  | n + 8, h => exact absurd h (by omega)
theorem cls_ws1 : (List.range 8).all (fun ci => (List.range (vwN ci)).all (fun k => linkOK ((layP.getD ci []).getD k 0) (u_lay (vwC ci) (vwT ci) k))) = true := by decide +kernel
theorem cls_ws : ∀ ci, ci < 8 → ∀ q ∈ u_ws (vwC ci) (vwT ci) (vwN ci), q ∈ BIGG := by
  intro ci h q hq
  obtain ⟨k, hk, rfl⟩ := List.mem_map.mp hq
  exact linkOK_in (List.all_eq_true.mp (List.all_eq_true.mp cls_ws1 ci (List.mem_range.mpr h)) k hk)
theorem cls_nm : ∀ ci, ci < 8 → ∀ a, a < vwN ci → ∀ b, b < vwN ci → a ≠ b → (vwT ci a).2.1 ≠ (vwT ci b).2.1 := by
  intro ci h
  match ci, h with
  | 0, _ => exact nmX0
  | 1, _ => exact nmX1
  | 2, _ => exact nmX2
  | 3, _ => exact nmX3
  | 4, _ => exact nmX4
  | 5, _ => exact nmX5
  | 6, _ => exact nmX6
  | 7, _ => exact nmX7
  | n + 8, h => exact absurd h (by omega)
theorem cls_ty : ∀ ci, ci < 8 → ∀ k, k < vwN ci → parseFieldDescriptor (vwT ci k).2.2.1 = some (vwTy ci k) := by
  intro ci h
  match ci, h with
  | 0, _ => exact tyX0_ok
  | 1, _ => exact tyX1_ok
  | 2, _ => exact tyX2_ok
  | 3, _ => exact tyX3_ok
  | 4, _ => exact tyX4_ok
  | 5, _ => exact tyX5_ok
  | 6, _ => exact tyX6_ok
  | 7, _ => exact tyX7_ok
  | n + 8, h => exact absurd h (by omega)
theorem cls_decl : ∀ ci, ci < 8 → ∀ k, k < vwN ci → (vwT ci k).1 = vwC ci := by decide +kernel
theorem cls_kind : ∀ ci, ci < 8 → ∀ k, k < vwN ci → vwTy ci k = .int ∨ vwTy ci k = .boolean ∨ isRefTy (vwTy ci k) = true := by decide +kernel
theorem cls_ins : ∀ ci, ci < 8 → Jvm.Cond.instantiable (vwC ci) (vwN ci) ∈ BIGG := by
  intro ci h
  have h0 : (List.range 8).all (fun ci => linkOK (insP.getD ci 0) (.instantiable (vwC ci) (vwN ci))) = true := by decide +kernel
  exact linkOK_in (List.all_eq_true.mp h0 ci (List.mem_range.mpr h))
theorem cls_ini : ∀ ci, ci < 8 → Jvm.Cond.initialized (vwC ci) ∈ BIGG := by
  intro ci h
  have h0 : (List.range 8).all (fun ci => linkOK (iniPl ci (vwC ci)) (.initialized (vwC ci))) = true := by decide +kernel
  exact linkOK_in (List.all_eq_true.mp h0 ci (List.mem_range.mpr h))
theorem arc_int : Jvm.Cond.arrayClass .int ∈ BIGG := linkOK_in (pl := arcP.getD 0 0) (by decide +kernel)
theorem arc_long : Jvm.Cond.arrayClass .long ∈ BIGG := linkOK_in (pl := arcP.getD 1 0) (by decide +kernel)
theorem arc_bool : Jvm.Cond.arrayClass .boolean ∈ BIGG := linkOK_in (pl := arcP.getD 2 0) (by decide +kernel)
theorem nat_copy : Jvm.Cond.native arraycopyName ∈ BIGG := linkOK_in (pl := natP.getD 0 0) (by decide +kernel)
theorem sta_copy : Jvm.Cond.static arraycopyName ∈ BIGG := linkOK_in (pl := natP.getD 1 0) (by decide +kernel)
theorem ini_sys : Jvm.Cond.initialized "java/lang/System" ∈ BIGG := linkOK_in (pl := natP.getD 2 0) (by decide +kernel)
theorem obj_inst : Jvm.Cond.instanceMethod objectInit ∈ BIGG := linkOK_in (pl := objP.getD 0 0) (by decide +kernel)
set_option maxRecDepth 10000 in
theorem obj_code : Jvm.Cond.code objectInit ⟨#[0xb1]⟩ 1 none ∈ BIGG := linkOK_in (pl := objP.getD 1 0) (by decide +kernel)
/-- the world of the pure heap h -/
def WdH (w : WC) (s : State) (h : Hp) (H : Heap) (locs : List Loc) : Prop := H.size = w.1 + h.1.length ∧ va_P w.2.1 vwCl (wsH w h) H ∧ va_S (Ab w) s.heap H locs
theorem WdH.upd {w : WC} {s : State} {h h' : Hp} {H H1 : Heap} {locs : List Loc} {a k : Nat} {sh : Sh} (hW : WdH w s h H locs) (hs : h.1[a]? = some sh) (h1 : h'.1 = h.1) (ho : ∀ b s', b ≠ a → cel w h' b s' = cel w h b s')
    (hat : va_at w.2.1 vwCl (w.1 + a, cel w h' a sh) H1) (z : H1.size = H.size) (oq : ∀ q : Nat, q ≠ w.1 + a → H1[q]? = H[q]?) : WdH w s h' H1 (locs ++ [⟨w.1 + a, k⟩]) := by
  refine ⟨by rw [z, h1]; exact hW.1, ?_, hW.2.2.put z oq (by show w.1 ≤ w.1 + a; omega)⟩
  rw [← wsH_set hs h1 ho]
  exact hW.2.1.set (wsH_D w h) (wsH_get hs) hat oq
theorem tr_new {w : WC} {a : Nat} (ha : a < OLDB) : tr w (.ref a) = .ref (w.1 + a) := by
  have hB := OLDB_eq
  have e1 : ¬ (a = OLDB + 13) := by omega
  show (if a = OLDB + 13 then w.2.2.2.2.1 else Value.ref (if a < OLDB then w.1 + a else w.2.2.2.1 (a - OLDB))) = _
  rw [if_neg e1, if_pos ha]
theorem tr_old {w : WC} {a : Nat} (ha : ¬ a < OLDB) (h13 : ¬ a = OLDB + 13) : tr w (.ref a) = .ref (w.2.2.2.1 (a - OLDB)) := by
  show (if a = OLDB + 13 then w.2.2.2.2.1 else Value.ref (if a < OLDB then w.1 + a else w.2.2.2.1 (a - OLDB))) = _
  rw [if_neg h13, if_neg ha]
theorem inB_in {i : Int32} {n : Nat} (h : inB i n = true) : vp_in i n := by
  obtain ⟨h1, h2⟩ := (Bool.and_eq_true _ _).mp h
  have h1 := of_decide_eq_true h1
  have h2 := of_decide_eq_true h2
  rintro (q | q)
  · exact h1 q
  · omega
theorem cfa_0 (w : WC) (h : Hp) (a : Nat) : cfa w h a 0 = .inl (h.2.1 a) := rfl
theorem cfa_2 (w : WC) (h : Hp) (a : Nat) : cfa w h a 2 = .inl (h.2.1 a) := rfl
theorem cfa_1 (w : WC) (h : Hp) (a : Nat) : cfa w h a 1 = .inr (.inl (h.2.2.1 a)) := rfl
theorem cfa_3 (w : WC) (h : Hp) (a : Nat) : cfa w h a 3 = .inr (.inr (.inr (.inr (fun i => (h.2.2.2 a i).map (fun b => w.1 + b))))) := rfl
theorem cfa_4 (w : WC) (h : Hp) (a : Nat) : cfa w h a 4 = .inr (.inr (.inr (.inr (fun i => (h.2.2.2 a i).map (fun b => w.1 + b))))) := rfl
theorem ud_ne {α : Type} (f : Nat → Nat → α) {a b i : Nat} (v : α) (h : b ≠ a) : ud f a i v b = f b := by
  unfold ud
  rw [if_neg h]
theorem ud_self {α : Type} (f : Nat → Nat → α) (a i : Nat) (v : α) : ud f a i v a = fun j => if j = i then v else f a j := by
  unfold ud
  rw [if_pos rfl]
theorem ud_at {α : Type} (f : Nat → Nat → α) (a i : Nat) (v : α) : ud f a i v a i = v := by
  rw [ud_self]
  exact if_pos rfl
theorem ud_off {α : Type} (f : Nat → Nat → α) (a : Nat) {i j : Nat} (v : α) (h : j ≠ i) : ud f a i v a j = f a j := by
  rw [ud_self]
  exact if_neg h
theorem clr_ne {α : Type} (f : Nat → Nat → α) {a b : Nat} (v : α) (h : b ≠ a) : clr f a v b = f b := by
  unfold clr
  rw [if_neg h]
theorem clr_self {α : Type} (f : Nat → Nat → α) (a : Nat) (v : α) : clr f a v a = fun _ => v := by
  unfold clr
  rw [if_pos rfl]
theorem cel_d {w : WC} {h : Hp} {a : Nat} {x : Nat → Nat → Int32} (hd : x a = h.2.1 a) (s : Sh) : cel w (h.1, x, h.2.2.1, h.2.2.2) a s = cel w h a s := cel_push (h := h) (a := a) (h' := (h.1, x, h.2.2.1, h.2.2.2)) hd rfl rfl s
theorem cel_e {w : WC} {h : Hp} {a : Nat} {x : Nat → Nat → Int64} (hd : x a = h.2.2.1 a) (s : Sh) : cel w (h.1, h.2.1, x, h.2.2.2) a s = cel w h a s := cel_push (h := h) (a := a) (h' := (h.1, h.2.1, x, h.2.2.2)) rfl hd rfl s
theorem cel_r {w : WC} {h : Hp} {a : Nat} {x : Nat → Nat → Option Nat} (hd : x a = h.2.2.2 a) (s : Sh) : cel w (h.1, h.2.1, h.2.2.1, x) a s = cel w h a s := cel_push (h := h) (a := a) (h' := (h.1, h.2.1, h.2.2.1, x)) rfl rfl hd s
section HR
variable {w : WC} {p : Program} {l : Launch} {e : Env} {R : Room} {s : State} {m : MethodId} {args : Array Value} {below : List Frame} {meth : Method} {c : Code} {H : Heap} {locs : List Loc} {cells slots : Nat} {Q : State → Prop}
variable {y pc : Nat} {st : List Value} {ls : Array Slot} {h : Hp} {cc : ByteArray}
theorem z_iast (hx : p.tables.exec = Jvm.exec) (hb : c.code = cc) (hK : va_K w.2.1 vwCl (tysW w) s) (hW : WdH w s h H locs) {a n : Nat} {j x : Int32} (ha : h.1[a]? = some (.inl (0, n))) (hin : inB j n = true) (hd : decode cc pc = .ok (.iastore, 1))
    (kk : ∀ H1 locs1, WdH w s (h.1, ud h.2.1 a j.toNatClampNeg x, h.2.2.1, h.2.2.2) H1 locs1 → W p l e R s m args below meth c H1 locs1 cells slots Q (F0 m (pc + 1) ls st)) :
    W p l e R s m args below meth c H locs cells slots Q (F0 m pc ls (.int x :: .int j :: .ref (w.1 + a) :: st)) := by
  have hg := wsH_get (w := w) ha
  refine W.iast hx hb (hW.2.1 a _ hg) ((hK.2 0 _ rfl).1 n (fun j => .int (h.2.1 a j))) (fun q => by cases q) (by show ¬ (j < 0 ∨ (arrV _ _ _).slots.size ≤ _); rw [arrV_size]; exact inB_in hin) rfl rfl hd fun H1 e1 z oq => ?_
  refine kk H1 _ (hW.upd ha rfl (fun b s' hb' => cel_d (ud_ne _ _ hb') s') ?_ z oq)
  show H1[w.1 + a]? = some (vp_cell _ (n, cfa w _ a 0))
  rw [e1, cfa_0, cfa_0, vp_cell_i, vp_cell_i, arrV_store]
  congr 2
  funext q
  by_cases hq : q = j.toNatClampNeg
  · subst hq
    simp [updV, ud]
  · simp [updV, ud, hq]
theorem z_zast (hx : p.tables.exec = Jvm.exec) (hb : c.code = cc) (hK : va_K w.2.1 vwCl (tysW w) s) (hW : WdH w s h H locs) {a n : Nat} {j x : Int32} (hx01 : x = 0 ∨ x = 1) (ha : h.1[a]? = some (.inl (2, n))) (hin : inB j n = true) (hd : decode cc pc = .ok (.bastore, 1))
    (kk : ∀ H1 locs1, WdH w s (h.1, ud h.2.1 a j.toNatClampNeg x, h.2.2.1, h.2.2.2) H1 locs1 → W p l e R s m args below meth c H1 locs1 cells slots Q (F0 m (pc + 1) ls st)) :
    W p l e R s m args below meth c H locs cells slots Q (F0 m pc ls (.int x :: .int j :: .ref (w.1 + a) :: st)) := by
  have hg := wsH_get (w := w) ha
  have hn : narrow .boolean (.int x) = .int x := by rcases hx01 with rfl | rfl <;> decide
  refine W.zast hx hb (hW.2.1 a _ hg) ((hK.2 2 _ rfl).1 n (fun j => .int (h.2.1 a j))) (fun q => by cases q) (by show ¬ (j < 0 ∨ (arrV _ _ _).slots.size ≤ _); rw [arrV_size]; exact inB_in hin) rfl rfl hd fun H1 e1 z oq => ?_
  refine kk H1 _ (hW.upd ha rfl (fun b s' hb' => cel_d (ud_ne _ _ hb') s') ?_ z oq)
  show H1[w.1 + a]? = some (vp_cell _ (n, cfa w _ a 2))
  rw [e1, hn, cfa_2, cfa_2, vp_cell_i, vp_cell_i, arrV_store]
  congr 2
  funext q
  by_cases hq : q = j.toNatClampNeg
  · subst hq
    simp [updV, ud]
  · simp [updV, ud, hq]
theorem z_last (hx : p.tables.exec = Jvm.exec) (hb : c.code = cc) (hK : va_K w.2.1 vwCl (tysW w) s) (hW : WdH w s h H locs) {a n : Nat} {j : Int32} {x : Int64} (ha : h.1[a]? = some (.inl (1, n))) (hin : inB j n = true) (hd : decode cc pc = .ok (.lastore, 1))
    (kk : ∀ H1 locs1, WdH w s (h.1, h.2.1, ud h.2.2.1 a j.toNatClampNeg x, h.2.2.2) H1 locs1 → W p l e R s m args below meth c H1 locs1 cells slots Q (F0 m (pc + 1) ls st)) :
    W p l e R s m args below meth c H locs cells slots Q (F0 m pc ls (.long x :: .int j :: .ref (w.1 + a) :: st)) := by
  have hg := wsH_get (w := w) ha
  refine W.last hx hb (hW.2.1 a _ hg) ((hK.2 1 _ rfl).1 n (fun j => .long (h.2.2.1 a j))) (fun q => by cases q) (by show ¬ (j < 0 ∨ (arrV _ _ _).slots.size ≤ _); rw [arrV_size]; exact inB_in hin) rfl rfl hd fun H1 e1 z oq => ?_
  refine kk H1 _ (hW.upd ha rfl (fun b s' hb' => cel_e (ud_ne _ _ hb') s') ?_ z oq)
  show H1[w.1 + a]? = some (vp_cell _ (n, cfa w _ a 1))
  rw [e1, cfa_1, cfa_1, vp_cell_l, vp_cell_l, arrV_store]
  congr 2
  funext q
  by_cases hq : q = j.toNatClampNeg
  · subst hq
    simp [updV, ud]
  · simp [updV, ud, hq]
theorem z_aast (hx : p.tables.exec = Jvm.exec) (hb : c.code = cc) (hK : va_K w.2.1 vwCl (tysW w) s) (hW : WdH w s h H locs) {a b n : Nat} {j : Int32} (ha : h.1[a]? = some (.inl (3, n))) (hbs : h.1[b]? = some (.inr 5)) (hin : inB j n = true) (hd : decode cc pc = .ok (.aastore, 1))
    (kk : ∀ H1 locs1, WdH w s (h.1, h.2.1, h.2.2.1, ud h.2.2.2 a j.toNatClampNeg (some b)) H1 locs1 → W p l e R s m args below meth c H1 locs1 cells slots Q (F0 m (pc + 1) ls st)) :
    W p l e R s m args below meth c H locs cells slots Q (F0 m pc ls (.ref (w.1 + b) :: .int j :: .ref (w.1 + a) :: st)) := by
  have hg := wsH_get (w := w) ha
  have hv := wsH_get (w := w) hbs
  have hin' := inB_in hin
  have hlt : j.toNatClampNeg < n := Nat.not_le.mp fun q => hin' (Or.inr q)
  have h0 : ¬ j < 0 := fun q => hin' (Or.inl q)
  obtain ⟨r', hr', cellV, g1, g2, g3, -⟩ := hW.2.1 b _ hv
  have hc : vwCl[5]? = some (vwC 5, vwT 5, vwN 5) := rfl
  have hcls := (hK.1 5 _ hc).2
  obtain ⟨kA, comp, k1, k2, k3, -⟩ := (hK.2 3 _ rfl).2
  have hcomp : comp = w.2.1.1 5 := Option.some.inj (k3.symm.trans hcls.1)
  subst hcomp
  obtain ⟨kC, hkC, -⟩ := hcls.2
  refine W.aast hx hb (hW.2.1 a _ hg) (fun q h => by cases h) (fun h => by cases h) k1 k2 rfl hkC ⟨h0, by show _ < (arrV _ _ _).slots.size; rw [arrV_size]; exact hlt⟩ g1 (fun q h => by rw [g3] at h; cases h) (by rw [g2]; exact hkC) (by rw [g2]; exact va_assign hcls) rfl rfl hd fun H1 e1 z oq => ?_
  refine kk H1 _ (hW.upd ha rfl (fun b s' hb' => cel_r (ud_ne _ _ hb') s') ?_ z oq)
  show H1[w.1 + a]? = some (vp_cell _ (n, cfa w _ a 3))
  rw [e1]
  show some ((vp_cell _ (n, cfa w h a 3)).setSlot _ _) = _
  rw [cfa_3, cfa_3, vp_cell_q, vp_cell_q, arrV_store]
  congr 2
  funext q
  by_cases hq : q = j.toNatClampNeg
  · subst hq
    simp [updV, ud, va_rf]
  · simp [updV, ud, hq]
end HR
end
section
/-! The world behind a putfield, a copy, something new. -/
theorem cfs_set {w : WC} {h h' : Hp} {ci a k n : Nat} {v : Value} (hk : k < n) (h1 : cfv w h' ci a k = v) (h2 : ∀ j, j ≠ k → cfv w h' ci a j = cfv w h ci a j) :
    (List.range n).map (fun j => cfv w h' ci a j) = ((List.range n).map (fun j => cfv w h ci a j)).set k v := by
  apply List.ext_getElem?
  intro j
  by_cases hj : j < n
  · by_cases hjk : j = k
    · subst hjk
      rw [List.getElem?_set_self (by simpa using hj), List.getElem?_map, List.getElem?_range hj]
      simp [h1]
    · rw [List.getElem?_set_ne (Ne.symm hjk), List.getElem?_map, List.getElem?_map, List.getElem?_range hj]
      simp [h2 j hjk]
  · rw [List.getElem?_eq_none (by simpa using hj), List.getElem?_eq_none (by simpa using hj)]
section HR2
variable {w : WC} {p : Program} {l : Launch} {e : Env} {R : Room} {s : State} {m : MethodId} {args : Array Value} {below : List Frame} {meth : Method} {c : Code} {H : Heap} {locs : List Loc} {cells slots : Nat} {Q : State → Prop}
variable {y pc : Nat} {st : List Value} {ls : Array Slot} {h : Hp} {cc : ByteArray}
/-- what a store of v into field k of the object a needs and gives, whatever row makes it -/
theorem z_putAt (hK : va_K w.2.1 vwCl (tysW w) s) (hts : ∀ q ∈ BIGG, q.before args s = true) (hW : WdH w s h H locs) {ci a k : Nat} (hci : ci < 8) (hk : k < vwN ci) (ha : h.1[a]? = some (.inr ci)) :
    ∃ (cell : Cell) (cf : Nat) (kf : Class) (fi : Nat) (f : Field) (kC : Class), H[w.1 + a]? = some cell ∧ cell.cls = w.2.1.1 ci ∧ cell.vm = .none ∧ s.fieldFound? (vwC ci) (vwT ci k).2.1 (vwT ci k).2.2.1 = some (cf, kf, fi, f) ∧ f.slot = w.2.1.2 ci k ∧ f.isStatic = false ∧
      s.vm.findClass (vwC ci) = some (w.2.1.1 ci) ∧ s.vm.classes[w.2.1.1 ci]? = some kC ∧ kC.kind = .ordinary ∧ f.slot < cell.slots.size ∧
      (∀ (H1 : Heap) (v : Value), H1[w.1 + a]? = some (cell.setSlot f.slot v) → va_at w.2.1 vwCl (w.1 + a, .inr (ci, ((List.range (vwN ci)).map (fun j => cfv w h ci a j)).set k v)) H1) := by
  have hg := wsH_get (w := w) ha
  have hc := cls_tab ci hci
  have hap := va_apart (own := "") hts (cls_ws ci hci) (vwTy ci) (cls_ty ci hci) (cls_nm ci hci) hK hc
  obtain ⟨r, h1, cell, q1, q2, q3, q4⟩ := hW.2.1 a _ hg
  have hr : r = (vwC ci, vwT ci, vwN ci) := Option.some.inj (h1.symm.trans hc)
  subst hr
  obtain ⟨hS, hfc, kC, hkC, hkind⟩ := hK.1 ci _ hc
  obtain ⟨cf, kf, fi, f, hi, hsl⟩ := hS k hk
  have hst := (u_facts hfc hkC (u_lays hts (cls_ws ci hci) hk) hi).1
  rw [cls_decl ci hci k hk] at hi
  refine ⟨cell, cf, kf, fi, f, kC, q1, q2, q3, hi, hsl, hst, hfc, hkC, hkind, by rw [hsl]; exact k2_hasslot (q4 k hk), fun H1 v e1 => ?_⟩
  rw [hsl] at e1
  exact ⟨_, hc, t_OB.to (V := updV (vp_V ((List.range (vwN ci)).map (fun j => cfv w h ci a j))) k v) ⟨_, e1, q2, q3, t_set q4 hap hk v⟩ (fun j _ => vp_updV_set (by simpa using hk) v j)⟩
/-- what may be stored there -/
theorem z_stores (hK : va_K w.2.1 vwCl (tysW w) s) (hts : ∀ q ∈ BIGG, q.before args s = true) {ci k : Nat} (hci : ci < 8) (hk : k < vwN ci) {v : Value} (hn : narrow (vwTy ci k) v = v) (hfit : fits (vwTy ci k) v = true) {cf : Nat} {kf : Class} {fi : Nat} {f : Field} {kC : Class}
    (hi : s.fieldFound? (vwC ci) (vwT ci k).2.1 (vwT ci k).2.2.1 = some (cf, kf, fi, f)) (hfc : s.vm.findClass (vwC ci) = some (w.2.1.1 ci)) (hkC : s.vm.classes[w.2.1.1 ci]? = some kC) (hkind : kC.kind = .ordinary) :
    ((vwT ci k).2.2.2 = false → k2_Sd s f (w.2.1.1 ci) v) ∧ narrow f.type v = v ∧ s.fitsSlot (w.2.1.1 ci) .none f.slot v = true := by
  have hd := cls_decl ci hci k hk
  refine ⟨fun hf => ?_, ?_⟩
  · have hlay := hts _ (cls_ws ci hci _ (u_in_lay hk))
    unfold u_lay at hlay
    rw [if_neg (by rw [hf]; decide), hd] at hlay
    exact u_store hfc hkC hkind hlay hi (cls_ty ci hci k hk) hn hfit
  · have hl := u_lays hts (cls_ws ci hci) hk
    rw [hd] at hl
    exact u_fits hfc hkC hkind hl hi (cls_ty ci hci k hk) hn hfit
end HR2
end
section
section HR3
variable {w : WC} {p : Program} {l : Launch} {e : Env} {R : Room} {s : State} {m : MethodId} {args : Array Value} {below : List Frame} {meth : Method} {c : Code} {H : Heap} {locs : List Loc} {cells slots : Nat} {Q : State → Prop}
variable {y pc : Nat} {st : List Value} {ls : Array Slot} {h : Hp} {cc : ByteArray}
/-- putfield: link or nest, final or not -/
theorem z_put (hx : p.tables.exec = Jvm.exec) (hb : c.code = cc) (hK : va_K w.2.1 vwCl (tysW w) s) (hts : ∀ q ∈ BIGG, q.before args s = true) {own : String} {index nest pl : Nat} (hown : s.vm.findClass own = some m.cls) (hN : NestW s) (hW : WdH w s h H locs) {ci a k : Nat} (hci : ci < 8) (hk : k < vwN ci) (ha : h.1[a]? = some (.inr ci))
    (hf : fldOK own index ci k nest pl = true) (hfin : ((vwT ci k).2.2.2 == false || (decide (nest = 0) && decide (meth.name = "<init>") && decide (own = vwC ci))) = true) {v : Value} (hn : narrow (vwTy ci k) v = v) (hfit : fits (vwTy ci k) v = true) {h' : Hp} (h1 : h'.1 = h.1) (ho : ∀ b s', b ≠ a → cel w h' b s' = cel w h b s')
    (hv : cfv w h' ci a k = v) (hv2 : ∀ j, j ≠ k → cfv w h' ci a j = cfv w h ci a j) (hd : decode cc pc = .ok (.putfield index, 3))
    (kk : ∀ H1 locs1, WdH w s h' H1 locs1 → W p l e R s m args below meth c H1 locs1 cells slots Q (F0 m (pc + 3) ls st)) :
    W p l e R s m args below meth c H locs cells slots Q (F0 m pc ls (v :: .ref (w.1 + a) :: st)) := by
  obtain ⟨cell, cf, kf, fi, f, kC, q1, q2, q3, hi, hsl, hst, hfc, hkC, hkind, hlt, hat⟩ := z_putAt hK hts hW hci hk ha
  obtain ⟨s1, s2⟩ := z_stores hK hts hci hk hn hfit hi hfc hkC hkind
  have go : ∀ (H1 : Heap), H1[w.1 + a]? = some (cell.setSlot f.slot v) → H1.size = H.size → (∀ q, q ≠ w.1 + a → H1[q]? = H[q]?) → WdH w s h' H1 (locs ++ [⟨w.1 + a, f.slot⟩]) := by
    intro H1 e1 z oq
    refine hW.upd ha h1 ho ?_ z oq
    have h2 := hat H1 v e1
    rw [← cfs_set hk hv hv2] at h2
    exact h2
  by_cases hff : (vwT ci k).2.2.2 = false
  · unfold fldOK at hf
    by_cases hn0 : nest = 0
    · rw [if_pos hn0] at hf
      exact W.putK hx hb ⟨hown, hts _ (linkOK_in hf), ⟨_, _, _, hi⟩, hst⟩ (by rw [q2]; exact s1 hff) q1 q3 hlt rfl rfl hd (fun H1 e1 z oq => kk H1 _ (go H1 e1 z oq))
    · rw [if_neg hn0] at hf
      exact va_WputK hx hb hown (va_Nw.use rfl (hN _ (nestOK_in hf))) hi hst (by rw [q2]; exact s1 hff) q1 q3 hlt rfl rfl hd (fun H1 e1 z oq => kk H1 _ (go H1 e1 z oq))
  · have hft : (vwT ci k).2.2.2 = true := by simpa using hff
    rw [hft] at hfin
    simp only [Bool.and_eq_true, decide_eq_true_eq, Bool.or_eq_true] at hfin
    obtain ⟨⟨hn0, hini⟩, hoc⟩ := hfin.resolve_left (by decide)
    unfold fldOK at hf
    rw [if_pos hn0] at hf
    have hcf : m.cls = cf := by
      have hlay := hts _ (cls_ws ci hci _ (u_in_lay hk))
      unfold u_lay at hlay
      rw [if_pos hft] at hlay
      obtain ⟨_, _, c', _, _, _, -, -, hf', -, -, -, hown2, -⟩ := Cond.laysFinal_spec hlay
      rw [cls_decl ci hci k hk] at hf' hown2
      have e1 : c' = cf := by have := hi.symm.trans hf'; simp at this; exact this.1.symm
      rw [← e1]
      rw [← hoc] at hown2
      exact Option.some.inj (hown.symm.trans hown2)
    exact W.putFinK hx hb hown (hts _ (linkOK_in hf)) hi hst hcf hini (by rw [q2]; exact s2) q1 q3 hlt rfl rfl hd (fun H1 e1 z oq => kk H1 _ (go H1 e1 z oq))
theorem nn_clamp : ∀ z : Int32, ¬ z < 0 → z.toInt = (z.toNatClampNeg : Int) := by
  intro z hz
  have hz0 : (0 : Int) ≤ z.toInt := by
    have := Int32.not_lt.mp hz
    simpa using Int32.le_iff_toInt_le.mp this
  show z.toInt = ((z.toInt.toNat : Nat) : Int)
  omega
/-- System.arraycopy between two int arrays, or two long arrays, of ours -/
theorem z_copy (hx : p.tables.exec = Jvm.exec) (hb : c.code = cc) (hml : c.maxLocals = ls.size) (hK : va_K w.2.1 vwCl (tysW w) s) (hts : ∀ q ∈ BIGG, q.before args s = true) {own : String} {index pl : Nat} (hown : s.vm.findClass own = some m.cls) (hlk : linkOK pl (.methodLink own index arraycopyName) = true) (hW : WdH w s h H locs)
    {α : Type} (mk : α → Value) (mkA : (Nat → α) → (Nat → Int32) ⊕ (Nat → Int64) ⊕ (Nat → UInt32) ⊕ (Nat → UInt64) ⊕ (Nat → Option Nat)) (hmk : ∀ cA n f, vp_cell cA (n, mkA f) = arrV cA n (fun j => mk (f j))) {t : Nat} {ty : FieldType} (ht : (tysW w)[t]? = some (w.2.2.1 t, ty)) (hprim : refKind ty = false) (hfit : ∀ x, fits ty (mk x) = true) (htr : ∀ x, ∀ r, mk x ≠ .ref r)
    {a b n0 n1 : Nat} {f g : Nat → α} (ha : h.1[a]? = some (.inl (t, n1))) (hbb : h.1[b]? = some (.inl (t, n0))) (hf : cfa w h b t = mkA f) (hg : cfa w h a t = mkA g)
    {sp dp n : Int32} (h1 : ¬ sp < 0) (h2 : ¬ dp < 0) (h3 : ¬ n < 0) (h4 : sp.toNatClampNeg + n.toNatClampNeg ≤ n0) (h5 : dp.toNatClampNeg + n.toNatClampNeg ≤ n1)
    (hframes : 1 ≤ R.frames) (hlocals : (st.map fun v => v.category).sum + (nativeFrameWords "java/lang/System" "arraycopy" 5 + 11) ≤ R.locals) (hd : decode cc pc = .ok (.invokestatic index, 3))
    {h' : Hp} (e1' : h'.1 = h.1) (ho : ∀ b s', b ≠ a → cel w h' b s' = cel w h b s') (hv : cfa w h' a t = mkA (va_cpy f g sp.toNatClampNeg dp.toNatClampNeg n.toNatClampNeg))
    (kk : ∀ H1 locs1, WdH w s h' H1 locs1 → W p l e R s m args below meth c H1 locs1 cells slots Q (F0 m (pc + 3) ls st)) :
    W p l e R s m args below meth c H locs cells slots Q (F0 m pc ls (.int n :: .int dp :: .ref (w.1 + a) :: .int sp :: .ref (w.1 + b) :: st)) := by
  intro T hT X
  have hga := wsH_get (w := w) ha
  have hgb := wsH_get (w := w) hbb
  have hc0 : H[w.1 + b]? = some (arrV (w.2.2.1 t) n0 (fun j => mk (f j))) := by
    have := hW.2.1 b _ hgb
    rw [← hmk, ← hf]
    exact this
  have hc1 : H[w.1 + a]? = some (arrV (w.2.2.1 t) n1 (fun j => mk (g j))) := by
    have := hW.2.1 a _ hga
    rw [← hmk, ← hg]
    exact this
  obtain ⟨-, k0, hk0, cm0, hkk0⟩ := (hK.2 t _ ht).1 n0 (fun j => mk (f j))
  obtain ⟨vm', X', step⟩ := X.arraycopy hx hown (hts _ (linkOK_in hlk)) (hts _ nat_copy) (hts _ sta_copy) (hts _ ini_sys) (src := w.1 + b) (dst := w.1 + a) (cs := arrV (w.2.2.1 t) n0 (fun j => mk (f j))) (cd := arrV (w.2.2.1 t) n1 (fun j => mk (g j))) (srcPos := sp) (destPos := dp) (n := n) (by rw [hT]; exact hc0) (by rw [hT]; exact hc1)
    (fun _ h => by cases h) (fun _ h => by cases h) (fun h => by cases h) (fun h => by cases h) hk0 hk0 hkk0 hkk0 (by simp [hprim]) h1 h2 h3
    (by rw [nn_clamp sp h1, nn_clamp n h3, arrV_size]; omega)
    (by rw [nn_clamp dp h2, nn_clamp n h3, arrV_size]; omega)
    (fun vm₁ _ i hi => by
      have e : (arrV (w.2.2.1 t) n0 (fun j => mk (f j))).slots.getD (sp.toNatClampNeg + i) .null = mk (f (sp.toNatClampNeg + i)) := by
        rw [Array.getD_eq_getD_getElem?, arrV_read _ _ (by omega)]
        rfl
      refine ⟨?_, ?_⟩
      · rw [e]
        exact hfit _
      · rw [e]
        cases hm : mk (f (sp.toNatClampNeg + i)) with
        | ref r => exact absurd hm (htr _ r)
        | _ => trivial)
    (g := F0 m pc ls (.int n :: .int dp :: .ref (w.1 + a) :: .int sp :: .ref (w.1 + b) :: st)) rfl (by rw [hml]) (rest := st) rfl (by rw [hb]; exact hd) hframes (by show 2 * 0 + _ + _ ≤ _; omega)
  have e1 : copied (arrV (w.2.2.1 t) n0 (fun j => mk (f j))) (arrV (w.2.2.1 t) n1 (fun j => mk (g j))) sp dp n = arrV (w.2.2.1 t) n1 (fun j => mk (va_cpy f g sp.toNatClampNeg dp.toNatClampNeg n.toNatClampNeg j)) := va_copied mk _ _ f g h4
  rw [e1] at X' step
  have hl : w.1 + a < H.size := (Array.getElem?_eq_some_iff.mp hc1).1
  have hheap : ((T.setVm vm').setCell (w.1 + a) (arrV (w.2.2.1 t) n1 (fun j => mk (va_cpy f g sp.toNatClampNeg dp.toNatClampNeg n.toNatClampNeg j)))).heap = H.setIfInBounds (w.1 + a) (arrV (w.2.2.1 t) n1 (fun j => mk (va_cpy f g sp.toNatClampNeg dp.toNatClampNeg n.toNatClampNeg j))) := by rw [← hT]; rfl
  have oq : ∀ q : Nat, q ≠ w.1 + a → (H.setIfInBounds (w.1 + a) (arrV (w.2.2.1 t) n1 (fun j => mk (va_cpy f g sp.toNatClampNeg dp.toNatClampNeg n.toNatClampNeg j))))[q]? = H[q]? := fun q hq => by simp [Array.getElem?_setIfInBounds, Ne.symm hq]
  have hz : (H.setIfInBounds (w.1 + a) (arrV (w.2.2.1 t) n1 (fun j => mk (va_cpy f g sp.toNatClampNeg dp.toNatClampNeg n.toNatClampNeg j)))).size = H.size := by simp
  have hW1 := hW.upd (h' := h') (k := 0) ha e1' ho (H1 := H.setIfInBounds (w.1 + a) (arrV (w.2.2.1 t) n1 (fun j => mk (va_cpy f g sp.toNatClampNeg dp.toNatClampNeg n.toNatClampNeg j)))) (by
    show (H.setIfInBounds (w.1 + a) _)[w.1 + a]? = some (vp_cell _ (n1, cfa w h' a t))
    rw [hv, hmk]
    simp [Array.getElem?_setIfInBounds, hl]) hz oq
  obtain ⟨t, a1, b1⟩ := kk _ _ ⟨hW1.1, hW1.2.1, hW1.2.2.1, hW1.2.2.2.1, fun q hq => by
      rcases List.mem_append.mp hq with h | h
      · exact hW.2.2.2.2 q h
      · obtain ⟨z, -, hz⟩ := List.mem_map.mp h
        rw [← hz]
        show w.1 ≤ w.1 + a
        omega⟩ _ hheap X'
  exact ⟨t, step t a1, b1⟩
end HR3
end
section
/-! The world behind something new. -/
theorem WdH.app {w : WC} {s : State} {h h' : Hp} {H H1 : Heap} {locs : List Loc} {l : List Sh} (hW : WdH w s h H locs) (h1 : h'.1 = h.1 ++ l) (ho : ∀ b s', b < h.1.length → cel w h' b s' = cel w h b s') (hsz : H1.size = H.size + l.length)
    (hold : ∀ q : Nat, q < H.size → H1[q]? = H[q]?) (hnew : ∀ j s', l[j]? = some s' → va_at w.2.1 vwCl (w.1 + (h.1.length + j), cel w h' (h.1.length + j) s') H1) : WdH w s h' H1 locs := by
  obtain ⟨hW1, hW2, hW3, hW4, hW5⟩ := hW
  refine ⟨by rw [hsz, h1, List.length_append, hW1]; omega, ?_, by omega, fun q q1 q2 => ?_, hW5⟩
  · rw [wsH_app h1 ho]
    refine va_P.app (hW2.kept fun k q hk => hold q.1 ((hW2 k q hk).lt)) (fun j q hj => ?_)
    by_cases hjl : j < l.length
    · rw [List.getElem?_map, List.getElem?_range hjl] at hj
      cases hj
      have e : l[j]? = some (l.getD j (.inr 0)) := by rw [List.getD_eq_getElem?_getD, List.getElem?_eq_getElem hjl]; rfl
      exact hnew j _ e
    · rw [List.getElem?_eq_none (by simp; omega)] at hj
      cases hj
  · rw [hold q (by omega)]
    exact hW4 q q1 q2
theorem cel_clr {w : WC} {h : Hp} {n : Nat} {l : List Sh} {b : Nat} (hb : b ≠ n) (s : Sh) : cel w (l, clr h.2.1 n 0, clr h.2.2.1 n 0, clr h.2.2.2 n none) b s = cel w h b s :=
  cel_push (h := h) (a := b) (h' := (l, clr h.2.1 n 0, clr h.2.2.1 n 0, clr h.2.2.2 n none)) (clr_ne _ _ hb) (clr_ne _ _ hb) (clr_ne _ _ hb) s
section HR4
variable {w : WC} {p : Program} {l : Launch} {e : Env} {R : Room} {s : State} {m : MethodId} {args : Array Value} {below : List Frame} {meth : Method} {c : Code} {H : Heap} {locs : List Loc} {cells slots : Nat} {Q : State → Prop}
variable {y pc : Nat} {st : List Value} {ls : Array Slot} {h : Hp} {cc : ByteArray}
theorem z_new (hx : p.tables.exec = Jvm.exec) (hb : c.code = cc) (hK : va_K w.2.1 vwCl (tysW w) s) (hts : ∀ q ∈ BIGG, q.before args s = true) {own : String} {index pl : Nat} (hown : s.vm.findClass own = some m.cls) (hW : WdH w s h H locs) {ci : Nat} (hci : ci < 8)
    (hlk : linkOK pl (.classLink own index (vwC ci)) = true) (hcells : cells + 1 ≤ R.cells) (hslots : slots + vwN ci ≤ R.slots) (hd : decode cc pc = .ok (.new index, 3))
    (kk : ∀ H1, WdH w s (objNew h ci) H1 locs → W p l e R s m args below meth c H1 locs (cells + 1) (slots + vwN ci) Q (F0 m (pc + 3) ls (.ref (w.1 + h.1.length) :: st))) :
    W p l e R s m args below meth c H locs cells slots Q (F0 m pc ls st) := by
  have hc := cls_tab ci hci
  have hKn := hK.1 ci _ hc
  refine W.newcK hx hb hown (hts _ (linkOK_in hlk)) (hts _ (cls_ins ci hci)) (hts _ (cls_ini ci hci)) rfl hd hcells hslots hKn.2.1 hW.1 fun H1 kC hkC e1 z1 o1 => ?_
  have hob := u_born (vwTy ci) hts (cls_ws ci hci) hKn hkC e1 (cls_ty ci hci)
  refine kk H1 (hW.app (l := [.inr ci]) rfl (fun b s' hb' => cel_clr (Nat.ne_of_lt hb') s') (by rw [z1, hW.1]; rfl) (fun q hq => o1 q (by rw [← hW.1]; exact hq)) (fun j s' hj => ?_))
  have hj0 : j = 0 := by
    have := (List.getElem?_eq_some_iff.mp hj).1
    simp at this
    exact this
  subst hj0
  cases hj
  refine ⟨_, hc, ?_⟩
  rw [Nat.add_zero]
  refine hob.to (fun k hk => ?_)
  show defaultValue (vwTy ci k) = ((List.range (vwN ci)).map (fun j => cfv w (objNew h ci) ci h.1.length j)).getD k .null
  rw [List.getD_eq_getElem?_getD, List.getElem?_map, List.getElem?_range hk]
  show defaultValue (vwTy ci k) = cfv w (objNew h ci) ci h.1.length k
  unfold cfv
  have e1 : (objNew h ci).2.1 h.1.length k = 0 := by show clr h.2.1 h.1.length 0 h.1.length k = 0; rw [clr_self]
  have e2 : (objNew h ci).2.2.2 h.1.length k = none := by show clr h.2.2.2 h.1.length none h.1.length k = none; rw [clr_self]
  rw [e1, e2]
  rcases cls_kind ci hci k hk with q | q | q
  · rw [q]; rfl
  · rw [q]; rfl
  · rw [if_pos q]
    cases hty : vwTy ci k <;> rw [hty] at q <;> first | rfl | cases q
theorem z_newa (hx : p.tables.exec = Jvm.exec) (hb : c.code = cc) (hK : va_K w.2.1 vwCl (tysW w) s) (hts : ∀ q ∈ BIGG, q.before args s = true) (hW : WdH w s h H locs) {at' : ArrayType} {t : Nat} (htag : atag at' = some t) {n : Int32} (hn : ¬ n < 0) (hn2 : n.toNatClampNeg ≤ 10000)
    (hcells : cells + 1 ≤ R.cells) (hslots : slots + n.toNatClampNeg ≤ R.slots) (hd : decode cc pc = .ok (.newarray at', 2))
    (kk : ∀ H1, WdH w s (arrNew h t n.toNatClampNeg) H1 locs → W p l e R s m args below meth c H1 locs (cells + 1) (slots + n.toNatClampNeg) Q (F0 m (pc + 2) ls (.ref (w.1 + h.1.length) :: st))) :
    W p l e R s m args below meth c H locs cells slots Q (F0 m pc ls (.int n :: st)) := by
  have harr : Jvm.Cond.arrayClass (newarray.typeOf at') ∈ BIGG ∧ ∃ ty, newarray.typeOf at' = ty ∧ (tysW w)[t]? = some (w.2.2.1 t, ty) ∧ isRefTy ty = false ∧ ∀ (g : Hp) (N : Nat), (∀ j, g.2.1 h.1.length j = 0) → (∀ j, g.2.2.1 h.1.length j = 0) → vp_cell (w.2.2.1 t) (N, cfa w g h.1.length t) = arrV (w.2.2.1 t) N (fun _ => defaultValue ty) := by
    cases at' <;> cases htag
    · exact ⟨arc_bool, .boolean, rfl, rfl, rfl, fun g N g1 _ => by rw [cfa_2, vp_cell_i]; simp only [g1]; rfl⟩
    · exact ⟨arc_int, .int, rfl, rfl, rfl, fun g N g1 _ => by rw [cfa_0, vp_cell_i]; simp only [g1]; rfl⟩
    · exact ⟨arc_long, .long, rfl, rfl, rfl, fun g N _ g2 => by rw [cfa_1, vp_cell_l]; simp only [g2]; rfl⟩
  obtain ⟨hin, ty, hty, ht, href, hcell⟩ := harr
  have hcb : componentBytes (newarray.typeOf at') ≤ 8 := by cases at' <;> decide
  have hRA := (hK.2 t _ ht).2
  have hnm : s.vm.findClass ("[" ++ ty.toString) = some (w.2.2.1 t) := by
    cases ty <;> first | exact hRA | cases href
  refine va_newaK hx hb (hts _ hin) rfl hd rfl hn rfl (Nat.le_trans (Nat.mul_le_mul hn2 hcb) (by decide)) hcells hslots hW.1 fun H1 cA e1 z1 o1 hAr hNm => ?_
  have hcA : cA = w.2.2.1 t := by
    rw [hty] at hNm
    exact Option.some.inj (hNm.symm.trans hnm)
  subst hcA
  refine kk H1 (hW.app (l := [.inl (t, n.toNatClampNeg)]) rfl (fun b s' hb' => cel_clr (Nat.ne_of_lt hb') s') (by rw [z1, hW.1]; rfl) (fun q hq => o1 q (by rw [← hW.1]; exact hq)) (fun j s' hj => ?_))
  have hj0 : j = 0 := by
    have := (List.getElem?_eq_some_iff.mp hj).1
    simp at this
    exact this
  subst hj0
  cases hj
  show H1[w.1 + (h.1.length + 0)]? = some (vp_cell (w.2.2.1 t) (n.toNatClampNeg, cfa w (arrNew h t n.toNatClampNeg) (h.1.length + 0) t))
  rw [Nat.add_zero, hcell _ _ (fun j => by show clr h.2.1 h.1.length 0 h.1.length j = 0; rw [clr_self]) (fun j => by show clr h.2.2.1 h.1.length 0 h.1.length j = 0; rw [clr_self]), ← hty]
  exact e1
theorem z_newq (hx : p.tables.exec = Jvm.exec) (hb : c.code = cc) (hK : va_K w.2.1 vwCl (tysW w) s) (hts : ∀ q ∈ BIGG, q.before args s = true) {own : String} {index pl : Nat} (hown : s.vm.findClass own = some m.cls) (hW : WdH w s h H locs) (hlk : linkOK pl (.classLink own index RX5) = true) (hAO : va_AO RX5 s) {n : Int32} (hn : ¬ n < 0) (hn2 : n.toNatClampNeg ≤ 10000)
    (hcells : cells + 1 ≤ R.cells) (hslots : slots + n.toNatClampNeg ≤ R.slots) (hd : decode cc pc = .ok (.anewarray index, 3))
    (kk : ∀ H1, WdH w s (arrNew h 3 n.toNatClampNeg) H1 locs → W p l e R s m args below meth c H1 locs (cells + 1) (slots + n.toNatClampNeg) Q (F0 m (pc + 3) ls (.ref (w.1 + h.1.length) :: st))) :
    W p l e R s m args below meth c H locs cells slots Q (F0 m pc ls (.int n :: st)) := by
  refine W.anew hx hb hown (hts _ (linkOK_in hlk)) (va_AO.use hAO) rfl hd rfl hn (by omega) hcells hslots fun cA kA comp f1 f2 f3 f4 => ?_
  obtain ⟨kA', comp', k1, k2, k3, k4⟩ := (hK.2 3 _ rfl).2
  have hcA : cA = w.2.2.1 3 := Option.some.inj (f1.symm.trans k4)
  subst hcA
  rw [arrV_new]
  have hsz : (H.push (arrV (w.2.2.1 3) n.toNatClampNeg fun _ => .null)).size = H.size + 1 := by simp
  have hold : ∀ q : Nat, q < H.size → (H.push (arrV (w.2.2.1 3) n.toNatClampNeg fun _ => .null))[q]? = H[q]? := fun q hq => by
    rw [Array.getElem?_push, if_neg (Nat.ne_of_lt hq)]
  have hk := kk (H.push (arrV (w.2.2.1 3) n.toNatClampNeg fun _ => .null)) (hW.app (l := [.inl (3, n.toNatClampNeg)]) rfl (fun b s' hb' => cel_clr (Nat.ne_of_lt hb') s') hsz hold (fun j s' hj => by
    have hj0 : j = 0 := by
      have := (List.getElem?_eq_some_iff.mp hj).1
      simp at this
      exact this
    subst hj0
    cases hj
    show (H.push _)[w.1 + (h.1.length + 0)]? = some (vp_cell (w.2.2.1 3) (n.toNatClampNeg, cfa w (arrNew h 3 n.toNatClampNeg) (h.1.length + 0) 3))
    rw [Nat.add_zero, ← hW.1, cfa_3, vp_cell_q]
    have e2 : ∀ i, (arrNew h 3 n.toNatClampNeg).2.2.2 h.1.length i = none := fun i => by show clr h.2.2.2 h.1.length none h.1.length i = none; rw [clr_self]
    simp only [e2]
    simp
    rfl))
  rw [← hW.1] at hk
  exact hk
end HR4
end
section
/-! new long[n][k]: the machine's loop, its heap, our world behind it. -/
def mmO (c : ClassId) (N h0 i : Nat) : Cell := arrV c N (fun j => if j < i then .ref (h0 + 1 + j) else .null)
def mmI (cy : ClassId) (K : Nat) : Cell := arrV cy K (fun _ => .long 0)
def mmS (s : State) (c cy : ClassId) (N K : Nat) : Nat → State
  | 0 => s.pushCell (mmO c N s.heap.size 0)
  | i + 1 => ((mmS s c cy N K i).pushCell (mmI cy K)).setCell s.heap.size (mmO c N s.heap.size (i + 1))
theorem mmO_step (c : ClassId) (N h0 i : Nat) : (mmO c N h0 i).setSlot i (.ref (h0 + 1 + i)) = mmO c N h0 (i + 1) := by
  unfold mmO
  rw [arrV_store]
  congr 1
  funext j
  by_cases e : j = i
  · subst e; simp [updV]
  · by_cases h : j < i
    · simp [updV, e, h, Nat.lt_succ_of_lt h]
    · simp [updV, e, h, show ¬ j < i + 1 by omega]
theorem mmS_facts (s : State) (c cy : ClassId) (N K : Nat) : ∀ i, (mmS s c cy N K i).heap.size = s.heap.size + 1 + i ∧ (mmS s c cy N K i).heap[s.heap.size]? = some (mmO c N s.heap.size i) ∧ (mmS s c cy N K i).vm = s.vm ∧ (mmS s c cy N K i).slotsUsed = s.slotsUsed + N + i * K ∧
    (∀ q : Nat, q < s.heap.size → (mmS s c cy N K i).heap[q]? = s.heap[q]?) ∧ ∀ j, j < i → (mmS s c cy N K i).heap[s.heap.size + 1 + j]? = some (mmI cy K)
  | 0 => ⟨by simp [mmS], by simp [mmS], rfl, by simp [mmS, mmO, arrV_size], fun q hq => State.heap_pushCell_of_lt _ _ hq, fun j h => absurd h (Nat.not_lt_zero _)⟩
  | i + 1 => by
    obtain ⟨a, b, d, u, o, r⟩ := mmS_facts s c cy N K i
    have hlt : s.heap.size < (mmS s c cy N K i).heap.size := by omega
    have hb' : ((mmS s c cy N K i).pushCell (mmI cy K)).heap[s.heap.size]? = some (mmO c N s.heap.size i) := by rw [State.heap_pushCell_of_lt (h := hlt)]; exact b
    refine ⟨by simp [mmS, State.setCell, a]; omega, State.heap_setCell_self hb', by simp [mmS, d], ?_, fun q hq => ?_, fun j hj => ?_⟩
    · simp [mmS, u, mmI, arrV_size, Nat.succ_mul]
      omega
    · show (((mmS s c cy N K i).pushCell (mmI cy K)).setCell s.heap.size _).heap[q]? = _
      have hq2 : q < (mmS s c cy N K i).heap.size := by rw [a]; omega
      rw [State.heap_setCell_other (Nat.ne_of_gt hq), State.heap_pushCell_of_lt (h := hq2)]
      exact o q hq
    · show (((mmS s c cy N K i).pushCell (mmI cy K)).setCell s.heap.size _).heap[s.heap.size + 1 + j]? = _
      rw [State.heap_setCell_other (show s.heap.size ≠ s.heap.size + 1 + j by omega)]
      rcases Nat.lt_or_ge j i with h | h
      · have hq2 : s.heap.size + 1 + j < (mmS s c cy N K i).heap.size := by rw [a]; omega
        rw [State.heap_pushCell_of_lt (h := hq2)]
        exact r j h
      · have e : j = i := by omega
        subst e
        rw [← a]
        exact State.heap_pushCell_size _ _
theorem mmS_top (s : State) (f : JFrame) (c cy : ClassId) (N K : Nat) : ∀ i, mmS (s.setTop f) c cy N K i = (mmS s c cy N K i).setTop f
  | 0 => rfl
  | i + 1 => by simp only [mmS, mmS_top s f c cy N K i, State.heap_setTop, State.pushCell_setTop, State.setCell_setTop]
section MM
variable {E : CtlPost} {e : Env} {d : Bool} {acts : List Action} {s : State}
theorem mm_new {c comp : ClassId} {k : Class} {ty : FieldType} {n : Nat} {v : Value} (hk : s.vm.classes[c]? = some k) (hkind : k.kind = .array comp ty) (h1 : ¬ n > e.platform.arrayLengthLimit) (h2 : ¬ n * componentBytes ty > e.platform.maxHeapBytes) (hf : fits ty v = true) (hd : v.isDefault = true)
    (h3 : s.heap.size < e.platform.maxCells) (h4 : s.slotsUsed + n ≤ e.platform.maxSlots) {Q : Addr → Pre} (hq : Q s.heap.size d acts (s.pushCell (arrV c n (fun _ => v)))) : wp (Jvm.newArray c n v) Q E e d acts s := by
  have hfits : ∀ i x, (Array.replicate n v)[i]? = some x → s.fitsSlot c .none i x = true := by
    intro i x hx
    simp only [Array.getElem?_replicate] at hx
    split at hx
    · cases hx; simp [State.fitsSlot, State.slotType?, hk, hkind, hf]
    · cases hx
  have hda : allocActs (Array.replicate n v) s.heap.size acts = acts := by
    have : ((Array.replicate n v).all (·.isDefault)) = true := by
      rw [Array.all_replicate]; split <;> simp [hd]
    unfold allocActs; rw [if_pos this]
  rw [← arrV_new] at hq
  simp only [Jvm.newArray, Jvm.arrayFits, wp_bind', W.ask, W.ite, h1, if_false, wp_pure', W.theClass, hk, hkind, h2, W.alloc, W.stop, Option.some.injEq, exists_eq_left', Array.size_replicate, hda]
  rw [if_neg (by omega)]
  exact ⟨h3, h4, hfits, hq⟩
theorem mm_make {c cy cc : ClassId} {k ky : Class} {n m : Int32} (hk : s.vm.classes[c]? = some k) (hkind : k.kind = .array cy (.array .long)) (hky : s.vm.classes[cy]? = some ky) (hkindy : ky.kind = .array cc .long) (hn : ¬ n < 0) (hm : ¬ m < 0)
    (hl1 : ¬ n.toNatClampNeg > e.platform.arrayLengthLimit) (hh1 : ¬ n.toNatClampNeg * componentBytes (.array .long) > e.platform.maxHeapBytes) (hl2 : ¬ m.toNatClampNeg > e.platform.arrayLengthLimit) (hh2 : ¬ m.toNatClampNeg * componentBytes .long > e.platform.maxHeapBytes)
    (hc : s.heap.size + 1 + n.toNatClampNeg ≤ e.platform.maxCells) (hs : s.slotsUsed + n.toNatClampNeg + n.toNatClampNeg * m.toNatClampNeg ≤ e.platform.maxSlots) {Q : Addr → Pre} (hq : ∀ d' acts', Q s.heap.size d' acts' (mmS s c cy n.toNatClampNeg m.toNatClampNeg n.toNatClampNeg)) :
    wp (Op.multianewarray.make c [n, m]) Q E e d acts s := by
  have hfind : ([m].find? (· < 0)) = none := by simp [hm]
  rw [Op.multianewarray.make]
  simp only [wp_bind', W.ite, hn, if_false, wp_pure', W.theClass, hk, hkind, Option.some.injEq, exists_eq_left']
  refine mm_new hk hkind hl1 hh1 rfl rfl (by omega) (by have := Nat.zero_le (n.toNatClampNeg * m.toNatClampNeg); omega) ?_
  simp only [hfind]
  rw [ite_self, wp_bind', Std.Legacy.Range.forIn_eq_forIn_range']
  have hsz : ([:n.toNatClampNeg] : Std.Legacy.Range).size = n.toNatClampNeg := by simp [Std.Legacy.Range.size]
  rw [hsz]
  show wp (forIn (List.range' 0 n.toNatClampNeg 1) PUnit.unit _) _ E e d acts _
  refine wp_forIn_inv (fun rest s' => ∃ i, i ≤ n.toNatClampNeg ∧ rest = List.range' i (n.toNatClampNeg - i) ∧ s' = mmS s c cy n.toNatClampNeg m.toNatClampNeg i) _ _ ⟨0, Nat.zero_le _, rfl, ?_⟩ ?_ ?_
  · show s.pushCell _ = s.pushCell _
    congr 1
  · rintro x rest s' d' acts' Q' ⟨i, hi, hl, rfl⟩ hnext
    have hlt : i < n.toNatClampNeg := by
      rcases Nat.lt_or_ge i n.toNatClampNeg with h | h
      · exact h
      · rw [show n.toNatClampNeg - i = 0 by omega] at hl; simp at hl
    obtain ⟨rfl, hrest⟩ : x = i ∧ rest = List.range' (i + 1) (n.toNatClampNeg - (i + 1)) := by
      rw [show n.toNatClampNeg - i = (n.toNatClampNeg - (i + 1)) + 1 by omega, List.range'_succ] at hl
      exact ⟨(List.cons.inj hl).1, (List.cons.inj hl).2⟩
    obtain ⟨f1, f2, f3, f4, -, -⟩ := mmS_facts s c cy n.toNatClampNeg m.toNatClampNeg x
    have hmul : x * m.toNatClampNeg + m.toNatClampNeg ≤ n.toNatClampNeg * m.toNatClampNeg := by
      have := Nat.mul_le_mul_right m.toNatClampNeg (show x + 1 ≤ n.toNatClampNeg from hlt)
      rw [Nat.succ_mul] at this
      exact this
    simp only [wp_bind']
    rw [Op.multianewarray.make]
    simp only [wp_bind', W.ite, hm, if_false, wp_pure', W.theClass, f3, hky, hkindy, Option.some.injEq, exists_eq_left']
    refine mm_new (by rw [f3]; exact hky) hkindy hl2 hh2 rfl rfl (by rw [f1]; omega) (by rw [f4]; omega) ?_
    have hlt0 : s.heap.size < (mmS s c cy n.toNatClampNeg m.toNatClampNeg x).heap.size := by rw [f1]; omega
    simp only [wp_bind', W.writeLoc, wp_pure']
    refine ⟨mmO c n.toNatClampNeg s.heap.size x, by rw [State.heap_pushCell_of_lt (h := hlt0)]; exact f2, by simp [mmO, arrV], by rw [mmO, arrV_size]; exact hlt, ?_, hnext _ _ _ ⟨x + 1, hlt, hrest, ?_⟩⟩
    · have e1 : (mmO c n.toNatClampNeg s.heap.size x).cls = c := rfl
      have e2 : (mmO c n.toNatClampNeg s.heap.size x).vm = .none := rfl
      rw [e1, e2]
      simp [State.fitsSlot, State.slotType?, f3, hk, hkind, fits]
    · rw [f1, mmO_step]
      rfl
  · rintro s' d' acts' ⟨i, hi, hl, rfl⟩
    have hiN : i = n.toNatClampNeg := by
      rcases Nat.lt_or_ge i n.toNatClampNeg with h | h
      · rw [show n.toNatClampNeg - i = (n.toNatClampNeg - (i + 1)) + 1 by omega, List.range'_succ] at hl; cases hl
      · omega
    subst hiN
    simp only [wp_pure']
    exact hq _ _
end MM
section MR
variable {w : WC} {p : Program} {l : Launch} {e : Env} {R : Room} {s : State} {m : MethodId} {args : Array Value} {below : List Frame} {meth : Method} {c : Code} {H : Heap} {locs : List Loc} {cells slots : Nat} {Q : State → Prop}
variable {y pc : Nat} {st : List Value} {ls : Array Slot} {h : Hp} {cc : ByteArray} {T : State}
theorem mm_stand (X : Stand p l e R s m args below meth c T locs cells slots) (cA cy : ClassId) (N K : Nat) : ∀ i, Stand p l e R s m args below meth c (mmS T cA cy N K i) (locs ++ (List.range i).map fun j => ⟨T.heap.size, j⟩) (cells + 1 + i) (slots + N + i * K)
  | 0 => by
    have h := X.pushed (mmO cA N T.heap.size 0)
    rw [show (mmO cA N T.heap.size 0).slots.size = N from arrV_size _ _ _] at h
    simpa [mmS] using h
  | i + 1 => by
    have Xi := mm_stand X cA cy N K i
    obtain ⟨f1, f2, f3, f4, -, -⟩ := mmS_facts T cA cy N K i
    have hlt0 : T.heap.size < (mmS T cA cy N K i).heap.size := by rw [f1]; omega
    have hcell : ((mmS T cA cy N K i).pushCell (mmI cy K)).heap[T.heap.size]? = some (mmO cA N T.heap.size i) := by rw [State.heap_pushCell_of_lt (h := hlt0)]; exact f2
    have h := (Xi.pushed (mmI cy K)).stored hcell i (.ref (T.heap.size + 1 + i))
    rw [mmO_step, show (mmI cy K).slots.size = K from arrV_size _ _ _] at h
    have e2 : (locs ++ (List.range (i + 1)).map fun j => (⟨T.heap.size, j⟩ : Loc)) = (locs ++ (List.range i).map fun j => (⟨T.heap.size, j⟩ : Loc)) ++ [⟨T.heap.size, i⟩] := by simp [List.range_succ, List.append_assoc]
    have e3 : slots + N + (i + 1) * K = slots + N + i * K + K := by rw [Nat.succ_mul]; omega
    rw [e2, e3]
    exact h
theorem z_mna (hx : p.tables.exec = Jvm.exec) (hb : c.code = cc) (hK : va_K w.2.1 vwCl (tysW w) s) (hts : ∀ q ∈ BIGG, q.before args s = true) {own : String} {index pl : Nat} (hown : s.vm.findClass own = some m.cls) (hW : WdH w s h H locs) (hlk : linkOK pl (.classLink own index "[[J") = true) (hAO : vz_AOA .long s) {n k : Int32} (hn : ¬ n < 0) (hk : ¬ k < 0) (hn2 : n.toNatClampNeg ≤ 1000) (hk2 : k.toNatClampNeg ≤ 1000)
    (hcells : cells + (1 + n.toNatClampNeg) ≤ R.cells) (hslots : slots + (n.toNatClampNeg + n.toNatClampNeg * k.toNatClampNeg) ≤ R.slots) (hd : decode cc pc = .ok (.multianewarray index 2, 4))
    (kk : ∀ H1 locs1, WdH w s (rowNew h n.toNatClampNeg k.toNatClampNeg) H1 locs1 → W p l e R s m args below meth c H1 locs1 (cells + (1 + n.toNatClampNeg)) (slots + (n.toNatClampNeg + n.toNatClampNeg * k.toNatClampNeg)) Q (F0 m (pc + 4) ls (.ref (w.1 + h.1.length) :: st))) :
    W p l e R s m args below meth c H locs cells slots Q (F0 m pc ls (.int k :: .int n :: st)) := by
  intro T hT X
  have hpl : e.platform.magicAccessors = ({} : Platform).magicAccessors := by rw [X.admits.platform]
  obtain ⟨comp, cA, kA, hcomp, -, hkA, hkindA, hnameA⟩ := arrayOverA_spec hAO
  obtain ⟨hArr, hRA⟩ := hK.2 1 _ rfl
  have hcy : s.vm.findClass (FieldType.array .long).toString = some (w.2.2.1 1) := hRA
  obtain rfl : comp = w.2.2.1 1 := Option.some.inj (hcomp.symm.trans hcy)
  obtain ⟨-, kC, hkC, ccl, hkindC⟩ := hArr 0 (fun _ => .null)
  have hcl0 := hts _ (linkOK_in hlk)
  obtain ⟨c0, hfc0, hcl⟩ := Cond.classLink_spec hown hcl0 e.platform hpl
  have hnameA' : s.vm.findClass "[[J" = some cA := hnameA
  obtain rfl : cA = c0 := Option.some.inj (hnameA'.symm.trans hfc0)
  have hcA4 : cA = w.2.2.1 4 := Option.some.inj (hnameA'.symm.trans (hK.2 4 _ rfl).2)
  obtain ⟨hg₁, hwarm₁, hready₁⟩ := State.classEntry (e := e) X.warmed hcl
  generalize T.vm.noted m.cls index (.cls cA) = vm₁ at hg₁ hwarm₁ hready₁
  have hal : s.vm.Alike vm₁ := hwarm₁.alike
  obtain ⟨kA₁, hkA₁, heA⟩ := hal.2.2 _ _ hkA
  obtain ⟨kC₁, hkC₁, heC⟩ := hal.2.2 _ _ hkC
  have hkindA₁ : kA₁.kind = .array (w.2.2.1 1) (.array .long) := by rw [heA]; exact hkindA
  have hkindC₁ : kC₁.kind = .array ccl .long := by rw [heC]; exact hkindC
  have X₁ := X.noted hwarm₁
  obtain ⟨hr1, hr2⟩ := X.roomAbove hcells hslots
  have XF := mm_stand X₁ cA (w.2.2.1 1) n.toNatClampNeg k.toNatClampNeg n.toNatClampNeg
  obtain ⟨f1, f2, f3, f4, f5, f6⟩ := mmS_facts (T.setVm vm₁) cA (w.2.2.1 1) n.toNatClampNeg k.toNatClampNeg n.toNatClampNeg
  have hTh : (T.setVm vm₁).heap = H := hT
  have hTz : (T.setVm vm₁).heap.size = w.1 + h.1.length := by rw [hTh]; exact hW.1
  have hWN : WdH w s (rowNew h n.toNatClampNeg k.toNatClampNeg) (mmS (T.setVm vm₁) cA (w.2.2.1 1) n.toNatClampNeg k.toNatClampNeg n.toNatClampNeg).heap locs := by
    refine hW.app (l := .inl (4, n.toNatClampNeg) :: List.replicate n.toNatClampNeg (.inl (1, k.toNatClampNeg))) rfl (fun b s' hb' => ?_) (by rw [f1, hTz, hW.1]; simp; omega) (fun q hq => by rw [f5 q (by rw [hTh]; exact hq), hTh]) (fun j s' hj => ?_)
    · refine cel_push (h := h) (a := b) (h' := rowNew h n.toNatClampNeg k.toNatClampNeg) ?_ ?_ ?_ s'
      · show (if h.1.length ≤ b then (fun _ => (0 : Int32)) else h.2.1 b) = h.2.1 b
        rw [if_neg (by omega)]
      · show (if h.1.length ≤ b then (fun _ => (0 : Int64)) else h.2.2.1 b) = h.2.2.1 b
        rw [if_neg (by omega)]
      · show (if b = h.1.length then (fun i => if i < n.toNatClampNeg then some (h.1.length + 1 + i) else none) else if h.1.length ≤ b then (fun _ => none) else h.2.2.2 b) = h.2.2.2 b
        rw [if_neg (by omega), if_neg (by omega)]
    · cases j with
      | zero =>
        rw [List.getElem?_cons_zero] at hj
        cases hj
        show (mmS (T.setVm vm₁) cA (w.2.2.1 1) n.toNatClampNeg k.toNatClampNeg n.toNatClampNeg).heap[w.1 + (h.1.length + 0)]? = some (vp_cell (w.2.2.1 4) (n.toNatClampNeg, cfa w (rowNew h n.toNatClampNeg k.toNatClampNeg) (h.1.length + 0) 4))
        rw [Nat.add_zero, ← hTz, f2, cfa_4, vp_cell_q, ← hcA4, hTz]
        unfold mmO
        congr 2
        funext j
        have er : (rowNew h n.toNatClampNeg k.toNatClampNeg).2.2.2 h.1.length j = if j < n.toNatClampNeg then some (h.1.length + 1 + j) else none := by
          show (if h.1.length = h.1.length then (fun i => if i < n.toNatClampNeg then some (h.1.length + 1 + i) else none) else if h.1.length ≤ h.1.length then (fun _ => none) else h.2.2.2 h.1.length) j = _
          rw [if_pos rfl]
        rw [er]
        by_cases hj2 : j < n.toNatClampNeg
        · rw [if_pos hj2, if_pos hj2]
          show Value.ref (w.1 + h.1.length + 1 + j) = Value.ref (w.1 + (h.1.length + 1 + j))
          rw [show w.1 + h.1.length + 1 + j = w.1 + (h.1.length + 1 + j) by omega]
        · rw [if_neg hj2, if_neg hj2]
          rfl
      | succ j =>
        rw [List.getElem?_cons_succ] at hj
        have hjn : j < n.toNatClampNeg := by
          have := (List.getElem?_eq_some_iff.mp hj).1
          simpa using this
        rw [List.getElem?_replicate, if_pos hjn] at hj
        cases hj
        show (mmS (T.setVm vm₁) cA (w.2.2.1 1) n.toNatClampNeg k.toNatClampNeg n.toNatClampNeg).heap[w.1 + (h.1.length + (j + 1))]? = some (vp_cell (w.2.2.1 1) (k.toNatClampNeg, cfa w (rowNew h n.toNatClampNeg k.toNatClampNeg) (h.1.length + (j + 1)) 1))
        have h6 := f6 j hjn
        rw [hTz] at h6
        rw [show w.1 + (h.1.length + (j + 1)) = w.1 + h.1.length + 1 + j by omega, h6, cfa_1, vp_cell_l]
        unfold mmI
        congr 2
        funext i
        show Value.long 0 = .long ((if h.1.length ≤ h.1.length + (j + 1) then (fun _ => (0 : Int64)) else h.2.2.1 (h.1.length + (j + 1))) i)
        rw [if_pos (by omega)]
  have hWN2 : WdH w s (rowNew h n.toNatClampNeg k.toNatClampNeg) (mmS (T.setVm vm₁) cA (w.2.2.1 1) n.toNatClampNeg k.toNatClampNeg n.toNatClampNeg).heap (locs ++ (List.range n.toNatClampNeg).map fun j => ⟨(T.setVm vm₁).heap.size, j⟩) := by
    refine ⟨hWN.1, hWN.2.1, hWN.2.2.1, hWN.2.2.2.1, fun q hq => ?_⟩
    rcases List.mem_append.mp hq with h9 | h9
    · exact hW.2.2.2.2 q h9
    · obtain ⟨z, -, hz⟩ := List.mem_map.mp h9
      rw [← hz]
      show w.1 ≤ (T.setVm vm₁).heap.size
      omega
  obtain ⟨t, a1, b1⟩ := kk _ _ hWN2 (mmS (T.setVm vm₁) cA (w.2.2.1 1) n.toNatClampNeg k.toNatClampNeg n.toNatClampNeg) rfl (by
    have e1 : cells + 1 + n.toNatClampNeg = cells + (1 + n.toNatClampNeg) := by omega
    have e2 : slots + n.toNatClampNeg + n.toNatClampNeg * k.toNatClampNeg = slots + (n.toNatClampNeg + n.toNatClampNeg * k.toNatClampNeg) := by omega
    rw [← e1, ← e2]
    exact XF)
  refine ⟨t, ?_, b1⟩
  have hl1 : ¬ n.toNatClampNeg > e.platform.arrayLengthLimit := by rw [Launch.admits_arrayLengthLimit X.admits]; omega
  have hh1 : ¬ n.toNatClampNeg * componentBytes (.array .long) > e.platform.maxHeapBytes := by
    rw [Launch.admits_maxHeapBytes X.admits]; show ¬ n.toNatClampNeg * 4 > 536870912; omega
  have hl2 : ¬ k.toNatClampNeg > e.platform.arrayLengthLimit := by rw [Launch.admits_arrayLengthLimit X.admits]; omega
  have hh2 : ¬ k.toNatClampNeg * componentBytes .long > e.platform.maxHeapBytes := by rw [Launch.admits_maxHeapBytes X.admits]; show ¬ k.toNatClampNeg * 8 > 536870912; omega
  jvm_step X.here [hx, hb, hd, X.here.top]
  simp only [Op.multianewarray.sem, wp_bind', W.resolveClassAt_links (State.method?_setTop (F0 m pc ls (.int k :: .int n :: st)) X.here.top) hg₁]
  rw [W.popN, if_neg (by decide)]
  refine ⟨F0 m pc ls (.int k :: .int n :: st), State.topJava?_setTop' (s := T.setVm vm₁) (F0 m pc ls (.int k :: .int n :: st)) X.here.top, [.int n, .int k], st, rfl, rfl, ?_⟩
  simp only [List.mapM_cons, List.mapM_nil, wp_bind', wp_pure']
  refine mm_make (k := kA₁) (ky := kC₁) (cy := w.2.2.1 1) (cc := ccl) hkA₁ hkindA₁ hkC₁ hkindC₁ hn hk hl1 hh1 hl2 hh2 (by show T.heap.size + 1 + _ ≤ _; omega) (by show T.slotsUsed + _ + _ ≤ _; omega) (fun d' acts' => ?_)
  have eS : ((T.setTop (F0 m pc ls (.int k :: .int n :: st))).setVm vm₁).setTop { F0 m pc ls (.int k :: .int n :: st) with stack := st } = (T.setVm vm₁).setTop { F0 m pc ls (.int k :: .int n :: st) with stack := st } := by
    show ((T.setVm vm₁).setTop (F0 m pc ls (.int k :: .int n :: st))).setTop _ = _
    rw [State.setTop_setTop]
  rw [eS, mmS_top]
  simp only [wp_bind', W.mark, W.pushRef, State.topJava?_setTop' _ XF.here.top, Option.some.injEq, exists_eq_left', State.setTop_setTop, State.heap_setTop]
  intro acts
  simp [jvm, XF.here.top]
  rw [show T.heap.size = w.1 + h.1.length from hTz]
  exact a1
end MR
end
section
/-! The steps on the heap are the machine's. -/
theorem slotS_app (a b : List Sh) : slotS (a ++ b) = slotS a + slotS b := by simp [slotS]
theorem slotS_rep (n k : Nat) : slotS (List.replicate n (.inl (1, k))) = n * k := by
  induction n with
  | zero => simp [slotS]
  | succ n ih =>
    rw [List.replicate_succ, show (Sum.inl (1, k) :: List.replicate n (Sum.inl (1, k)) : List Sh) = [Sum.inl (1, k)] ++ List.replicate n (Sum.inl (1, k)) from rfl, slotS_app, ih, Nat.succ_mul]
    simp [slotS, shSz]
    omega
theorem cfv_int {w : WC} {h : Hp} {ci a k : Nat} (hr : isRefTy (vwTy ci k) = false) : cfv w h ci a k = .int (h.2.1 a k) := by
  unfold cfv
  rw [hr]
  rfl
theorem cfv_ref {w : WC} {h : Hp} {ci a k : Nat} (hr : isRefTy (vwTy ci k) = true) : cfv w h ci a k = va_rf ((h.2.2.2 a k).map (fun b => w.1 + b)) := by
  unfold cfv
  rw [hr]
  rfl
section HS
variable {w : WC} {p : Program} {l : Launch} {e : Env} {R : Room} {s : State} {m : MethodId} {args : Array Value} {below : List Frame} {meth : Method} {c : Code} {H : Heap} {locs : List Loc} {cells slots : Nat} {Q : State → Prop}
variable {y pc len : Nat} {L st L' st' : List Value} {i : Instr} {o : List Nat} {pc' : Nat} {ls : Array Slot} {h h' : Hp}
theorem g_new (M : MC w p s m args meth c y) (hW : WdH w s h H locs) {idx ci k nest pl a : Nat} {v : Value} (hci : ci < 8) (hd : decode (mBytes y) pc = .ok (.getfield idx, 3)) (hf : fldOK (mName y).cls idx ci k nest pl = true) (ha : a < OLDB) (hs : h.1[a]? = some (.inr ci)) (hk : k < vwN ci) (hv : fval h ci a k = some v)
    (kk : W p l e R s m args below meth c H locs cells slots Q (F0 m (pc + 3) ls (tr w v :: st))) : W p l e R s m args below meth c H locs cells slots Q (F0 m pc ls (tr w (.ref a) :: st)) := by
  obtain ⟨hx, hb, -, -, -, hown, -, hts, hN, hK, hO⟩ := M
  have hg := wsH_get (w := w) hs
  have hfs : ((List.range (vwN ci)).map (fun j => cfv w h ci a j))[k]? = some (tr w v) := by
    rw [List.getElem?_map, List.getElem?_range hk]
    show some (cfv w h ci a k) = _
    unfold fval at hv
    by_cases hr : isRefTy (vwTy ci k) = true
    · rw [if_pos hr] at hv
      rw [cfv_ref hr]
      cases hq : h.2.2.2 a k with
      | none => rw [hq] at hv; cases hv
      | some b =>
        rw [hq] at hv
        obtain ⟨hb2, hv⟩ := inv_if hv
        cases hv
        rw [tr_new hb2]
        rfl
    · rw [if_neg hr] at hv
      cases hv
      rw [cfv_int (by simpa using hr)]
      rfl
  rw [tr_new ha]
  unfold fldOK at hf
  by_cases hn : nest = 0
  · rw [if_pos hn] at hf
    exact va_get hx hb hts (cls_ws ci hci) hown hK hW.2.1 a hg (cls_tab ci hci) k hk (hts _ (linkOK_in hf)) (fun x hxx => by rw [cls_decl ci hci k hk] at hxx; exact hxx) hfs hd kk
  · rw [if_neg hn] at hf
    exact va_getN hx hb hts (cls_ws ci hci) hown hK hW.2.1 a hg (cls_tab ci hci) k hk (va_Nw.use rfl (hN _ (nestOK_in hf))) (fun x hxx => by rw [cls_decl ci hci k hk] at hxx; exact hxx) hfs hd kk
theorem g_str (M : MC w p s m args meth c y) (hW : WdH w s h H locs) {idx f pl a : Nat} (hd : decode (mBytes y) pc = .ok (.getfield idx, 3)) (hf : linkOK pl (.fieldLink (mName y).cls idx "java/lang/String" (sFld f) (sFldD f)) = true) (ha : OLDB + 3 ≤ a ∧ a < OLDB + 8)
    (kk : W p l e R s m args below meth c H locs cells slots Q (F0 m (pc + 3) ls (tr w (if f = 0 then .ref (a + 5) else .int 0) :: st))) : W p l e R s m args below meth c H locs cells slots Q (F0 m pc ls (tr w (.ref a) :: st)) := by
  obtain ⟨hx, hb, -, -, -, hown, -, hts, hN, hK, hO⟩ := M
  have hB := OLDB_eq
  have hS := hO.2.2.2.2.2.2.2.2.2.1
  rw [tr_old (by omega) (by omega), show a - OLDB = 3 + (a - OLDB - 3) by omega]
  obtain ⟨-, h2, h3, -⟩ := hS.1 (a - OLDB - 3) (by omega)
  by_cases hf0 : f = 0
  · subst hf0
    rw [if_pos rfl, tr_old (by omega) (by omega), show a + 5 - OLDB = 8 + (a - OLDB - 3) by omega] at kk
    exact vk_getf hx hb h3 hW.2.2 hown (hts _ (linkOK_in hf)) (fun _ q => q) hd kk
  · rw [if_neg hf0] at kk
    have e1 : sFld f = "coder" := if_neg hf0
    have e2 : sFldD f = "B" := if_neg hf0
    rw [e1, e2] at hf
    exact vk_getf hx hb h2 hW.2.2 hown (hts _ (linkOK_in hf)) (fun _ q => q) hd kk
theorem old_int (M : MC w p s m args meth c y) (hW : WdH w s h H locs) {a n : Nat} {f : Nat → Int32} {j : Int32} (ha : ¬ a < OLDB) (ho : oldArr w.2.2.2.2.2 (a - OLDB) = some (0, n, f)) (hin : inB j n = true) (hd : decode (mBytes y) pc = .ok (.iaload, 1))
    (kk : W p l e R s m args below meth c H locs cells slots Q (F0 m (pc + 1) ls (.int (f j.toNatClampNeg) :: st))) : W p l e R s m args below meth c H locs cells slots Q (F0 m pc ls (.int j :: tr w (.ref a) :: st)) := by
  obtain ⟨hx, hb, -, -, -, hown, -, hts, hN, hK, hO⟩ := M
  have hB := OLDB_eq
  unfold oldArr at ho
  by_cases h0 : a - OLDB = 0
  · rw [if_pos h0] at ho
    cases ho
    rw [tr_old ha (by omega), h0]
    exact va_sld hx hb hO.1 (Nat.lt_of_lt_of_le hO.2.1 hO.2.2.1) (by show ¬ w.1 ≤ _; have := hO.2.1; omega) hW.2.2 (inB_in hin) hd kk
  · rw [if_neg h0] at ho
    by_cases h1 : a - OLDB = 1
    · rw [if_pos h1] at ho
      cases ho
      rw [tr_old ha (by omega), h1]
      exact va_ti hx hb hO.2.2.2.1 hW.2.2 (inB_in hin) rfl hd kk
    · rw [if_neg h1] at ho
      by_cases h2 : a - OLDB = 2
      · rw [if_pos h2] at ho
        cases ho
        rw [tr_old ha (by omega), h2]
        exact va_ti hx hb hO.2.2.2.2.1 hW.2.2 (inB_in hin) rfl hd kk
      · rw [if_neg h2] at ho
        obtain ⟨-, ho⟩ := inv_if ho
        cases ho
theorem old_byte (M : MC w p s m args meth c y) (hW : WdH w s h H locs) {a n : Nat} {f : Nat → Int32} {j : Int32} (ha : ¬ a < OLDB) (ho : oldArr w.2.2.2.2.2 (a - OLDB) = some (5, n, f)) (hin : inB j n = true) (hd : decode (mBytes y) pc = .ok (.baload, 1))
    (kk : W p l e R s m args below meth c H locs cells slots Q (F0 m (pc + 1) ls (.int (f j.toNatClampNeg) :: st))) : W p l e R s m args below meth c H locs cells slots Q (F0 m pc ls (.int j :: tr w (.ref a) :: st)) := by
  obtain ⟨hx, hb, -, -, -, hown, -, hts, hN, hK, hO⟩ := M
  have hB := OLDB_eq
  unfold oldArr at ho
  by_cases h0 : a - OLDB = 0
  · rw [if_pos h0] at ho
    cases ho
  · rw [if_neg h0] at ho
    by_cases h1 : a - OLDB = 1
    · rw [if_pos h1] at ho
      cases ho
    · rw [if_neg h1] at ho
      by_cases h2 : a - OLDB = 2
      · rw [if_pos h2] at ho
        cases ho
      · rw [if_neg h2] at ho
        obtain ⟨h3, ho⟩ := inv_if ho
        injection ho with ho
        injection ho with e0 ho
        injection ho with e1 e2
        subst e1
        subst e2
        have hS := hO.2.2.2.2.2.2.2.2.2.1
        obtain ⟨-, -, -, h4⟩ := hS.1 (a - OLDB - 8) (by omega)
        rw [tr_old ha (by omega), show a - OLDB = 8 + (a - OLDB - 8) by omega]
        exact va_tb hx hb h4 hW.2.2 (inB_in hin) rfl hd kk
theorem old_len (M : MC w p s m args meth c y) (hW : WdH w s h H locs) {a t n : Nat} {f : Nat → Int32} (ha : ¬ a < OLDB) (ho : oldArr w.2.2.2.2.2 (a - OLDB) = some (t, n, f)) (hd : decode (mBytes y) pc = .ok (.arraylength, 1))
    (kk : W p l e R s m args below meth c H locs cells slots Q (F0 m (pc + 1) ls (.int (Int32.ofNat n) :: st))) : W p l e R s m args below meth c H locs cells slots Q (F0 m pc ls (tr w (.ref a) :: st)) := by
  obtain ⟨hx, hb, -, -, -, hown, -, hts, hN, hK, hO⟩ := M
  have hB := OLDB_eq
  unfold oldArr at ho
  by_cases h0 : a - OLDB = 0
  · rw [if_pos h0] at ho
    cases ho
    rw [tr_old ha (by omega), h0]
    exact va_slen hx hb hO.1 (Nat.lt_of_lt_of_le hO.2.1 hO.2.2.1) (by show ¬ w.1 ≤ _; have := hO.2.1; omega) hW.2.2 hd kk
  · rw [if_neg h0] at ho
    by_cases h1 : a - OLDB = 1
    · rw [if_pos h1] at ho
      cases ho
      rw [tr_old ha (by omega), h1]
      exact va_tlen hx hb hO.2.2.2.1 hW.2.2 rfl hd kk
    · rw [if_neg h1] at ho
      by_cases h2 : a - OLDB = 2
      · rw [if_pos h2] at ho
        cases ho
        rw [tr_old ha (by omega), h2]
        exact va_tlen hx hb hO.2.2.2.2.1 hW.2.2 rfl hd kk
      · rw [if_neg h2] at ho
        obtain ⟨h3, ho⟩ := inv_if ho
        injection ho with ho
        injection ho with e0 ho
        injection ho with e1 e2
        subst e1
        subst e2
        have hS := hO.2.2.2.2.2.2.2.2.2.1
        obtain ⟨-, -, -, h4⟩ := hS.1 (a - OLDB - 8) (by omega)
        rw [tr_old ha (by omega), show a - OLDB = 8 + (a - OLDB - 8) by omega]
        exact va_tlen hx hb h4 hW.2.2 rfl hd kk
theorem sta_get (M : MC w p s m args meth c y) (hW : WdH w s h H locs) {idx sid nest pl : Nat} {v : Value} (hd : decode (mBytes y) pc = .ok (.getstatic idx, 3)) (hf : staOK (mName y).cls idx sid nest pl = true)
    (hv : (sid = 0 ∧ v = .ref (OLDB + 1)) ∨ (sid = 1 ∧ v = .ref (OLDB + 2)) ∨ (sid = 2 ∧ v = .int 1) ∨ (sid = 3 ∧ v = .ref (OLDB + 13)))
    (kk : W p l e R s m args below meth c H locs cells slots Q (F0 m (pc + 3) ls (tr w v :: st))) : W p l e R s m args below meth c H locs cells slots Q (F0 m pc ls st) := by
  obtain ⟨hx, hb, -, -, -, hown, -, hts, hN, hK, hO⟩ := M
  have hB := OLDB_eq
  obtain ⟨-, -, -, -, -, hZ1, hZ2, hZ3, hZ4, -⟩ := hO
  rcases hv with ⟨rfl, rfl⟩ | ⟨rfl, rfl⟩ | ⟨rfl, rfl⟩ | ⟨rfl, rfl⟩
  · rw [tr_old (by omega) (by omega), show OLDB + 1 - OLDB = 1 by omega] at kk
    simp only [staOK] at hf
    by_cases hn : nest = 0
    · rw [if_pos hn] at hf
      exact va_gets hx hb hZ1 hW.2.2 hown (hts _ (linkOK_in hf)) (fun _ q => q) hd kk
    · rw [if_neg hn] at hf
      exact va_getsN hx hb hZ1 hW.2.2 hown (va_Nw.use rfl (hN _ (nestOK_in hf))) (fun _ q => q) hd kk
  · rw [tr_old (by omega) (by omega), show OLDB + 2 - OLDB = 2 by omega] at kk
    exact va_gets hx hb hZ2 hW.2.2 hown (hts _ (linkOK_in ((Bool.and_eq_true _ _).mp hf).2)) (fun _ q => q) hd kk
  · exact va_gets hx hb hZ3 hW.2.2 hown (hts _ (linkOK_in ((Bool.and_eq_true _ _).mp hf).2)) (fun _ q => q) hd kk
  · have e : tr w (.ref (OLDB + 13)) = w.2.2.2.2.1 := by
      show (if OLDB + 13 = OLDB + 13 then w.2.2.2.2.1 else Value.ref (wfi w (OLDB + 13))) = _
      exact if_pos rfl
    rw [e] at kk
    exact va_gets hx hb hZ4 hW.2.2 hown (hts _ (linkOK_in ((Bool.and_eq_true _ _).mp hf).2)) (fun _ q => q) hd kk
end HS
end
section
theorem tr_sum {w : WC} (hz : w.2.2.2.2.1.category = 1) (st : List Value) : ((st.map (tr w)).map fun v => v.category).sum = (st.map fun v => v.category).sum := by
  rw [List.map_map]
  congr 1
  exact List.map_congr_left (fun v _ => tr_cat hz v)
section HS2
variable {w : WC} {p : Program} {l : Launch} {e : Env} {R : Room} {s : State} {m : MethodId} {args : Array Value} {below : List Frame} {meth : Method} {c : Code} {H : Heap} {locs : List Loc} {cells slots : Nat} {Q : State → Prop}
variable {y pc len : Nat} {L st L' st' : List Value} {i : Instr} {o : List Nat} {pc' : Nat} {ls : Array Slot} {h h' : Hp}
theorem z_aald (M : MC w p s m args meth c y) (hW : WdH w s h H locs) {a t n b : Nat} {j : Int32} (ha : h.1[a]? = some (.inl (t, n))) (ht : t = 3 ∨ t = 4) (hin : inB j n = true) (hr : h.2.2.2 a j.toNatClampNeg = some b) (hbo : b < OLDB) (hd : decode (mBytes y) pc = .ok (.aaload, 1))
    (kk : W p l e R s m args below meth c H locs cells slots Q (F0 m (pc + 1) ls (tr w (.ref b) :: st))) : W p l e R s m args below meth c H locs cells slots Q (F0 m pc ls (.int j :: .ref (w.1 + a) :: st)) := by
  obtain ⟨hx, hb, -, -, -, hown, -, hts, hN, hK, hO⟩ := M
  have hg := wsH_get (w := w) ha
  have hi := inB_in hin
  have hlt : j.toNatClampNeg < n := Nat.not_le.mp fun q => hi (Or.inr q)
  rw [tr_new hbo] at kk
  have hcell : H[w.1 + a]? = some (arrV (w.2.2.1 t) n (fun i => va_rf ((h.2.2.2 a i).map (fun b => w.1 + b)))) := by
    have := hW.2.1 a _ hg
    rcases ht with rfl | rfl <;> exact this
  have hty : ∃ ty, (tysW w)[t]? = some (w.2.2.1 t, ty) ∧ ty.isReference = true := by
    rcases ht with rfl | rfl
    · exact ⟨_, rfl, rfl⟩
    · exact ⟨_, rfl, rfl⟩
  obtain ⟨ty, hty, hrf⟩ := hty
  refine W.aald (v := .ref (w.1 + b)) hx hb hcell ((hK.2 t _ hty).1 n (fun i => va_rf ((h.2.2.2 a i).map (fun b => w.1 + b)))) hrf (fun q => by cases q) (by rw [arrV_size]; exact hi) ?_ rfl rfl hd kk
  rw [arrV_read _ _ hlt, hr]
  rfl
set_option maxHeartbeats 4000000 in
theorem hs_sound (M : MC w p s m args meth c y) (hdec : decode (mBytes y) pc = .ok (i, len)) (hlen : ilen i = 0 ∨ ilen i = len) (hlk : lnkE y i o = true) (hl : lv_has ls (mMaxL y) (asL w L)) (hL : L.length = mMaxL y) (hW : WdH w s h H locs) (hroom : 1 ≤ R.frames ∧ 200 ≤ R.locals)
    (hh : hstep w.2.2.2.2.2 i o pc L st h = some (pc', L', st', h')) (hc : cells + h'.1.length ≤ R.cells + h.1.length) (hsl : slots + slotS h'.1 ≤ R.slots + slotS h.1)
    (kk : ∀ ls' H' locs' cells' slots', lv_has ls' (mMaxL y) (asL w L') → L'.length = mMaxL y → WdH w s h' H' locs' → cells' + h.1.length = cells + h'.1.length → slots' + slotS h.1 = slots + slotS h'.1 → W p l e R s m args below meth c H' locs' cells' slots' Q (F0 m pc' ls' (st'.map (tr w)))) :
    W p l e R s m args below meth c H locs cells slots Q (F0 m pc ls (st.map (tr w))) := by
  have M0 := M
  obtain ⟨hx, hb, -, -, hml, hown, hmn, hts, hN, hK, hO⟩ := M
  have hB := OLDB_eq
  have nochange : h' = h → (∀ ls', lv_has ls' (mMaxL y) (asL w L') → L'.length = mMaxL y → W p l e R s m args below meth c H locs cells slots Q (F0 m pc' ls' (st'.map (tr w)))) := fun eh ls' a1 a2 => kk ls' H locs cells slots a1 a2 (by rw [eh]; exact hW) (by rw [eh]) (by rw [eh])
  have pure : (pstep i o pc L st).map (fun q => (q.1, q.2.1, q.2.2, h)) = some (pc', L', st', h') → W p l e R s m args below meth c H locs cells slots Q (F0 m pc ls (st.map (tr w))) := by
    intro hp
    obtain ⟨⟨p1, p2, p3⟩, hp1, hp2⟩ := Option.map_eq_some_iff.mp hp
    injection hp2 with e1 hp2
    injection hp2 with e2 hp2
    injection hp2 with e3 e4
    subst e1; subst e2; subst e3
    exact ps_sound M0 hdec hlen hlk hl hL hp1 (nochange e4.symm)
  cases i with
  | getfield idx =>
    obtain ⟨st1, hg, hp2⟩ := Option.map_eq_some_iff.mp (show (getF o st h).map (fun st' => (pc + 3, L, st', h)) = some (pc', L', st', h') from hh)
    cases hp2
    have hd := dl hdec hlen (n := 2) rfl
    unfold getF at hg
    split at hg
    · rename_i f n1 pl
      split at hg
      · rename_i a st2
        obtain ⟨ha, hg⟩ := inv_if hg
        cases hg
        exact g_str M0 hW hd hlk ha (nochange rfl ls hl hL)
      · cases hg
    · rename_i ci k nest pl hne
      split at hg
      · rename_i a st2
        obtain ⟨⟨ha, hs, hk⟩, hg⟩ := inv_if hg
        obtain ⟨v, hv, hg⟩ := Option.map_eq_some_iff.mp hg
        cases hg
        have hlk2 : (fldOK (mName y).cls idx ci k nest pl && decide (ci < 8)) = true := by
          simp only [lnkE] at hlk
          exact hlk
        obtain ⟨h1, h2⟩ := (Bool.and_eq_true _ _).mp hlk2
        exact g_new M0 hW (of_decide_eq_true h2) hd h1 ha hs hk hv (nochange rfl ls hl hL)
      · cases hg
    · cases hg
  | putfield idx =>
    obtain ⟨⟨st1, h1⟩, hg, hp2⟩ := Option.map_eq_some_iff.mp (show (putF o st h).map (fun q => (pc + 3, L, q.1, q.2)) = some (pc', L', st', h') from hh)
    cases hp2
    have hd := dl hdec hlen (n := 2) rfl
    unfold putF at hg
    split at hg
    · rename_i ci k nest pl
      split at hg
      · rename_i v a st2
        obtain ⟨⟨ha, hs, hk⟩, hg⟩ := inv_if hg
        have hlk2 : (fldOK (mName y).cls idx ci k nest pl && decide (ci < 8) && ((vwT ci k).2.2.2 == false || (decide (nest = 0) && decide ((mName y).name = "<init>") && decide ((mName y).cls = vwC ci)))) = true := hlk
        obtain ⟨h12, h3⟩ := (Bool.and_eq_true _ _).mp hlk2
        obtain ⟨h1, h2⟩ := (Bool.and_eq_true _ _).mp h12
        have hci := of_decide_eq_true h2
        have h3 : ((vwT ci k).2.2.2 == false || (decide (nest = 0) && decide (meth.name = "<init>") && decide ((mName y).cls = vwC ci))) = true := by
          simp only [Bool.or_eq_true, Bool.and_eq_true, decide_eq_true_eq] at h3 ⊢
          rcases h3 with q | ⟨⟨q1, q2⟩, q3⟩
          · exact Or.inl q
          · exact Or.inr ⟨⟨q1, hmn q2⟩, q3⟩
        cases v with
        | int x =>
          obtain ⟨hr, hg⟩ := inv_ifn hg
          obtain ⟨hbo, hg⟩ := inv_ifn hg
          cases hg
          have hr2 : isRefTy (vwTy ci k) = false := by simpa using hr
          have hnf : narrow (vwTy ci k) (.int x) = .int x ∧ fits (vwTy ci k) (.int x) = true := by
            rcases cls_kind ci hci k hk with q | q | q
            · rw [q]; exact ⟨rfl, rfl⟩
            · have hx01 : x = 0 ∨ x = 1 := by
                rw [q] at hbo
                exact Classical.byContradiction fun hne => hbo ⟨rfl, hne⟩
              rw [q]
              rcases hx01 with rfl | rfl <;> exact ⟨by decide, by decide⟩
            · exact absurd q hr
          show W p l e R s m args below meth c H locs cells slots Q (F0 m pc ls (.int x :: tr w (.ref a) :: st1.map (tr w)))
          rw [tr_new ha]
          refine z_put hx hb hK hts hown hN hW hci hk hs h1 h3 hnf.1 hnf.2 (h' := (h.1, ud h.2.1 a k x, h.2.2.1, h.2.2.2)) rfl (fun b s' hb' => cel_d (ud_ne _ _ hb') s') ?_ ?_ hd (fun H1 locs1 hW1 => kk ls H1 locs1 cells slots hl hL hW1 rfl rfl)
          · rw [cfv_int hr2]
            show Value.int (ud h.2.1 a k x a k) = _
            rw [ud_at]
          · intro j hj
            unfold cfv
            show (if isRefTy (vwTy ci j) = true then va_rf ((h.2.2.2 a j).map (fun b => w.1 + b)) else Value.int (ud h.2.1 a k x a j)) = _
            rw [ud_off _ _ _ hj]
        | ref b =>
          obtain ⟨⟨hr, hbO⟩, hg⟩ := inv_if hg
          cases hg
          have hnf : narrow (vwTy ci k) (.ref (w.1 + b)) = .ref (w.1 + b) ∧ fits (vwTy ci k) (.ref (w.1 + b)) = true := by
            cases hty : vwTy ci k <;> rw [hty] at hr <;> first | exact ⟨rfl, rfl⟩ | cases hr
          show W p l e R s m args below meth c H locs cells slots Q (F0 m pc ls (tr w (.ref b) :: tr w (.ref a) :: st1.map (tr w)))
          rw [tr_new ha, tr_new hbO]
          refine z_put hx hb hK hts hown hN hW hci hk hs h1 h3 hnf.1 hnf.2 (h' := (h.1, h.2.1, h.2.2.1, ud h.2.2.2 a k (some b))) rfl (fun b s' hb' => cel_r (ud_ne _ _ hb') s') ?_ ?_ hd (fun H1 locs1 hW1 => kk ls H1 locs1 cells slots hl hL hW1 rfl rfl)
          · rw [cfv_ref hr]
            show va_rf ((ud h.2.2.2 a k (some b) a k).map (fun b => w.1 + b)) = _
            rw [ud_at]
            rfl
          · intro j hj
            unfold cfv
            show (if isRefTy (vwTy ci j) = true then va_rf ((ud h.2.2.2 a k (some b) a j).map (fun b => w.1 + b)) else Value.int (h.2.1 a j)) = _
            rw [ud_off _ _ _ hj]
        | _ => cases hg
      · cases hg
    · cases hg
  | getstatic idx =>
    have hd := dl hdec hlen (n := 2) rfl
    simp only [hstep] at hh
    split at hh
    · cases hh
      exact sta_get (sid := 0) M0 hW hd hlk (Or.inl ⟨rfl, rfl⟩) (nochange rfl ls hl hL)
    · cases hh
      exact sta_get (sid := 1) M0 hW hd hlk (Or.inr (Or.inl ⟨rfl, rfl⟩)) (nochange rfl ls hl hL)
    · cases hh
      exact sta_get (sid := 2) M0 hW hd hlk (Or.inr (Or.inr (Or.inl ⟨rfl, rfl⟩))) (nochange rfl ls hl hL)
    · cases hh
      exact sta_get (sid := 3) M0 hW hd hlk (Or.inr (Or.inr (Or.inr ⟨rfl, rfl⟩))) (nochange rfl ls hl hL)
    · cases hh
  | arraylength =>
    have hd := dl hdec hlen (n := 0) rfl
    have hq := inv_r hh
    clear hh
    obtain ⟨a, st1, est, hh⟩ := hq
    subst est
    by_cases ha : a < OLDB
    · rw [if_pos ha] at hh
      split at hh
      · rename_i t n hs
        obtain ⟨ht5, hh⟩ := inv_if hh
        cases hh
        show W p l e R s m args below meth c H locs cells slots Q (F0 m pc ls (tr w (.ref a) :: st1.map (tr w)))
        rw [tr_new ha]
        have hg := wsH_get (w := w) hs
        have hkt : t = 0 ∨ t = 1 ∨ t = 2 ∨ t = 3 ∨ t = 4 := by omega
        have hty : ∃ ty, (tysW w)[t]? = some (w.2.2.1 t, ty) := by
          rcases hkt with rfl | rfl | rfl | rfl | rfl <;> exact ⟨_, rfl⟩
        obtain ⟨ty, hty⟩ := hty
        exact va_alen hx hb hK hW.2.1 a t hg hty rfl hd (nochange rfl ls hl hL)
      · cases hh
    · rw [if_neg ha] at hh
      split at hh
      · rename_i t n f ho
        cases hh
        exact old_len M0 hW ha ho hd (nochange rfl ls hl hL)
      · cases hh
  | iaload =>
    have hd := dl hdec hlen (n := 0) rfl
    simp only [hstep] at hh
    split at hh
    · rename_i j a st1
      by_cases ha : a < OLDB
      · rw [if_pos ha] at hh
        split at hh
        · rename_i n hs
          obtain ⟨hin, hh⟩ := inv_if hh
          cases hh
          show W p l e R s m args below meth c H locs cells slots Q (F0 m pc ls (.int j :: tr w (.ref a) :: st1.map (tr w)))
          rw [tr_new ha]
          exact va_iald hx hb hK hW.2.1 a 0 (wsH_get (w := w) hs) rfl (inB_in hin) hd (nochange rfl ls hl hL)
        · cases hh
      · rw [if_neg ha] at hh
        split at hh
        · rename_i n f ho
          obtain ⟨hin, hh⟩ := inv_if hh
          cases hh
          exact old_int M0 hW ha ho hin hd (nochange rfl ls hl hL)
        · cases hh
    · cases hh
  | baload =>
    have hd := dl hdec hlen (n := 0) rfl
    simp only [hstep] at hh
    split at hh
    · rename_i j a st1
      by_cases ha : a < OLDB
      · rw [if_pos ha] at hh
        split at hh
        · rename_i n hs
          obtain ⟨hin, hh⟩ := inv_if hh
          cases hh
          show W p l e R s m args below meth c H locs cells slots Q (F0 m pc ls (.int j :: tr w (.ref a) :: st1.map (tr w)))
          rw [tr_new ha]
          exact va_zald hx hb hK hW.2.1 a 2 (wsH_get (w := w) hs) rfl (inB_in hin) hd (nochange rfl ls hl hL)
        · cases hh
      · rw [if_neg ha] at hh
        split at hh
        · rename_i n f ho
          obtain ⟨hin, hh⟩ := inv_if hh
          cases hh
          exact old_byte M0 hW ha ho hin hd (nochange rfl ls hl hL)
        · cases hh
    · cases hh
  | laload =>
    have hd := dl hdec hlen (n := 0) rfl
    simp only [hstep] at hh
    split at hh
    · rename_i j a st1
      obtain ⟨ha, hh⟩ := inv_if hh
      split at hh
      · rename_i n hs
        obtain ⟨hin, hh⟩ := inv_if hh
        cases hh
        show W p l e R s m args below meth c H locs cells slots Q (F0 m pc ls (.int j :: tr w (.ref a) :: st1.map (tr w)))
        rw [tr_new ha]
        exact va_lald hx hb hK hW.2.1 a 1 (wsH_get (w := w) hs) rfl (inB_in hin) hd (nochange rfl ls hl hL)
      · cases hh
    · cases hh
  | aaload =>
    have hd := dl hdec hlen (n := 0) rfl
    simp only [hstep] at hh
    split at hh
    · rename_i j a st1
      obtain ⟨ha, hh⟩ := inv_if hh
      split at hh
      · rename_i t n hs
        obtain ⟨⟨ht, hin⟩, hh⟩ := inv_if hh
        split at hh
        · rename_i b hr
          obtain ⟨hbO, hh⟩ := inv_if hh
          cases hh
          show W p l e R s m args below meth c H locs cells slots Q (F0 m pc ls (.int j :: tr w (.ref a) :: st1.map (tr w)))
          rw [tr_new ha]
          exact z_aald M0 hW hs ht hin hr hbO hd (nochange rfl ls hl hL)
        · cases hh
      · cases hh
    · cases hh
  | iastore =>
    have hd := dl hdec hlen (n := 0) rfl
    simp only [hstep] at hh
    split at hh
    · rename_i x j a st1
      obtain ⟨ha, hh⟩ := inv_if hh
      split at hh
      · rename_i n hs
        obtain ⟨hin, hh⟩ := inv_if hh
        cases hh
        show W p l e R s m args below meth c H locs cells slots Q (F0 m pc ls (.int x :: .int j :: tr w (.ref a) :: st'.map (tr w)))
        rw [tr_new ha]
        exact z_iast hx hb hK hW hs hin hd (fun H1 locs1 hW1 => kk ls H1 locs1 cells slots hl hL hW1 rfl rfl)
      · cases hh
    · cases hh
  | bastore =>
    have hd := dl hdec hlen (n := 0) rfl
    simp only [hstep] at hh
    split at hh
    · rename_i x j a st1
      obtain ⟨⟨ha, hx01⟩, hh⟩ := inv_if hh
      split at hh
      · rename_i n hs
        obtain ⟨hin, hh⟩ := inv_if hh
        cases hh
        show W p l e R s m args below meth c H locs cells slots Q (F0 m pc ls (.int x :: .int j :: tr w (.ref a) :: st'.map (tr w)))
        rw [tr_new ha]
        exact z_zast hx hb hK hW hx01 hs hin hd (fun H1 locs1 hW1 => kk ls H1 locs1 cells slots hl hL hW1 rfl rfl)
      · cases hh
    · cases hh
  | lastore =>
    have hd := dl hdec hlen (n := 0) rfl
    simp only [hstep] at hh
    split at hh
    · rename_i x j a st1
      obtain ⟨ha, hh⟩ := inv_if hh
      split at hh
      · rename_i n hs
        obtain ⟨hin, hh⟩ := inv_if hh
        cases hh
        show W p l e R s m args below meth c H locs cells slots Q (F0 m pc ls (.long x :: .int j :: tr w (.ref a) :: st'.map (tr w)))
        rw [tr_new ha]
        exact z_last hx hb hK hW hs hin hd (fun H1 locs1 hW1 => kk ls H1 locs1 cells slots hl hL hW1 rfl rfl)
      · cases hh
    · cases hh
  | aastore =>
    have hd := dl hdec hlen (n := 0) rfl
    simp only [hstep] at hh
    split at hh
    · rename_i b j a st1
      obtain ⟨⟨ha, hbO, hbs⟩, hh⟩ := inv_if hh
      split at hh
      · rename_i n hs
        obtain ⟨hin, hh⟩ := inv_if hh
        cases hh
        show W p l e R s m args below meth c H locs cells slots Q (F0 m pc ls (tr w (.ref b) :: .int j :: tr w (.ref a) :: st'.map (tr w)))
        rw [tr_new ha, tr_new hbO]
        exact z_aast hx hb hK hW hs hbs hin hd (fun H1 locs1 hW1 => kk ls H1 locs1 cells slots hl hL hW1 rfl rfl)
      · cases hh
    · cases hh
  | new idx =>
    have hd := dl hdec hlen (n := 2) rfl
    simp only [hstep] at hh
    split at hh
    · rename_i ci pl
      obtain ⟨⟨hlO, hci⟩, hh⟩ := inv_if hh
      cases hh
      have e1 : (objNew h ci).1.length = h.1.length + 1 := by simp [objNew]
      have e2 : slotS (objNew h ci).1 = slotS h.1 + vwN ci := by
        show slotS (h.1 ++ [.inr ci]) = _
        rw [slotS_app]
        simp [slotS, shSz]
      refine z_new hx hb hK hts hown hW hci hlk (by omega) (by omega) hd (fun H1 hW1 => ?_)
      rw [← tr_new hlO]
      exact kk ls H1 locs _ _ hl hL hW1 (by omega) (by omega)
    · cases hh
  | newarray ty =>
    have hd := dl hdec hlen (n := 1) rfl
    have hq := inv_i hh
    clear hh
    obtain ⟨n, st1, est, hh⟩ := hq
    subst est
    split at hh
    · rename_i t htag
      obtain ⟨⟨hlO, hn, hn2⟩, hh⟩ := inv_if hh
      cases hh
      have e1 : (arrNew h t n.toNatClampNeg).1.length = h.1.length + 1 := by simp [arrNew]
      have e2 : slotS (arrNew h t n.toNatClampNeg).1 = slotS h.1 + n.toNatClampNeg := by
        show slotS (h.1 ++ [.inl (t, n.toNatClampNeg)]) = _
        rw [slotS_app]
        simp [slotS, shSz]
      refine z_newa hx hb hK hts hW htag hn hn2 (by omega) (by omega) hd (fun H1 hW1 => ?_)
      rw [← tr_new hlO]
      exact kk ls H1 locs _ _ hl hL hW1 (by omega) (by omega)
    · cases hh
  | anewarray idx =>
    have hd := dl hdec hlen (n := 2) rfl
    have hq := inv_i hh
    clear hh
    obtain ⟨n, st1, est, hh⟩ := hq
    subst est
    obtain ⟨⟨hlO, hn, hn2⟩, hh⟩ := inv_if hh
    cases hh
    have e1 : (arrNew h 3 n.toNatClampNeg).1.length = h.1.length + 1 := by simp [arrNew]
    have e2 : slotS (arrNew h 3 n.toNatClampNeg).1 = slotS h.1 + n.toNatClampNeg := by
      show slotS (h.1 ++ [.inl (3, n.toNatClampNeg)]) = _
      rw [slotS_app]
      simp [slotS, shSz]
    simp only [lnkE] at hlk
    split at hlk
    · refine z_newq hx hb hK hts hown hW hlk hO.2.2.2.2.2.2.2.2.2.2.2.1 hn hn2 (by omega) (by omega) hd (fun H1 hW1 => ?_)
      rw [← tr_new hlO]
      exact kk ls H1 locs _ _ hl hL hW1 (by omega) (by omega)
    · cases hlk
  | multianewarray idx d =>
    simp only [hstep] at hh
    split at hh
    · rename_i k n st1
      obtain ⟨⟨hd2, hlO, hn, hk, hn2, hk2⟩, hh⟩ := inv_if hh
      cases hh
      subst hd2
      have hd := dl hdec hlen (n := 3) rfl
      have e1 : (rowNew h n.toNatClampNeg k.toNatClampNeg).1.length = h.1.length + (1 + n.toNatClampNeg) := by simp [rowNew]; omega
      have e2 : slotS (rowNew h n.toNatClampNeg k.toNatClampNeg).1 = slotS h.1 + (n.toNatClampNeg + n.toNatClampNeg * k.toNatClampNeg) := by
        show slotS (h.1 ++ ([.inl (4, n.toNatClampNeg)] ++ List.replicate n.toNatClampNeg (.inl (1, k.toNatClampNeg)))) = _
        rw [slotS_app, slotS_app, slotS_rep]
        simp [slotS, shSz]
      simp only [lnkE] at hlk
      split at hlk
      · refine z_mna hx hb hK hts hown hW hlk hO.2.2.2.2.2.2.2.2.2.2.2.2.1 hn hk hn2 hk2 (by omega) (by omega) hd (fun H1 locs1 hW1 => ?_)
        rw [← tr_new hlO]
        exact kk ls H1 locs1 _ _ hl hL hW1 (by omega) (by omega)
      · cases hlk
    · cases hh
  | invokespecial idx =>
    have hd := dl hdec hlen (n := 2) rfl
    simp only [hstep] at hh
    split at hh
    · rename_i q1 q2 q3 pl
      have hq := inv_r hh
      clear hh
      obtain ⟨r, st1, est, hh⟩ := hq
      subst est
      obtain ⟨⟨hr, hcs⟩, hh⟩ := inv_if hh
      cases hh
      show W p l e R s m args below meth c H locs cells slots Q (F0 m pc ls (tr w (.ref r) :: st'.map (tr w)))
      rw [tr_new hr]
      have hsum := tr_sum hO.zc st'
      exact W.objInit hx hb hown (hts _ (linkOK_in hlk)) (hts _ obj_inst) (hts _ obj_code) rfl (by rw [hl.1, hml]) rfl hd hroom.1 (by show 2 * 0 + _ + 12 ≤ _; rw [hsum]; unfold catSum at hcs; omega) (nochange rfl ls hl hL)
    · cases hh
  | invokestatic idx =>
    have hd := dl hdec hlen (n := 2) rfl
    simp only [hstep] at hh
    split at hh
    · rename_i q1 q2 q3 pl
      obtain ⟨⟨st1, h1⟩, hg, hp2⟩ := Option.map_eq_some_iff.mp hh
      cases hp2
      unfold copyA at hg
      split at hg
      · rename_i n dp a sp b st2
        obtain ⟨⟨ha, hbO, c1, c2, c3, hcs⟩, hg⟩ := inv_if hg
        split at hg
        · rename_i t m1 t' m2 hs1 hs2
          obtain ⟨⟨ht, c4, c5⟩, hg2⟩ := inv_if hg
          clear hg
          subst ht
          have hsum := tr_sum hO.zc st2
          have hloc : ((st2.map (tr w)).map fun v => v.category).sum + (nativeFrameWords "java/lang/System" "arraycopy" 5 + 11) ≤ R.locals := by
            rw [hsum]
            unfold catSum at hcs
            have hnf : nativeFrameWords "java/lang/System" "arraycopy" 5 ≤ 100 := by decide +kernel
            omega
          show W p l e R s m args below meth c H locs cells slots Q (F0 m pc ls (.int n :: .int dp :: tr w (.ref a) :: .int sp :: tr w (.ref b) :: st2.map (tr w)))
          rw [tr_new ha, tr_new hbO]
          by_cases ht0 : t = 0
          · rw [if_pos ht0] at hg2
            subst ht0
            cases hg2
            refine z_copy hx hb (by rw [hl.1, hml]) hK hts hown hlk hW Value.int (fun f => .inl f) (fun _ _ _ => rfl) (t := 0) (ty := .int) rfl rfl (fun _ => rfl) (fun _ _ q => by cases q) hs1 hs2 (cfa_0 w h b) (cfa_0 w h a) c1 c2 c3 c4 c5 hroom.1 hloc hd (h' := (h.1, (fun x => if x = a then va_cpy (h.2.1 b) (h.2.1 a) sp.toNatClampNeg dp.toNatClampNeg n.toNatClampNeg else h.2.1 x), h.2.2.1, h.2.2.2)) rfl (fun b' s' hb' => cel_d (by show (if b' = a then _ else _) = _; rw [if_neg hb']) s') ?_ (fun H1 locs1 hW1 => kk ls H1 locs1 cells slots hl hL hW1 rfl rfl)
            rw [cfa_0]
            show Sum.inl (if a = a then _ else _) = _
            rw [if_pos rfl]
          · rw [if_neg ht0] at hg2
            obtain ⟨ht1, hg3⟩ := inv_if hg2
            clear hg2
            subst ht1
            cases hg3
            refine z_copy hx hb (by rw [hl.1, hml]) hK hts hown hlk hW Value.long (fun f => .inr (.inl f)) (fun _ _ _ => rfl) (t := 1) (ty := .long) rfl rfl (fun _ => rfl) (fun _ _ q => by cases q) hs1 hs2 (cfa_1 w h b) (cfa_1 w h a) c1 c2 c3 c4 c5 hroom.1 hloc hd (h' := (h.1, h.2.1, (fun x => if x = a then va_cpy (h.2.2.1 b) (h.2.2.1 a) sp.toNatClampNeg dp.toNatClampNeg n.toNatClampNeg else h.2.2.1 x), h.2.2.2)) rfl (fun b' s' hb' => cel_e (by show (if b' = a then _ else _) = _; rw [if_neg hb']) s') ?_ (fun H1 locs1 hW1 => kk ls H1 locs1 cells slots hl hL hW1 rfl rfl)
            rw [cfa_1]
            show Sum.inr (Sum.inl (if a = a then _ else _)) = _
            rw [if_pos rfl]
        · cases hg
      · cases hg
    · cases hh
  | _ => exact pure hh
end HS2
end
section
/-! A run of the pure machine is a run of the real one. -/
theorem putF_sh {o : List Nat} {st : List Value} {h : Hp} {q : List Value × Hp} (hg : putF o st h = some q) : q.2.1 = h.1 := by
  unfold putF at hg
  split at hg
  · split at hg
    · rename_i v a st2
      obtain ⟨-, hg⟩ := inv_if hg
      cases v with
      | int x =>
        obtain ⟨-, hg⟩ := inv_ifn hg
        obtain ⟨-, hg⟩ := inv_ifn hg
        cases hg
        rfl
      | ref b =>
        obtain ⟨-, hg⟩ := inv_if hg
        cases hg
        rfl
      | _ => cases hg
    · cases hg
  · cases hg
theorem copyA_sh {st : List Value} {h : Hp} {q : List Value × Hp} (hg : copyA st h = some q) : q.2.1 = h.1 := by
  unfold copyA at hg
  split at hg
  · obtain ⟨-, hg⟩ := inv_if hg
    split at hg
    · obtain ⟨-, hg⟩ := inv_if hg
      split at hg
      · cases hg
        rfl
      · obtain ⟨-, hg⟩ := inv_if hg
        cases hg
        rfl
    · cases hg
  · cases hg
theorem hstep_sh {X : Scr} {i : Instr} {o : List Nat} {pc pc' : Nat} {L st L' st' : List Value} {h h' : Hp} (hh : hstep X i o pc L st h = some (pc', L', st', h')) : ∃ l, h'.1 = h.1 ++ l := by
  have same : h'.1 = h.1 → ∃ l, h'.1 = h.1 ++ l := fun e => ⟨[], by rw [e, List.append_nil]⟩
  have pure : (pstep i o pc L st).map (fun q => (q.1, q.2.1, q.2.2, h)) = some (pc', L', st', h') → ∃ l, h'.1 = h.1 ++ l := by
    intro hp
    obtain ⟨q, -, hp2⟩ := Option.map_eq_some_iff.mp hp
    cases hp2
    exact same rfl
  cases i with
  | getfield idx =>
    obtain ⟨st1, hg, hp2⟩ := Option.map_eq_some_iff.mp (show (getF o st h).map (fun st' => (pc + 3, L, st', h)) = some (pc', L', st', h') from hh)
    cases hp2
    exact same rfl
  | putfield idx =>
    obtain ⟨⟨st1, h1⟩, hg, hp2⟩ := Option.map_eq_some_iff.mp (show (putF o st h).map (fun q => (pc + 3, L, q.1, q.2)) = some (pc', L', st', h') from hh)
    cases hp2
    exact same (putF_sh hg)
  | getstatic idx =>
    simp only [hstep] at hh
    split at hh <;> first | (cases hh; exact same rfl) | cases hh
  | arraylength =>
    simp only [hstep] at hh
    repeat' split at hh
    all_goals first | (cases hh; exact same rfl) | cases hh
  | iaload =>
    simp only [hstep] at hh
    repeat' split at hh
    all_goals first | (cases hh; exact same rfl) | cases hh
  | baload =>
    simp only [hstep] at hh
    repeat' split at hh
    all_goals first | (cases hh; exact same rfl) | cases hh
  | laload =>
    simp only [hstep] at hh
    repeat' split at hh
    all_goals first | (cases hh; exact same rfl) | cases hh
  | aaload =>
    simp only [hstep] at hh
    repeat' split at hh
    all_goals first | (cases hh; exact same rfl) | cases hh
  | iastore =>
    simp only [hstep] at hh
    repeat' split at hh
    all_goals first | (cases hh; exact same rfl) | cases hh
  | bastore =>
    simp only [hstep] at hh
    repeat' split at hh
    all_goals first | (cases hh; exact same rfl) | cases hh
  | lastore =>
    simp only [hstep] at hh
    repeat' split at hh
    all_goals first | (cases hh; exact same rfl) | cases hh
  | aastore =>
    simp only [hstep] at hh
    repeat' split at hh
    all_goals first | (cases hh; exact same rfl) | cases hh
  | new idx =>
    simp only [hstep] at hh
    repeat' split at hh
    all_goals first | (cases hh; exact ⟨_, rfl⟩) | cases hh
  | newarray ty =>
    simp only [hstep] at hh
    repeat' split at hh
    all_goals first | (cases hh; exact ⟨_, rfl⟩) | cases hh
  | anewarray idx =>
    simp only [hstep] at hh
    repeat' split at hh
    all_goals first | (cases hh; exact ⟨_, rfl⟩) | cases hh
  | multianewarray idx d =>
    simp only [hstep] at hh
    repeat' split at hh
    all_goals first | (cases hh; exact ⟨_, rfl⟩) | cases hh
  | invokespecial idx =>
    simp only [hstep] at hh
    repeat' split at hh
    all_goals first | (cases hh; exact same rfl) | cases hh
  | invokestatic idx =>
    simp only [hstep] at hh
    split at hh
    · obtain ⟨⟨st1, h1⟩, hg, hp2⟩ := Option.map_eq_some_iff.mp hh
      cases hp2
      exact same (copyA_sh hg)
    · cases hh
  | _ => exact pure hh
theorem retO_h {y : Nat} {i : Instr} {st : List Value} {h h' : Hp} {v : Option Value} (hr : retO y i st h = some (some (v, h'))) : h' = h := by
  unfold retO at hr
  split at hr
  · have hr := Option.some.inj hr
    unfold retI at hr
    repeat' split at hr
    all_goals first | (cases hr; rfl) | cases hr
  · have hr := Option.some.inj hr
    unfold retL at hr
    repeat' split at hr
    all_goals first | (cases hr; rfl) | cases hr
  · have hr := Option.some.inj hr
    unfold retV at hr
    repeat' split at hr
    all_goals first | (cases hr; rfl) | cases hr
  · cases hr
theorem run_sh {X : Scr} : ∀ (n dp y pc : Nat) (L st : List Value) (h : Hp) (v : Option Value) (h' : Hp), run X n dp y pc L st h = some (v, h') → ∃ l, h'.1 = h.1 ++ l
  | 0, _, _, _, _, _, _, _, _, hr => by cases hr
  | n + 1, dp, y, pc, L, st, h, v, h', hr => by
    rw [run] at hr
    split at hr
    · cases hr
    · rename_i pc0 i len o he
      split at hr
      · rename_i r hret
        subst hr
        rw [retO_h hret]
        exact ⟨[], (List.append_nil _).symm⟩
      · split at hr
        · rename_i c na kd hc
          split at hr
          · cases hr
          · rename_i dp'
            obtain ⟨-, hr⟩ := inv_if hr
            split at hr
            · rename_i rv h1 h1e
              obtain ⟨l1, e1⟩ := run_sh n _ _ _ _ _ _ _ _ h1e
              obtain ⟨l2, e2⟩ := run_sh n _ _ _ _ _ _ _ _ hr
              exact ⟨l1 ++ l2, by rw [e2, e1, List.append_assoc]⟩
            · cases hr
        · split at hr
          · rename_i pc' L' st' h1 h1e
            obtain ⟨l1, e1⟩ := hstep_sh h1e
            obtain ⟨l2, e2⟩ := run_sh n _ _ _ _ _ _ _ _ hr
            exact ⟨l1 ++ l2, by rw [e2, e1, List.append_assoc]⟩
          · cases hr
end
section
def RmOK (R : Room) (dp : Nat) : Prop := 2 * dp + 2 ≤ R.frames ∧ 64 * dp + 200 ≤ R.locals
def rmOf (dp mc ms : Nat) : Room := { frames := 2 * dp + 2, cells := mc, slots := ms, locals := 64 * dp + 200 }
def wsY (c : Nat) : List Jvm.Cond := Jvm.Cond.code (mName c) (mBytes c) (mMaxL c) (mRet c) :: BIGG
/-- a method's start: these arguments, this world -/
def PcW (w : WC) (as : List Value) (h : Hp) : Array Value → State → Prop := fun a U => a = (as.map (tr w)).toArray ∧ U.heap.size = w.1 + h.1.length ∧ va_P w.2.1 vwCl (wsH w h) U.heap ∧ va_K w.2.1 vwCl (tysW w) U ∧ OldW w U ∧ NestW U
/-- .. and its end -/
def QcW (w : WC) (v : Option Value) (h : Hp) : Array Value → State → Outcome → State → Prop := fun _ st o t => o = .returned (v.map (tr w)) ∧ t.heap.size = w.1 + h.1.length ∧ va_P w.2.1 vwCl (wsH w h) t.heap ∧ va_F (Ab w) st t
theorem PcW.blind (w : WC) (as : List Value) (h : Hp) : FrameBlind (PcW w as h) := by
  intro a U g mk ⟨h1, h2, h3, h4, h5, h6⟩
  exact ⟨h1, h2, h3, va_K.moved (u := U) (U := U.calling g mk a) (Vm.Alike.refl U.vm) h4, h5.same rfl rfl, NestW.same (u := U) (U := U.calling g mk a) rfl h6⟩
theorem entL0_len (w : WC) (hz : w.2.2.2.2.1.category = 1) : ∀ as : List Value, (lg_sl (as.map (tr w))).length = (entL0 as).length
  | [] => rfl
  | v :: vs => by
    have ih := entL0_len w hz vs
    have e : lg_sl ((v :: vs).map (tr w)) = (if v.category = 2 then [.val (tr w v), .second] else [.val (tr w v)]) ++ lg_sl (vs.map (tr w)) := by
      rw [← tr_cat hz v]
      rfl
    have e2 : entL0 (v :: vs) = if v.category = 2 then v :: .retAddr 0 :: entL0 vs else v :: entL0 vs := rfl
    rw [e, List.length_append, ih, e2]
    by_cases hc : v.category = 2
    · rw [if_pos hc, if_pos hc]
      simp only [List.length_cons, List.length_nil]
      omega
    · rw [if_neg hc, if_neg hc]
      simp only [List.length_cons, List.length_nil]
      omega
theorem entL_args (w : WC) (hz : w.2.2.2.2.1.category = 1) : ∀ (as : List Value) (k : Nat) (i : Nat) (u : Value), (entL0 as)[i]? = some u → isJunk u = false → (k + i, tr w u) ∈ lv_args k (as.map (tr w))
  | [], _, i, u, h, _ => by simp [entL0] at h
  | v :: vs, k, i, u, h, hj => by
    unfold entL0 at h
    show (k + i, tr w u) ∈ (k, tr w v) :: lv_args (if (tr w v).category = 2 then k + 2 else k + 1) (vs.map (tr w))
    rw [tr_cat hz]
    by_cases hc : v.category = 2
    · rw [if_pos hc] at h ⊢
      match i, h with
      | 0, h => cases h; exact List.mem_cons_self
      | 1, h => cases h; cases hj
      | i + 2, h =>
        have := entL_args w hz vs (k + 2) i u h hj
        rw [show k + (i + 2) = k + 2 + i by omega]
        exact List.mem_cons_of_mem _ this
    · rw [if_neg hc] at h ⊢
      match i, h with
      | 0, h => cases h; exact List.mem_cons_self
      | i + 1, h =>
        have := entL_args w hz vs (k + 1) i u h hj
        rw [show k + (i + 1) = k + 1 + i by omega]
        exact List.mem_cons_of_mem _ this
theorem entL_has {w : WC} (hz : w.2.2.2.2.1.category = 1) (as : List Value) {n : Nat} (hn : (entL0 as).length ≤ n) :
    lv_has ((lg_sl (as.map (tr w)) ++ List.replicate (n - (lg_sl (as.map (tr w))).length) Slot.unset).toArray) n (asL w (entL n as)) := by
  have h := lv_entry (as.map (tr w)) (n := n) (by rw [entL0_len w hz]; exact hn)
  refine lv_mono h ?_
  rintro ⟨i, x⟩ hq
  obtain ⟨u, hu, hj, rfl⟩ := asL_mem.mp hq
  unfold entL at hu
  by_cases hi : i < (entL0 as).length
  · rw [List.getElem?_append_left hi] at hu
    have := entL_args w hz as 0 i u hu hj
    rwa [Nat.zero_add] at this
  · rw [List.getElem?_append_right (by omega), List.getElem?_replicate] at hu
    split at hu
    · cases hu; cases hj
    · cases hu
theorem entL_length {as : List Value} {n : Nat} (hn : (entL0 as).length ≤ n) : (entL n as).length = n := by
  unfold entL
  rw [List.length_append, List.length_replicate]
  omega
theorem pAt_ok {y pc pc0 len : Nat} {i : Instr} {o : List Nat} (hy : y < 223) (he : pAt y pc = some (pc0, i, len, o)) : pc0 = pc ∧ decode (mBytes y) pc = .ok (i, len) ∧ (ilen i = 0 ∨ ilen i = len) ∧ lnkE y i o = true := by
  unfold pAt at he
  have h1 : pc0 = pc := by simpa using List.find?_some he
  have h2 := List.mem_of_find?_eq_some he
  have h3 := List.all_eq_true.mp (ok_progs y hy) _ h2
  unfold okE at h3
  obtain ⟨h4, h5⟩ := (Bool.and_eq_true _ _).mp h3
  obtain ⟨h6, h7⟩ := (Bool.and_eq_true _ _).mp h4
  subst h1
  refine ⟨rfl, of_decide_eq_true h6, ?_, h5⟩
  rcases Bool.or_eq_true _ _ |>.mp h7 with h8 | h8
  · exact Or.inl (by simpa using h8)
  · exact Or.inr (by simpa using h8)
section RS
variable {p : Program} {l : Launch} {e : Env} {R : Room} {s : State} {m : MethodId} {args : Array Value} {below : List Frame} {meth : Method} {c : Code} {H : Heap} {locs : List Loc} {cells slots : Nat} {Q : State → Prop}
/-- behind a call -/
theorem call_go {w : WC} {pc : Nat} {ls : Array Slot} {rest st0 : List Value} {a : Array Value} {mc ms : Nat} {v : Option Value} {h1 : Hp} (hr : va_Run p l e R s m args below meth c H locs cells slots mc ms (F0 m pc ls st0) rest (QcW w v h1 a) (Ab w)) (hS : va_S (Ab w) s.heap H locs)
    (kk : ∀ H1 locs1, WdH w s h1 H1 locs1 → W p l e R s m args below meth c H1 locs1 (cells + mc) (slots + ms) Q (F0 m (pc + 3) ls ((v.map (tr w)).toList ++ rest))) : W p l e R s m args below meth c H locs cells slots Q (F0 m pc ls st0) := by
  intro T hT X
  obtain ⟨v', st₀, t, T', L, h0, X', hL, e1, e2, ⟨hv, hsz, hP, hz, hk⟩, st⟩ := hr T hT X
  cases hv
  rw [h0] at hz hk
  obtain ⟨t2, a1, b1⟩ := kk T'.heap (locs ++ L) ⟨by rw [e1]; exact hsz, by rw [e1]; exact hP, Nat.le_trans hS.1 (by rw [e1]; exact hz), fun q q1 q2 => by rw [e1, hk q (Nat.lt_of_lt_of_le q1 hS.1) q2]; exact hS.2.1 q q1 q2, fun q hq => by
      rcases List.mem_append.mp hq with h | h
      · exact hS.2.2 q h
      · exact hL q h⟩ T' rfl X'
  exact ⟨t2, st t2 a1, b1⟩
end RS
end
section
theorem mOK_at {c : Nat} (h0 : 0 < c) (hc : c < 223) : mOK c = true := by
  have h := List.all_eq_true.mp ok_meths c (List.mem_range.mpr hc)
  rcases Bool.or_eq_true _ _ |>.mp h with h1 | h1
  · have : c = 0 := by simpa using h1
    omega
  · exact h1
theorem mOK_facts {c : Nat} (h0 : 0 < c) (hc : c < 223) : (mName c).cls ≠ "java/lang/invoke/MethodHandle" ∧ (mName c).cls ≠ "java/lang/invoke/VarHandle" ∧ plainFor (mName c) = true ∧ mMaxL c ≤ 40 ∧
    ((mCi c < 8 ∧ (mName c).cls = vwC (mCi c)) ∨ (mCi c = 9 ∧ (mName c).cls = "java/lang/String") ∨ mCi c = 10) ∧ Jvm.Cond.initialized (mName c).cls ∈ BIGG := by
  have h := mOK_at h0 hc
  unfold mOK at h
  simp only [Bool.and_eq_true, decide_eq_true_eq, Bool.or_eq_true] at h
  obtain ⟨⟨⟨⟨⟨h1, h2⟩, h3⟩, h4⟩, h5⟩, h6⟩ := h
  exact ⟨h1, h2, h3, h4, by rcases h5 with (h5 | h5) | h5 <;> simp [h5], linkOK_in h6⟩
/-- what a run to the end gives at its return -/
def RetK (w : WC) (p : Program) (l : Launch) (e : Env) (R : Room) (s : State) (m : MethodId) (args : Array Value) (below : List Frame) (meth : Method) (c : Code) (Q : State → Prop) (y n0 s0 : Nat) (v : Option Value) (h' : Hp) : Prop :=
  ∀ (pc len : Nat) (i : Instr) (o : List Nat) (ls : Array Slot) (H : Heap) (locs : List Loc) (cells slots : Nat) (st : List Value), decode (mBytes y) pc = .ok (i, len) → (ilen i = 0 ∨ ilen i = len) → retO y i st h' = some (some (v, h')) → WdH w s h' H locs →
    cells + n0 = h'.1.length → slots + s0 = slotS h'.1 → W p l e R s m args below meth c H locs cells slots Q (F0 m pc ls (st.map (tr w)))
/-- a run, from anywhere within a method, comes to its end -/
def RunS (w : WC) (l : Launch) (n : Nat) : Prop :=
  ∀ (dp y pc : Nat) (L st : List Value) (h : Hp) (v : Option Value) (h' : Hp), run w.2.2.2.2.2 n dp y pc L st h = some (v, h') → y < 223 → L.length = mMaxL y →
    ∀ (p : Program) (e : Env) (R : Room) (s : State) (m : MethodId) (args : Array Value) (below : List Frame) (meth : Method) (c : Code) (H : Heap) (locs : List Loc) (cells slots : Nat) (Q : State → Prop) (ls : Array Slot) (n0 s0 : Nat),
      MC w p s m args meth c y → RmOK R dp → WdH w s h H locs → lv_has ls (mMaxL y) (asL w L) → cells + n0 = h.1.length → slots + s0 = slotS h.1 → h'.1.length ≤ n0 + R.cells → slotS h'.1 ≤ s0 + R.slots →
      RetK w p l e R s m args below meth c Q y n0 s0 v h' → W p l e R s m args below meth c H locs cells slots Q (F0 m pc ls (st.map (tr w)))
theorem met_run {w : WC} {l : Launch} {n : Nat} (IH : RunS w l n) {dp c : Nat} (h0 : 0 < c) (hc : c < 223) {as : List Value} {h h1 : Hp} {rv : Option Value} (hl : (entL0 as).length ≤ mMaxL c) (hr : run w.2.2.2.2.2 n dp c 0 (entL (mMaxL c) as) [] h = some (rv, h1)) :
    Met l (mName c) (wsY c) (rmOf dp (h1.1.length - h.1.length) (slotS h1.1 - slotS h.1)) (PcW w as h) (QcW w rv h1) (h1.1.length - h.1.length) (slotS h1.1 - slotS h.1) (Ab w) := by
  obtain ⟨-, -, hpl, -, -, -⟩ := mOK_facts h0 hc
  refine va_MetF (cc := mBytes c) (maxL := mMaxL c) (ret := mRet c) hpl rfl ?_
  intro p e s m args below meth c' s₁ B hml hPc
  obtain ⟨rfl, hsz, hP, hK, hO, hN⟩ := hPc
  have hts := atoms_spec (ws := wsY c) B.pre
  obtain ⟨l1, hl1⟩ := run_sh _ _ _ _ _ _ _ _ _ hr
  have hle : h.1.length ≤ h1.1.length := by rw [hl1, List.length_append]; omega
  have hle2 : slotS h.1 ≤ slotS h1.1 := by rw [hl1, slotS_app]; omega
  rw [lg_entry_eq]
  refine IH dp c 0 (entL (mMaxL c) as) [] h rv h1 hr hc (entL_length hl) p e (rmOf dp (h1.1.length - h.1.length) (slotS h1.1 - slotS h.1)) s m (as.map (tr w)).toArray below meth c' s.heap [] 0 0 _ _ h.1.length (slotS h.1)
    ⟨B.exec, B.bytes, B.returns, B.notSynchronized, hml, findClass_of_methodNamed B.named, fun q => (name_of_methodNamed B.named B.method).1.trans q, fun q hq => hts q (List.mem_cons_of_mem _ hq), hN, hK, hO⟩ ⟨Nat.le_refl _, Nat.le_refl _⟩ ⟨hsz, hP, va_S.rf⟩ (entL_has hO.zc as hl) (Nat.zero_add _) (Nat.zero_add _) (by show h1.1.length ≤ h.1.length + (h1.1.length - h.1.length); omega) (by show slotS h1.1 ≤ slotS h.1 + (slotS h1.1 - slotS h.1); omega) ?_
  intro pc len i o ls H locs cells slots st hdec hlen hret hW hce hsl
  have hce' : cells = h1.1.length - h.1.length := by omega
  have hsl' : slots = slotS h1.1 - slotS h.1 := by omega
  subst hce'
  subst hsl'
  have q1 : ∀ (v : Option Value) (t : State), t.heap = H → QcW w v h1 (as.map (tr w)).toArray s (.returned (v.map (tr w))) t := fun v t ht => ⟨rfl, by rw [ht]; exact hW.1, by rw [ht]; exact hW.2.1, hW.2.2.F ht⟩
  unfold retO at hret
  split at hret
  · replace hret := Option.some.inj hret
    unfold retI at hret
    split at hret
    · rename_i x
      split at hret
      · rename_i ty hty
        obtain ⟨⟨-, hn⟩, hret⟩ := inv_if hret
        cases hret
        exact W.zret B.exec B.bytes (by rw [B.returns, hty]) hn (fun t ht _ => q1 (some (.int x)) t ht) hW.2.2.2.2 (dl hdec hlen (n := 0) rfl) (hlocks := B.notSynchronized)
      · cases hret
    · cases hret
  · replace hret := Option.some.inj hret
    unfold retL at hret
    split at hret
    · rename_i x
      obtain ⟨hty, hret⟩ := inv_if hret
      cases hret
      exact W.lret B.exec B.bytes (by rw [B.returns, hty]) (fun t ht _ => q1 (some (.long x)) t ht) hW.2.2.2.2 (dl hdec hlen (n := 0) rfl) (hlocks := B.notSynchronized)
    · cases hret
  · replace hret := Option.some.inj hret
    unfold retV at hret
    split at hret
    · obtain ⟨hty, hret⟩ := inv_if hret
      cases hret
      exact W.vret B.exec B.bytes (by rw [B.returns, hty]) (fun t ht _ => q1 none t ht) hW.2.2.2.2 (dl hdec hlen (n := 0) rfl) (hlocks := B.notSynchronized)
    · cases hret
  · cases hret
end
section
theorem wsY_good {c : Nat} (h0 : 0 < c) (hc : c < 223) : GoodIn BIGG (wsY c) := by
  intro q hq
  rcases List.mem_cons.mp hq with rfl | hq
  · exact ⟨ok_codes c h0 hc, good_of_word (BIGG_good _ (ok_codes c h0 hc))⟩
  · exact ⟨hq, good_of_word (BIGG_good _ hq)⟩
theorem take_rev {w : WC} {na : Nat} {st As : List Value} {r : Value} (h : (st.take na).reverse = r :: As) : st.map (tr w) = (As.map (tr w)).reverse ++ tr w r :: (st.drop na).map (tr w) := by
  have h1 : st.take na = As.reverse ++ [r] := by
    have := congrArg List.reverse h
    rw [List.reverse_reverse, List.reverse_cons] at this
    exact this
  conv => lhs; rw [← List.take_append_drop na st, h1]
  simp
theorem take_revS {w : WC} {na : Nat} {st : List Value} : st.map (tr w) = (((st.take na).reverse).map (tr w)).reverse ++ (st.drop na).map (tr w) := by
  conv => lhs; rw [← List.take_append_drop na st]
  simp
theorem o7 {o : List Nat} {c na kd : Nat} (h : (match o with | [c, na, kd, _, _, _, _] => some (c, na, kd) | _ => none) = some (c, na, kd)) : ∃ nest pl a sl, o = [c, na, kd, nest, pl, a, sl] := by
  split at h
  · cases h
    exact ⟨_, _, _, _, rfl⟩
  · cases h
theorem recv_new {c b : Nat} {h : Hp} (hb : b < OLDB) : recvOK c h (.ref b) = (decide (h.1[b]? = some (.inr (mCi c))) && decide (mCi c < 8)) := if_pos hb
theorem recv_old {c b : Nat} {h : Hp} (hb : ¬ b < OLDB) : recvOK c h (.ref b) = (decide (mCi c = 9) && decide (OLDB + 3 ≤ b) && decide (b < OLDB + 8)) := if_neg hb
theorem old_k {b : Nat} (r2 : OLDB + 3 ≤ b) (r3 : b < OLDB + 8) : b - OLDB = 3 + (b - (OLDB + 3)) ∧ b - (OLDB + 3) < 5 ∧ ¬ b = OLDB + 13 := by
  have hB := OLDB_eq
  omega
set_option maxHeartbeats 4000000 in
theorem call_sound {w : WC} {l : Launch} {n : Nat} (IH : RunS w l n) {dp y pc : Nat} {i : Instr} {o : List Nat} {len : Nat} {L st : List Value} {h h1 : Hp} {rv : Option Value} {c na kd : Nat} (hdec : decode (mBytes y) pc = .ok (i, len)) (hlen : ilen i = 0 ∨ ilen i = len) (hlk : lnkE y i o = true) (hco : callO i o = some (c, na, kd)) (hok : callOK c na kd st h = true)
    (hr : run w.2.2.2.2.2 n dp c 0 (entL (mMaxL c) (st.take na).reverse) [] h = some (rv, h1))
    {p : Program} {e : Env} {R : Room} {s : State} {m : MethodId} {args : Array Value} {below : List Frame} {meth : Method} {cd : Code} {H : Heap} {locs : List Loc} {cells slots : Nat} {Q : State → Prop} {ls : Array Slot}
    (M : MC w p s m args meth cd y) (hR : RmOK R (dp + 1)) (hW : WdH w s h H locs) (hl : lv_has ls (mMaxL y) (asL w L)) (hc1 : cells + (h1.1.length - h.1.length) ≤ R.cells) (hs1 : slots + (slotS h1.1 - slotS h.1) ≤ R.slots)
    (kk : ∀ H1 locs1, WdH w s h1 H1 locs1 → c < 223 → W p l e R s m args below meth cd H1 locs1 (cells + (h1.1.length - h.1.length)) (slots + (slotS h1.1 - slotS h.1)) Q (F0 m (pc + 3) ls ((rv.toList ++ st.drop na).map (tr w)))) :
    W p l e R s m args below meth cd H locs cells slots Q (F0 m pc ls (st.map (tr w))) := by
  obtain ⟨hx, hb, -, -, hml, hown, -, hts, hN, hK, hO⟩ := M
  simp only [callOK, Bool.and_eq_true, decide_eq_true_eq] at hok
  obtain ⟨⟨⟨⟨k1, k2⟩, k3⟩, k4⟩, k5⟩ := hok
  have hsum : 2 * (F0 m pc ls (st.map (tr w))).monitorRoom + (((st.drop na).map (tr w)).map fun v => v.category).sum ≤ 8 := by
    refine lv_room (m := m) ?_
    rw [tr_sum hO.zc]
    exact k2
  have hS : CallFix p m cd (mBytes y) (mMaxL y) s args BIGG (mName y).cls := ⟨hx, hb, hml, hown, hts⟩
  have hkk : ∀ H1 locs1, WdH w s h1 H1 locs1 → c < 223 → W p l e R s m args below meth cd H1 locs1 (cells + (h1.1.length - h.1.length)) (slots + (slotS h1.1 - slotS h.1)) Q (F0 m (pc + 3) ls ((rv.map (tr w)).toList ++ (st.drop na).map (tr w))) := by
    intro H1 locs1 a1 a2
    have := kk H1 locs1 a1 a2
    rw [List.map_append] at this
    cases rv with
    | none => exact this
    | some v => exact this
  have hpre : ∀ As : List Value, ∀ U : State, U.heap = H → s.WarmedH U.vm → PcW w As h ((As.map (tr w)).toArray) U := fun As U hU hWm =>
    ⟨rfl, by rw [hU]; exact hW.1, by rw [hU]; exact hW.2.1, va_K.moved hWm.alike hK, hO.to hW.2.2 hU hWm, hN.warm hWm⟩
  have hrm : ∀ mc ms, mMaxL c ≤ 40 → (rmOf dp mc ms).frames + 1 ≤ R.frames ∧ 8 + (mMaxL c + 11) + (rmOf dp mc ms).locals ≤ R.locals := fun mc ms h40 => ⟨by have := hR.1; show 2 * dp + 2 + 1 ≤ _; omega, by have := hR.2; show 8 + (mMaxL c + 11) + (64 * dp + 200) ≤ _; omega⟩
  have link : ∀ {own : String} {idx nest pl a sl : Nat}, calOK own idx c na kd nest pl a sl = true → (if nest = 0 then linkOK pl (.methodLink own idx (mName c)) else nestOK pl (.methodLinkNest own idx (mName c) "PastCatchers")) = true ∧ 0 < c ∧ c < 223 ∧ kdOK c na kd a sl = true := by
    intro own idx nest pl a sl hcal
    unfold calOK at hcal
    obtain ⟨h123, h4⟩ := (Bool.and_eq_true _ _).mp hcal
    obtain ⟨h12, h3⟩ := (Bool.and_eq_true _ _).mp h123
    obtain ⟨h1, h2⟩ := (Bool.and_eq_true _ _).mp h12
    exact ⟨h1, of_decide_eq_true h2, of_decide_eq_true h3, h4⟩
  have pcount : ∀ {na : Nat}, (parseMethodDescriptor (mName c).desc).map (fun d => d.parameters.length + 1) = some na → (parseMethodDescriptor (mName c).desc).map (fun d => d.parameters.length) = some (na - 1) := by
    intro na hp
    cases hd : parseMethodDescriptor (mName c).desc with
    | none => rw [hd] at hp; cases hp
    | some d =>
      rw [hd] at hp
      cases hp
      rfl
  cases i with
  | invokevirtual idx =>
    obtain ⟨nest, pl, a, sl, rfl⟩ := o7 (o := o) (c := c) (na := na) (kd := kd) hco
    obtain ⟨hkd, hcal⟩ := (Bool.and_eq_true _ _).mp (show (kd == 0 && calOK (mName y).cls idx c na kd nest pl a sl) = true from hlk)
    have hkd : kd = 0 := by simpa using hkd
    subst hkd
    obtain ⟨g1, h0, hc, g4⟩ := link hcal
    simp only [kdOK, Bool.and_eq_true, decide_eq_true_eq] at g4
    obtain ⟨⟨⟨g5, g6⟩, g7⟩, g8⟩ := g4
    obtain ⟨f1, f2, -, f4, f5, f6⟩ := mOK_facts h0 hc
    rw [if_neg (by decide)] at k5
    have hM := met_run IH h0 hc k4 hr
    cases hst : (st.take na).reverse with
    | nil => rw [hst] at k5; cases k5
    | cons r As =>
      rw [hst] at k5 hM
      have hAl : As.length = na - 1 := by
        have := congrArg List.length hst
        rw [List.length_reverse, List.length_take, List.length_cons] at this
        omega
      have hrec : recvOK c h r = true := k5
      cases r with
      | ref b =>
        have hcellb : (∃ cellB : Cell, H[match tr w (.ref b) with | .ref q => q | _ => 0]? = some cellB ∧ cellB.vm.isStatics = false ∧ s.vm.findClass (mName c).cls = some cellB.cls) ∧ ∃ q, tr w (.ref b) = .ref q := by
          by_cases hbO : b < OLDB
          · rw [recv_new hbO] at hrec
            simp only [Bool.and_eq_true, decide_eq_true_eq] at hrec
            rw [tr_new hbO]
            refine ⟨?_, _, rfl⟩
            have hcn : (mName c).cls = vwC (mCi c) := by
              rcases f5 with q | q | q
              · exact q.2
              · omega
              · omega
            rw [hcn]
            exact va_recv hK hW.2.1 (cls_tab _ hrec.2) (wsH_get hrec.1)
          · rw [recv_old hbO] at hrec
            simp only [Bool.and_eq_true, decide_eq_true_eq] at hrec
            obtain ⟨⟨r1, r2⟩, r3⟩ := hrec
            have hB := OLDB_eq
            obtain ⟨hk3, hk5, hne⟩ := old_k r2 r3
            rw [tr_old hbO hne, hk3]
            refine ⟨?_, _, rfl⟩
            have hcn : (mName c).cls = "java/lang/String" := by
              rcases f5 with q | q | q
              · omega
              · exact q.2
              · omega
            rw [hcn]
            exact vk_recv (adK := fun i => w.2.2.2.1 (3 + i)) (i := b - (OLDB + 3)) hO.2.2.2.2.2.2.2.2.2.1 hk5 hW.2.2
        obtain ⟨hcellb, q, hq⟩ := hcellb
        rw [hq] at hcellb
        have hpv : PreV s H (mName c).cls q (PcW w (.ref b :: As) h) (As.map (tr w)) := by
          refine ⟨PcW.blind _ _ _, hcellb, fun U hU hWm => ?_⟩
          have := hpre (.ref b :: As) U hU hWm
          rw [List.map_cons, hq] at this
          exact this
        have hstk := take_rev (w := w) hst
        rw [hq] at hstk
        have hd := dl hdec hlen (n := 2) rfl
        by_cases hn0 : nest = 0
        · rw [if_pos hn0] at g1
          have hG : GoodIn BIGG (wsV (mName y).cls idx (mName c).cls (mName c) (wsY c)) := by
            intro z hz
            unfold wsV at hz
            rcases List.mem_append.mp hz with hz | hz
            · have : z ∈ BIGG := by
                simp only [List.mem_cons, List.not_mem_nil, or_false] at hz
                rcases hz with rfl | rfl | rfl | rfl
                · exact linkOK_in g1
                · exact linkOK_in g5
                · exact linkOK_in g6
                · exact f6
              exact ⟨this, good_of_word (BIGG_good _ this)⟩
            · exact wsY_good h0 hc z hz
          exact call_go (va_runV hS hM (cwV (na - 1) hts hG rfl rfl rfl ⟨rfl, f1, f2, pcount g7⟩ (hrm _ _ f4)) hpv rfl (by rw [List.length_map]; exact hAl) hl.1 hstk hsum hd ⟨hc1, hs1⟩) hW.2.2 (fun H1 locs1 hW1 => hkk H1 locs1 hW1 hc)
        · rw [if_neg hn0] at g1
          exact call_go (va_runVN hS hM ⟨va_cnB (na - 1) hts (wsY_good h0 hc) rfl rfl rfl (hN _ (nestOK_in g1)) (hts _ f6) ⟨f1, f2, pcount g7⟩ (hrm _ _ f4), hts _ (linkOK_in g5), hts _ (linkOK_in g6)⟩ hpv rfl (by rw [List.length_map]; exact hAl) hl.1 hstk hsum hd ⟨hc1, hs1⟩) hW.2.2 (fun H1 locs1 hW1 => hkk H1 locs1 hW1 hc)
      | _ => cases hrec
  | invokespecial idx =>
    obtain ⟨nest, pl, a, sl, rfl⟩ := o7 (o := o) (c := c) (na := na) (kd := kd) hco
    obtain ⟨hkd, hcal⟩ := (Bool.and_eq_true _ _).mp (show (kd == 1 && calOK (mName y).cls idx c na kd nest pl a sl) = true by simpa only [lnkE] using hlk)
    have hkd : kd = 1 := by simpa using hkd
    subst hkd
    obtain ⟨g1, h0, hc, g4⟩ := link hcal
    simp only [kdOK, Bool.and_eq_true, decide_eq_true_eq] at g4
    obtain ⟨⟨⟨g5, g6⟩, g7⟩, g8⟩ := g4
    obtain ⟨f1, f2, -, f4, f5, f6⟩ := mOK_facts h0 hc
    rw [if_neg (by decide)] at k5
    have hM := met_run IH h0 hc k4 hr
    cases hst : (st.take na).reverse with
    | nil => rw [hst] at k5; cases k5
    | cons r As =>
      rw [hst] at k5 hM
      have hAl : As.length = na - 1 := by
        have := congrArg List.length hst
        rw [List.length_reverse, List.length_take, List.length_cons] at this
        omega
      cases r with
      | ref b =>
        have hbO : b < OLDB := of_decide_eq_true k5
        have hq := tr_new (w := w) hbO
        have hps : PreS s H (PcW w (.ref b :: As) h) (.ref (w.1 + b) :: As.map (tr w)) := by
          refine ⟨PcW.blind _ _ _, fun U hU hWm => ?_⟩
          have := hpre (.ref b :: As) U hU hWm
          rw [List.map_cons, hq] at this
          exact this
        have hstk := take_rev (w := w) hst
        rw [hq] at hstk
        have hd := dl hdec hlen (n := 2) rfl
        have hwy : wsY c = Jvm.Cond.code (mName c) (mBytes c) (mMaxL c) none :: BIGG := by unfold wsY; rw [g7]
        by_cases hn0 : nest = 0
        · rw [if_pos hn0] at g1
          exact call_go (va_runI hS hM (cwI (na - 1) hts (wsY_good h0 hc) hwy rfl rfl (hts _ f6) (hts _ (linkOK_in g1)) (hts _ (linkOK_in g5)) g6 ⟨f1, f2, pcount g8⟩ (hrm _ _ f4)) hps rfl (by rw [List.length_map]; exact hAl) hl.1 hstk hsum hd ⟨hc1, hs1⟩) hW.2.2 (fun H1 locs1 hW1 => hkk H1 locs1 hW1 hc)
        · rw [if_neg hn0] at g1
          exact call_go (va_runIN hS hM ⟨va_cnB (na - 1) hts (wsY_good h0 hc) hwy rfl rfl (hN _ (nestOK_in g1)) (hts _ f6) ⟨f1, f2, pcount g8⟩ (hrm _ _ f4), g6, hts _ (linkOK_in g5)⟩ hps rfl (by rw [List.length_map]; exact hAl) hl.1 hstk hsum hd ⟨hc1, hs1⟩) hW.2.2 (fun H1 locs1 hW1 => hkk H1 locs1 hW1 hc)
      | _ => cases k5
  | invokestatic idx =>
    obtain ⟨nest, pl, a, sl, rfl⟩ := o7 (o := o) (c := c) (na := na) (kd := kd) hco
    obtain ⟨hkd, hcal⟩ := (Bool.and_eq_true _ _).mp (show (kd == 2 && calOK (mName y).cls idx c na kd nest pl a sl) = true by simpa only [lnkE] using hlk)
    have hkd : kd = 2 := by simpa using hkd
    subst hkd
    obtain ⟨g1, h0, hc, g4⟩ := link hcal
    simp only [kdOK, Bool.and_eq_true, decide_eq_true_eq] at g4
    obtain ⟨g5, g7⟩ := g4
    obtain ⟨f1, f2, -, f4, f5, f6⟩ := mOK_facts h0 hc
    have hM := met_run IH h0 hc k4 hr
    have hAl : ((st.take na).reverse.map (tr w)).length = na := by
      rw [List.length_map, List.length_reverse, List.length_take]
      omega
    have hps : PreS s H (PcW w (st.take na).reverse h) ((st.take na).reverse.map (tr w)) := ⟨PcW.blind _ _ _, fun U hU hWm => hpre _ U hU hWm⟩
    have hstk := take_revS (w := w) (na := na) (st := st)
    have hd := dl hdec hlen (n := 2) rfl
    by_cases hn0 : nest = 0
    · rw [if_pos hn0] at g1
      have hG : GoodIn BIGG (va_wsS (mName y).cls idx (mName c) (wsY c)) := by
        intro z hz
        unfold va_wsS at hz
        rcases List.mem_append.mp hz with hz | hz
        · have : z ∈ BIGG := by
            simp only [List.mem_cons, List.not_mem_nil, or_false] at hz
            rcases hz with rfl | rfl | rfl
            · exact linkOK_in g1
            · exact linkOK_in g5
            · exact f6
          exact ⟨this, good_of_word (BIGG_good _ this)⟩
        · exact wsY_good h0 hc z hz
      exact call_go (va_runS hS hM (va_cwS na hts hG rfl rfl rfl ⟨f1, f2, g7⟩ (hrm _ _ f4)) hps rfl hAl hl.1 hstk hsum hd ⟨hc1, hs1⟩) hW.2.2 (fun H1 locs1 hW1 => hkk H1 locs1 hW1 hc)
    · rw [if_neg hn0] at g1
      exact call_go (va_runSN hS hM ⟨va_cnB na hts (wsY_good h0 hc) rfl rfl rfl (hN _ (nestOK_in g1)) (hts _ f6) ⟨f1, f2, g7⟩ (hrm _ _ f4), hts _ (linkOK_in g5), trivial⟩ hps rfl hAl hl.1 hstk hsum hd ⟨hc1, hs1⟩) hW.2.2 (fun H1 locs1 hW1 => hkk H1 locs1 hW1 hc)
  | _ => cases hco
end
section
theorem run_sound (w : WC) (l : Launch) : ∀ n, RunS w l n
  | 0 => fun dp y pc L st h v h' hr => by cases hr
  | n + 1 => by
    have IH := run_sound w l n
    intro dp y pc L st h v h' hr hy hL p e R s m args below meth c H locs cells slots Q ls n0 s0 M hR hW hl hc hs hcR hsR hK
    rw [run] at hr
    split at hr
    · cases hr
    · rename_i pc0 i len o he
      obtain ⟨rfl, hdec, hlen, hlk⟩ := pAt_ok hy he
      split at hr
      · rename_i r hret
        subst hr
        have e1 := retO_h hret
        subst e1
        exact hK pc0 len i o ls H locs cells slots st hdec hlen hret hW hc hs
      · split at hr
        · rename_i c' na kd hco
          split at hr
          · cases hr
          · rename_i dp'
            obtain ⟨hok, hr⟩ := inv_if hr
            split at hr
            · rename_i rv h1 h1e
              obtain ⟨l1, e1⟩ := run_sh _ _ _ _ _ _ _ _ _ h1e
              obtain ⟨l2, e2⟩ := run_sh _ _ _ _ _ _ _ _ _ hr
              have q1 : h1.1.length = h.1.length + l1.length := by rw [e1, List.length_append]
              have q2 : h'.1.length = h1.1.length + l2.length := by rw [e2, List.length_append]
              have q3 : slotS h1.1 = slotS h.1 + slotS l1 := by rw [e1, slotS_app]
              have q4 : slotS h'.1 = slotS h1.1 + slotS l2 := by rw [e2, slotS_app]
              refine call_sound IH hdec hlen hlk hco hok h1e M hR hW hl (by omega) (by omega) (fun H1 locs1 hW1 hc' => ?_)
              exact IH (dp' + 1) y (pc0 + 3) L (rv.toList ++ st.drop na) h1 v h' hr hy hL p e R s m args below meth c H1 locs1 _ _ Q ls n0 s0 M hR hW1 hl (by omega) (by omega) hcR hsR hK
            · cases hr
        · split at hr
          · rename_i pc' L' st' h1 h1e
            obtain ⟨l1, e1⟩ := hstep_sh h1e
            obtain ⟨l2, e2⟩ := run_sh _ _ _ _ _ _ _ _ _ hr
            have q1 : h1.1.length = h.1.length + l1.length := by rw [e1, List.length_append]
            have q2 : h'.1.length = h1.1.length + l2.length := by rw [e2, List.length_append]
            have q3 : slotS h1.1 = slotS h.1 + slotS l1 := by rw [e1, slotS_app]
            have q4 : slotS h'.1 = slotS h1.1 + slotS l2 := by rw [e2, slotS_app]
            refine hs_sound M hdec hlen hlk hl hL hW ⟨by have := hR.1; omega, by have := hR.2; omega⟩ h1e (by omega) (by omega) (fun ls' H1 locs1 c1 s1 a1 a2 a3 a4 a5 => ?_)
            exact IH dp y pc' L' st' h1 v h' hr hy a2 p e R s m args below meth c H1 locs1 c1 s1 Q ls' n0 s0 M hR a3 a1 (by omega) (by omega) hcR hsR hK
          · cases hr
end
section
def R_law : String := "PastCatchersLaw"
def lw_P (b : Addr) (xs : List Int32) (args : Array Value) (s : State) : Prop := args = #[.ref b] ∧ s.IntsAt b xs ∧ xs.length ≤ 3072 ∧ (Jvm.Cond.and given_1 narrow_1).before args s = true
def lw_Q (_ : Array Value) (s : State) (o : Outcome) (t : State) : Prop := o = .returned (some (.int 1)) ∧ Framed s o t [] 600000 7302250
def lw_Z (below : List Frame) (a : Array Value) (s : State) : State → Prop := fun t => ∃ o, t.status = .running ∧ Ended t below o ∧ lw_Q a s o t
/-- the law's own end, with 1 on the stack, nothing written that was there before, its room as the claim has it -/
theorem lw_ret {p : Program} {l : Launch} {e : Env} {s : State} {m : MethodId} {below : List Frame} {meth : Method} {c : Code} {b : Nat} (hx : p.tables.exec = Jvm.exec) (hb : c.code = code) (hr : meth.sig.returnType = ret) (hlocks : meth.locks = false) {pc : Nat} {H : Heap} {ls : Array Slot} (hdg : decode code pc = .ok (.ireturn, 1)) : W p l e room_1 s m #[Value.ref b] below meth c H [] 600000 7302250 (lw_Z below #[Value.ref b] s) (F0 m pc ls [.int 1]) := by
  intro T hT X
  obtain ⟨fs, hret, hrun, hended, hW, hframe⟩ := X.leave (v := some (.int 1)) (hlocks := hlocks) (fun h => by rw [hr] at h; cases h)
  have hmeth' : T.vm.method? m = some meth := X.method'
  refine ⟨T.setFrames fs, ?_, .returned (some (.int 1)), hrun, hended, rfl, ⟨_, rfl⟩, hW, hframe⟩
  jvm_step X.here [X.here.top, hx, hb, hdg, hmeth', hr, ret, narrow_b1]
  (try refine ⟨rfl, ?_⟩); (try refine ⟨rfl, ?_⟩)
  first | (intro acts; rw [hret _ acts rfl rfl rfl]) | rw [hret _ _ rfl rfl rfl]
  exact Steps.refl _
/-- what holds at the law's entry: the machine, the code, the tables' words (any of lw_tbl by 'hts w (by decide +kernel)'), the script of L ints xs at the cell b, what the Statement gives of the start (any of its parts by flat_of_before) -/
def lw_At (p : Program) (s : State) (m : MethodId) (meth : Method) (c : Code) (b L : Nat) (xs : Nat → Int32) : Prop :=
  p.tables.exec = Jvm.exec ∧ c.code = code ∧ meth.sig.returnType = ret ∧ c.maxLocals = 4 ∧ s.vm.findClass R_law = some m.cls ∧ (∀ w ∈ lw_tbl, w.before #[Value.ref b] s = true) ∧ va_X b L xs s s.heap ∧ b < s.heap.size ∧ meth.locks = false ∧ (Jvm.Cond.and given_1 narrow_1).before #[Value.ref b] s = true
end
section
/-- the empty heap -/
def hp0 : Hp := ([], fun _ _ => 0, fun _ _ => 0, fun _ _ => none)
theorem own_tbl (s : State) {args : Array Value} (hts : ∀ q ∈ lw_tbl, q.before args s = true) : ∀ q ∈ BIGG, q.before args s = true := fun q hq => hts q (BIGG_tbl q hq)
theorem nest_tbl (s : State) {args : Array Value} (hts : ∀ q ∈ lw_tbl, q.before args s = true) : NestW s := by
  intro q hq
  obtain ⟨h1, h2⟩ := List.mem_filter.mp hq
  have h3 := hts q (List.mem_append_right _ h1)
  cases q with
  | fieldLinkNest a i b n d x => exact va_Nw.of rfl h3
  | methodLinkNest a i x hh => exact va_Nw.of rfl h3
  | _ => cases h2
/-- the classes' numbers and slots, the array classes -/
theorem kn_tbl (s : State) {args : Array Value} (hts : ∀ q ∈ BIGG, q.before args s = true) (hAO : va_AO RX5 s) (hAA : vz_AOA .long s) : ∃ (D : va_G) (cA : Nat → ClassId), ∀ (b : Nat) (o : Nat → Nat) (z : Value) (X : Scr), va_K D vwCl (tysW (b, D, cA, o, z, X)) s := by
  have h1 : ∀ k : Nat, ∃ q : ClassId × (Nat → Nat), k < 8 → u_Kn s (vwC k) (vwT k) (vwN k) q.1 q.2 := by
    intro k
    by_cases hk : k < 8
    · obtain ⟨c, i, h⟩ := u_known (C := vwC k) (T := vwT k) (N := vwN k) (n := vwN k) hts (cls_ws k hk) (hts _ (cls_ins k hk))
      exact ⟨(c, i), fun _ => h⟩
    · exact ⟨(0, fun _ => 0), fun h => absurd h hk⟩
  obtain ⟨f, hf⟩ := Classical.axiomOfChoice h1
  obtain ⟨a0, k0, c0, e0, f0, g0⟩ := Cond.arrayClass_spec (hts _ arc_int)
  obtain ⟨a1, k1, c1, e1, f1, g1⟩ := Cond.arrayClass_spec (hts _ arc_long)
  obtain ⟨a2, k2, c2, e2, f2, g2⟩ := Cond.arrayClass_spec (hts _ arc_bool)
  obtain ⟨c3, a3, k3, d3, -, f3, g3, e3⟩ := Cond.arrayOver_spec hAO
  obtain ⟨c4, a4, k4, d4, -, f4, g4, e4⟩ := arrayOverA_spec hAA
  refine ⟨(fun k => (f k).1, fun k => (f k).2), fun t => match t with | 0 => a0 | 1 => a1 | 2 => a2 | 3 => a3 | _ => a4, fun b o z X => ⟨fun k q hq => ?_, fun k q hq => ?_⟩⟩
  · have hk : k < 8 := (List.getElem?_eq_some_iff.mp hq).1
    have := cls_tab k hk
    rw [hq] at this
    cases this
    exact hf k hk
  · match k, hq with
    | 0, hq => cases hq; exact ⟨fun n z => ⟨fun k h => (by cases h), k0, f0, c0, g0⟩, e0⟩
    | 1, hq => cases hq; exact ⟨fun n z => ⟨fun k h => (by cases h), k1, f1, c1, g1⟩, e1⟩
    | 2, hq => cases hq; exact ⟨fun n z => ⟨fun k h => (by cases h), k2, f2, c2, g2⟩, e2⟩
    | 3, hq => cases hq; exact ⟨fun n z => ⟨fun k h => (by cases h), k3, f3, c3, g3⟩, k3, c3, f3, g3, d3, e3⟩
    | 4, hq => cases hq; exact ⟨fun n z => ⟨fun k h => (by cases h), k4, f4, c4, g4⟩, e4⟩
    | k + 5, hq => simp [tysW] at hq
end
section
/-! The old cells at the law's entry. -/
abbrev gvL : List Jvm.Cond := flatC (Jvm.Cond.and given_1 narrow_1)
def tAbove : Term := .static "PastCatchers" "ABOVE" "[I"
def tBodies : Term := .static "PastCatchers$Acts" "BODIES" "[I"
def tStr (i : Nat) : Term := .string RX4 (idxS i)
theorem gv_above : ∀ j, j < 7 → Jvm.Cond.eq (.elem tAbove (.int (Int32.ofNat j))) (.int (aboveL.getD j 0)) ∈ gvL := by decide +kernel
theorem gv_bodies : ∀ j, j < 21 → Jvm.Cond.eq (.elem tBodies (.int (Int32.ofNat j))) (.int (bodiesL.getD j 0)) ∈ gvL := by decide +kernel
theorem gv_s1 : ∀ i, i < 5 → Jvm.Cond.exactly (tStr i) "java/lang/String" ∈ gvL := by decide +kernel
theorem gv_s2 : ∀ i, i < 5 → Jvm.Cond.eq (.field (tStr i) "java/lang/String" "coder" "B") (.int 0) ∈ gvL := by decide +kernel
theorem gv_s3 : ∀ i, i < 5 → Jvm.Cond.arrayOf (.field (tStr i) "java/lang/String" "value" "[B") .byte ∈ gvL := by decide +kernel
theorem gv_s4 : ∀ i, i < 5 → Jvm.Cond.eq (.length (.field (tStr i) "java/lang/String" "value" "[B")) (.int (Int32.ofNat (strL.getD i 0))) ∈ gvL := by decide +kernel
theorem gv_s5 : ∀ i, i < 5 → ∀ j, j < strL.getD i 0 → Jvm.Cond.eq (.elem (.field (tStr i) "java/lang/String" "value" "[B") (.int (Int32.ofNat j))) (.int ((strB.getD i []).getD j 0)) ∈ gvL := by decide +kernel
theorem gv_s6 : ∀ i, i < 5 → ∀ j, j < 5 → i < j → Jvm.Cond.not (Jvm.Cond.eq (tStr i) (tStr j)) ∈ gvL := by decide +kernel
theorem tb_str : ∀ i, i < 5 → Jvm.Cond.stringRef RX4 (idxS i) (txS i) ∈ lw_tbl := by decide +kernel
theorem strL_lt : ∀ i, i < 5 → strL.getD i 0 < 2 ^ 31 := by decide +kernel
theorem old_tbl {s : State} {b L : Nat} {xs : Nat → Int32} (hts : ∀ q ∈ lw_tbl, q.before #[Value.ref b] s = true) (hX : va_X b L xs s s.heap) (hb : b < s.heap.size) (hgv : (Jvm.Cond.and given_1 narrow_1).before #[Value.ref b] s = true) :
    ∃ (o : Nat → Nat) (z : Value), o 0 = b ∧ ∀ (D : va_G) (cA : Nat → ClassId), OldW (s.heap.size, D, cA, o, z, (L, xs)) s := by
  have hg := flat_of_before _ hgv
  have hA : ∀ a : Nat, a < s.heap.size → ¬ (fun q => s.heap.size ≤ q) a := fun a h => Nat.not_le.mpr h
  obtain ⟨t1, e1, T1⟩ := va_Tof (tm := tAbove) (ty := .int) (N := 7) (f := fun j => .int (aboveL.getD j 0)) (by decide) (hg _ (by decide +kernel)) (va_eqt (hg _ (by decide +kernel))) (fun j hj => va_eqt (hg _ (gv_above j hj))) hA
  obtain ⟨t2, e2, T2⟩ := va_Tof (tm := tBodies) (ty := .int) (N := 21) (f := fun j => .int (bodiesL.getD j 0)) (by decide) (hg _ (by decide +kernel)) (va_eqt (hg _ (by decide +kernel))) (fun j hj => va_eqt (hg _ (gv_bodies j hj))) hA
  have Z1 := va_Zref (C := "PastCatchers") (n := "ABOVE") (d := "[I") (hts _ (by decide +kernel)) (hts _ (by decide +kernel)) e1 hA
  have Z2 := va_Zref (C := "PastCatchers$Acts") (n := "BODIES") (d := "[I") (hts _ (by decide +kernel)) (hts _ (by decide +kernel)) e2 hA
  have Z3 := va_Zof (C := "java/lang/String") (n := "COMPACT_STRINGS") (d := "Z") (hts _ (by decide +kernel)) (hts _ (by decide +kernel)) (va_eqi (z := 1) (hg _ (by decide +kernel))) hA
  have Z4 := va_Zqof (C := "jdk/internal/util/Preconditions") (n := "SIOOBE_FORMATTER") (d := "Ljava/util/function/BiFunction;") (hts _ (by decide +kernel)) (hts _ (by decide +kernel)) (hg _ (by decide +kernel)) hA
  obtain ⟨adK, adV, hS, hE⟩ := vk_Sof (N := 5) (tm := tStr) (len := strL) (byt := strB) strL_lt (fun i hi => hg _ (gv_s1 i hi)) (fun i hi => hg _ (gv_s2 i hi)) (fun i hi => hg _ (gv_s3 i hi)) (fun i hi => hg _ (gv_s4 i hi)) (fun i hi j hj => hg _ (gv_s5 i hi j hj))
    (fun i j hi hj hne => by
      rcases Nat.lt_or_gt_of_ne hne with h | h
      · exact Or.inl (hg _ (gv_s6 i hi j hj h))
      · exact Or.inr (hg _ (gv_s6 j hj i hi h))) hA
  have hz : ∃ z : Value, (z = .null ∨ ∃ t, z = .ref t) ∧ va_Z "jdk/internal/util/Preconditions" "SIOOBE_FORMATTER" "Ljava/util/function/BiFunction;" z (fun q => s.heap.size ≤ q) s s.heap := by
    rcases Z4 with h | ⟨t, h⟩
    · exact ⟨.null, Or.inl rfl, h⟩
    · exact ⟨.ref t, Or.inr ⟨t, rfl⟩, h⟩
  obtain ⟨z, hz1, hz2⟩ := hz
  have hao : va_AO RX5 s := va_AO.of (hts (.arrayOver (.object RX5)) (by decide +kernel))
  have haa : vz_AOA .long s := hts (.arrayOver (.array .long)) (by decide +kernel)
  refine ⟨fun j => if j = 0 then b else if j = 1 then t1 else if j = 2 then t2 else if j < 8 then adK (j - 3) else adV (j - 8), z, rfl, fun D cA => ?_⟩
  refine ⟨hX, hb, Nat.le_refl _, T1, T2, Z1, Z2, Z3, hz2, ?_, fun j hj => ?_, hao, haa, hz1⟩
  · have f1 : ∀ i, i < 5 → (if 3 + i = 0 then b else if 3 + i = 1 then t1 else if 3 + i = 2 then t2 else if 3 + i < 8 then adK (3 + i - 3) else adV (3 + i - 8)) = adK i := by
      intro i hi
      rw [if_neg (by omega), if_neg (by omega), if_neg (by omega), if_pos (by omega), show 3 + i - 3 = i by omega]
    have f2 : ∀ i, (if 8 + i = 0 then b else if 8 + i = 1 then t1 else if 8 + i = 2 then t2 else if 8 + i < 8 then adK (8 + i - 3) else adV (8 + i - 8)) = adV i := by
      intro i
      rw [if_neg (by omega), if_neg (by omega), if_neg (by omega), if_neg (by omega), show 8 + i - 8 = i by omega]
    obtain ⟨h1, h2⟩ := hS
    refine ⟨fun i hi => ?_, fun i j hi hj e => ?_⟩
    · show va_O _ (if _ then _ else _) _ _ _ ∧ va_OF _ _ _ _ (if _ then _ else _) _ _ _ ∧ va_OF _ _ _ (.ref (if _ then _ else _)) (if _ then _ else _) _ _ _ ∧ va_T _ (if _ then _ else _) _ _ _ _ _
      rw [f1 i hi, f2 i]
      exact h1 i hi
    · have e' : (if 3 + i = 0 then b else if 3 + i = 1 then t1 else if 3 + i = 2 then t2 else if 3 + i < 8 then adK (3 + i - 3) else adV (3 + i - 8)) = (if 3 + j = 0 then b else if 3 + j = 1 then t1 else if 3 + j = 2 then t2 else if 3 + j < 8 then adK (3 + j - 3) else adV (3 + j - 8)) := e
      rw [f1 i hi, f1 j hj] at e'
      exact h2 i j hi hj e'
  · have f1 : (if 3 + j = 0 then b else if 3 + j = 1 then t1 else if 3 + j = 2 then t2 else if 3 + j < 8 then adK (3 + j - 3) else adV (3 + j - 8)) = adK j := by
      rw [if_neg (by omega), if_neg (by omega), if_neg (by omega), if_pos (by omega), show 3 + j - 3 = j by omega]
    show vk_R RX4 (idxS j) (txS j) (if _ then _ else _) s
    rw [f1]
    exact vk_R.of (hts _ (tb_str j hj)) (hE j hj)
end
section
/-! A run of the law on the pure machine, from its entry to its return of 1, is the law's walk. -/
theorem mB0 : mBytes 0 = code := rfl
theorem mR0 : mRet 0 = ret := rfl
theorem mM0 : mMaxL 0 = 4 := rfl
theorem mN0 : (mName 0).cls = R_law ∧ (mName 0).name ≠ "<init>" := ⟨rfl, by decide +kernel⟩
theorem lR0 : ret = some .boolean := rfl
def lL0 : List Value := [.ref OLDB, .retAddr 0, .retAddr 0, .retAddr 0]
set_option maxHeartbeats 4000000 in
theorem law_sound {p : Program} {e : Env} {s : State} {m : MethodId} {below : List Frame} {meth : Method} {c : Code} (l : Launch) {b L : Nat} {xs : Nat → Int32} (C0 : lw_At p s m meth c b L xs) {n dp : Nat} {h' : Hp} (hr : run (L, xs) n dp 0 0 lL0 [] hp0 = some (some (.int 1), h')) (hdp : dp ≤ 1000) (hc : h'.1.length ≤ 600000) (hs : slotS h'.1 ≤ 7302250) :
    W p l e room_1 s m #[Value.ref b] below meth c s.heap [] 0 0 (lw_Z below #[Value.ref b] s) (entryFrame m ([Value.ref b] : List Value).toArray 4) := by
  obtain ⟨hx, hb, hrt, hml, hown, hts, hX, hbl, hlocks, hgv⟩ := id C0
  obtain ⟨o, z, ho, hO⟩ := old_tbl hts hX hbl hgv
  have hbg := own_tbl s hts
  obtain ⟨D, cA, hK⟩ := kn_tbl s hbg (va_AO.of (hts (.arrayOver (.object RX5)) (by decide +kernel))) (hts (.arrayOver (.array .long)) (by decide +kernel))
  have hO := hO D cA
  have hK := hK s.heap.size o z (L, xs)
  generalize hw : ((s.heap.size, D, cA, o, z, (L, xs)) : WC) = w at hO hK
  have hwb : w.1 = s.heap.size := by rw [← hw]
  have hwX : w.2.2.2.2.2 = (L, xs) := by rw [← hw]
  have hwo : w.2.2.2.1 0 = b := by rw [← hw]; exact ho
  have hwD : w.2.1 = D := by rw [← hw]
  rw [← hwX] at hr
  have htr : tr w (.ref OLDB) = .ref b := by
    have hB := OLDB_eq
    show (if OLDB = OLDB + 13 then w.2.2.2.2.1 else .ref (wfi w OLDB)) = .ref b
    rw [if_neg (by omega)]
    unfold wfi
    rw [if_neg (Nat.lt_irrefl _), Nat.sub_self, hwo]
  have M : MC w p s m #[Value.ref b] meth c 0 := ⟨hx, by rw [hb, mB0], by rw [hrt, mR0], hlocks, by rw [hml, mM0], by rw [mN0.1]; exact hown, fun q => absurd q mN0.2, hbg, nest_tbl s hts, by rw [hwD]; exact hK, hO⟩
  have hWd : WdH w s hp0 s.heap [] := ⟨by rw [hwb]; rfl, by intro k q hq; exact absurd hq (by simp [wsH, hp0]), va_S.rf⟩
  have hl := entL_has (w := w) hO.zc [.ref OLDB] (n := 4) (by decide)
  rw [lg_entry_eq]
  rw [show [Value.ref OLDB].map (tr w) = [Value.ref b] by rw [List.map_cons, htr]; rfl] at hl
  refine run_sound w l n dp 0 0 lL0 [] hp0 (some (.int 1)) h' hr (by decide) rfl p e room_1 s m #[Value.ref b] below meth c s.heap [] 0 0 _ _ 0 0 M ⟨by show 2 * dp + 2 ≤ 2048; omega, by show 64 * dp + 200 ≤ 84000; omega⟩ hWd hl rfl rfl (by rw [Nat.zero_add]; exact hc) (by rw [Nat.zero_add]; exact hs) ?_
  intro pc len i o' ls H locs cells slots st hdec hlen hret hW hcc hss
  unfold retO at hret
  split at hret
  · replace hret := Option.some.inj hret
    unfold retI at hret
    split at hret
    · rename_i x
      split at hret
      · obtain ⟨-, hret⟩ := inv_if hret
        cases hret
        have hd := dl hdec hlen (n := 0) rfl
        rw [mB0] at hd
        have hQ := lw_ret (p := p) (l := l) (e := e) (s := s) (m := m) (below := below) (meth := meth) (c := c) (b := b) hx hb hrt hlocks (pc := pc) (H := H) (ls := ls) hd
        refine va_forget (fun q hq => ?_) ?_
        · have := hW.2.2.2.2 q hq
          rw [← hwb]
          exact this
        · exact W.widen (k := 600000) (n := 7302250) (by omega) (by omega) hQ
      · cases hret
    · cases hret
  · replace hret := Option.some.inj hret
    unfold retL at hret
    split at hret
    · obtain ⟨-, hret⟩ := inv_if hret
      cases hret
    · cases hret
  · replace hret := Option.some.inj hret
    unfold retV at hret
    split at hret
    · obtain ⟨-, hret⟩ := inv_if hret
      cases hret
    · cases hret
  · cases hret
end
section
/-! The heap's shapes after both constructors; bounds of its numbers; where its references lead. -/
def SHl : List Sh := [.inr 6, .inr 2, .inl (0, 7), .inl (0, 7), .inl (0, 7), .inl (0, 7), .inl (0, 7), .inl (0, 28), .inl (0, 12), .inr 2, .inl (0, 7), .inl (0, 7), .inl (0, 7), .inl (0, 7), .inl (0, 7), .inl (0, 28), .inl (0, 12), .inr 1, .inr 2, .inl (0, 7), .inl (0, 7), .inl (0, 7), .inl (0, 7), .inl (0, 7), .inl (0, 28), .inl (0, 12), .inr 5, .inl (0, 10), .inl (0, 10), .inl (0, 10), .inl (0, 100), .inl (0, 6), .inl (0, 7), .inl (0, 7), .inl (0, 7), .inl (0, 7), .inl (0, 7), .inl (0, 7), .inl (3, 6), .inr 5, .inl (0, 10), .inl (0, 10), .inl (0, 10), .inl (0, 100), .inr 4, .inl (0, 100), .inr 5, .inl (0, 10), .inl (0, 10), .inl (0, 10), .inl (0, 100), .inr 0, .inl (0, 20), .inr 3, .inl (0, 6), .inl (0, 6), .inl (4, 6), .inl (1, 60), .inl (1, 60), .inl (1, 60), .inl (1, 60), .inl (1, 60), .inl (1, 60), .inr 5, .inl (0, 10), .inl (0, 10), .inl (0, 10), .inl (0, 100), .inr 5, .inl (0, 10), .inl (0, 10), .inl (0, 10), .inl (0, 100), .inr 5, .inl (0, 10), .inl (0, 10), .inl (0, 10), .inl (0, 100), .inr 5, .inl (0, 10), .inl (0, 10), .inl (0, 10), .inl (0, 100), .inr 5, .inl (0, 10), .inl (0, 10), .inl (0, 10), .inl (0, 100), .inr 5, .inl (0, 10), .inl (0, 10), .inl (0, 10), .inl (0, 100), .inr 7, .inl (0, 7), .inl (0, 7), .inl (0, 7), .inl (0, 7), .inl (0, 7), .inl (0, 28), .inl (0, 100), .inl (0, 6), .inl (0, 60), .inl (0, 60), .inl (0, 60), .inl (0, 60), .inl (0, 600), .inl (0, 101), .inl (0, 14), .inl (2, 100), .inl (0, 7), .inl (0, 3), .inl (0, 3), .inl (0, 7), .inl (0, 12), .inl (0, 7), .inl (0, 7), .inl (0, 7), .inl (0, 7), .inl (0, 7), .inl (0, 28), .inl (0, 12), .inl (0, 20), .inl (0, 6), .inl (0, 6), .inl (1, 360), .inl (1, 60)]
def IVT : List (List (Int × Int)) := [[(-2147483648, 2147483647), (-2147483648, 2147483647), (0, 1), (-2147483648, 2147483647), (-2147483648, 2147483647), (-2147483648, 2147483647), (0, 6), (-2147483648, 2147483647), (-2147483648, 2147483647), (-2147483648, 2147483647)], [(0, 7), (-2147483648, 2147483647), (-2147483648, 2147483647), (-2147483648, 2147483647), (-2147483648, 2147483647), (-2147483648, 2147483647), (-2147483648, 2147483647), (-2147483648, 2147483647), (-2147483648, 2147483647), (-2147483648, 2147483647), (-2147483648, 2147483647), (0, 12), ((-1), 5)], [(0, 6)], [(0, 9)], [(0, 6)], [(0, 9)], [(0, 9)], [(0, 6)], [(-2147483648, 2147483647)], [(0, 7), (-2147483648, 2147483647), (-2147483648, 2147483647), (-2147483648, 2147483647), (-2147483648, 2147483647), (-2147483648, 2147483647), (-2147483648, 2147483647), (-2147483648, 2147483647), (-2147483648, 2147483647), (-2147483648, 2147483647), (-2147483648, 2147483647), (0, 12), ((-1), 5)], [(0, 6)], [(0, 9)], [(0, 6)], [(0, 9)], [(0, 9)], [(0, 6)], [(-2147483648, 2147483647)], [(-2147483648, 2147483647), (-2147483648, 2147483647), (-2147483648, 2147483647), (-2147483648, 2147483647), (-2147483648, 2147483647), (-2147483648, 2147483647), (-2147483648, 2147483647), (-2147483648, 2147483647), (-2147483648, 2147483647), (-2147483648, 2147483647), (-2147483648, 2147483647), (-2147483648, 2147483647), (0, 1), (-2147483648, 2147483647), (0, 6), ((-1), 6), (-2147483648, 2147483647)], [(0, 7), (-2147483648, 2147483647), (-2147483648, 2147483647), (-2147483648, 2147483647), (-2147483648, 2147483647), (-2147483648, 2147483647), (-2147483648, 2147483647), (-2147483648, 2147483647), (-2147483648, 2147483647), (-2147483648, 2147483647), (-2147483648, 2147483647), (0, 12), ((-1), 5)], [(0, 6)], [(0, 9)], [(0, 6)], [(0, 9)], [(0, 9)], [(0, 6)], [(-2147483648, 2147483647)], [(0, 10), (-2147483648, 2147483647), (-2147483648, 2147483647), (-2147483648, 2147483647), (-2147483648, 2147483647), (0, 100)], [(-2147483648, 2147483647)], [(-2147483648, 2147483647)], [(-2147483648, 2147483647)], [(-2147483648, 2147483647)], [(-2147483648, 2147483647)], [(-2147483648, 2147483647)], [(-2147483648, 2147483647)], [(-2147483648, 2147483647)], [(0, 6)], [(-2147483648, 2147483647)], [(0, 6)], [(-2147483648, 2147483647)], [(0, 10), (-2147483648, 2147483647), (-2147483648, 2147483647), (-2147483648, 2147483647), (-2147483648, 2147483647), (0, 100)], [(-2147483648, 2147483647)], [(-2147483648, 2147483647)], [(-2147483648, 2147483647)], [(-2147483648, 2147483647)], [(-2147483648, 2147483647), (0, 100), (0, 100), (-2147483648, 2147483647)], [(0, 127)], [(0, 10), (-2147483648, 2147483647), (-2147483648, 2147483647), (-2147483648, 2147483647), (-2147483648, 2147483647), (0, 100)], [(-2147483648, 2147483647)], [(-2147483648, 2147483647)], [(-2147483648, 2147483647)], [(-2147483648, 2147483647)], [(-2147483648, 2147483647), (-2147483648, 2147483647), (-2147483648, 2147483647), (-2147483648, 2147483647), (-2147483648, 2147483647)], [(-2147483648, 2147483647)], [(-2147483648, 2147483647), (-2147483648, 2147483647), (-2147483648, 2147483647)], [((-1), 4)], [(0, 60)], [(-2147483648, 2147483647)], [(-2147483648, 2147483647)], [(-2147483648, 2147483647)], [(-2147483648, 2147483647)], [(-2147483648, 2147483647)], [(-2147483648, 2147483647)], [(-2147483648, 2147483647)], [(0, 10), (-2147483648, 2147483647), (-2147483648, 2147483647), (-2147483648, 2147483647), (-2147483648, 2147483647), (0, 100)], [(-2147483648, 2147483647)], [(-2147483648, 2147483647)], [(-2147483648, 2147483647)], [(-2147483648, 2147483647)], [(0, 10), (-2147483648, 2147483647), (-2147483648, 2147483647), (-2147483648, 2147483647), (-2147483648, 2147483647), (0, 100)], [(-2147483648, 2147483647)], [(-2147483648, 2147483647)], [(-2147483648, 2147483647)], [(-2147483648, 2147483647)], [(0, 10), (-2147483648, 2147483647), (-2147483648, 2147483647), (-2147483648, 2147483647), (-2147483648, 2147483647), (0, 100)], [(-2147483648, 2147483647)], [(-2147483648, 2147483647)], [(-2147483648, 2147483647)], [(-2147483648, 2147483647)], [(0, 10), (-2147483648, 2147483647), (-2147483648, 2147483647), (-2147483648, 2147483647), (-2147483648, 2147483647), (0, 100)], [(-2147483648, 2147483647)], [(-2147483648, 2147483647)], [(-2147483648, 2147483647)], [(-2147483648, 2147483647)], [(0, 10), (-2147483648, 2147483647), (-2147483648, 2147483647), (-2147483648, 2147483647), (-2147483648, 2147483647), (0, 100)], [(-2147483648, 2147483647)], [(-2147483648, 2147483647)], [(-2147483648, 2147483647)], [(-2147483648, 2147483647)], [(0, 10), (-2147483648, 2147483647), (-2147483648, 2147483647), (-2147483648, 2147483647), (-2147483648, 2147483647), (0, 100)], [(-2147483648, 2147483647)], [(-2147483648, 2147483647)], [(-2147483648, 2147483647)], [(-2147483648, 2147483647)], [(0, 7), (0, 1100), (-2147483648, 2147483647), (-2147483648, 2147483647), (-2147483648, 2147483647), (-2147483648, 2147483647), (-2147483648, 2147483647), (-2147483648, 2147483647), (-2147483648, 2147483647), (0, 6), ((-1), 5), (0, 100), (0, 100), (0, 99), (-2147483648, 2147483647), (-2147483648, 2147483647), (-2147483648, 2147483647), (-2147483648, 2147483647), (-2147483648, 2147483647), (-2147483648, 2147483647), (-2147483648, 2147483647), (-2147483648, 2147483647), (0, 600), (0, 101), (-2147483648, 2147483647), (-2147483648, 2147483647), (-2147483648, 2147483647), (0, 1), (-2147483648, 2147483647), (0, 6), ((-1), 6), (-2147483648, 2147483647), (-2147483648, 2147483647), (-2147483648, 2147483647), (0, 7), (-2147483648, 2147483647), (-2147483648, 2147483647), (0, 1100), (-2147483648, 2147483647), (-2147483648, 2147483647), (-2147483648, 2147483647), (-2147483648, 2147483647), (0, 12), (-2147483648, 2147483647), (0, 1), ((-1), 5), (0, 7), (0, 1100), (-2147483648, 2147483647), (-2147483648, 2147483647), (0, 12), (-2147483648, 2147483647), (-2147483648, 2147483647), (-2147483648, 2147483647), (-2147483648, 2147483647), (-2147483648, 2147483647), (-2147483648, 2147483647), (-2147483648, 2147483647), (0, 100), (-2147483648, 2147483647), (-2147483648, 2147483647), (-2147483648, 2147483647), (-2147483648, 2147483647), (-2147483648, 2147483647)], [(0, 6)], [(0, 9)], [(0, 6)], [(0, 9)], [(0, 9)], [(0, 6)], [(0, 127)], [(0, 10)], [(0, 2)], [(0, 99)], [(0, 600)], [(0, 600)], [(-2147483648, 2147483647)], [(-2147483648, 2147483647)], [(0, 127)], [(0, 1)], [(0, 6)], [(0, 7)], [(0, 6)], [(0, 6)], [(-2147483648, 2147483647)], [(0, 6)], [(0, 9)], [(0, 6)], [(0, 9)], [(0, 9)], [(0, 6)], [(-2147483648, 2147483647)], [(-2147483648, 2147483647)], [((-1), 4)], [(0, 60)], [(-2147483648, 2147483647)], [(-2147483648, 2147483647)]]
def RFT : List (List (List Nat)) := [[[1], [9], [], [17], [38], [39], [], [44], [51], [53]], [[], [2], [3], [4], [5], [6], [7], [], [], [], [8], [], []], [[]], [[]], [[]], [[]], [[]], [[]], [[]], [[], [10], [11], [12], [13], [14], [15], [], [], [], [16], [], []], [[]], [[]], [[]], [[]], [[]], [[]], [[]], [[18], [26, 39, 63, 68, 73, 78, 83, 88], [31], [32], [33], [34], [35], [36], [37], [], [], [], [], [], [], [], []], [[], [19], [20], [21], [22], [23], [24], [], [], [], [25], [], []], [[]], [[]], [[]], [[]], [[]], [[]], [[]], [[], [27], [28], [29], [30], []], [[]], [[]], [[]], [[]], [[]], [[]], [[]], [[]], [[]], [[]], [[]], [[63, 68, 73, 78, 83, 88]], [[], [40], [41], [42], [43], []], [[]], [[]], [[]], [[]], [[45], [], [], [46, 63, 68, 73, 78, 83, 88]], [[]], [[], [47], [48], [49], [50], []], [[]], [[]], [[]], [[]], [[], [], [], [52], []], [[]], [[54], [55], [56]], [[]], [[]], [[57, 58, 59, 60, 61, 62]], [[]], [[]], [[]], [[]], [[]], [[]], [[], [64], [65], [66], [67], []], [[]], [[]], [[]], [[]], [[], [69], [70], [71], [72], []], [[]], [[]], [[]], [[]], [[], [74], [75], [76], [77], []], [[]], [[]], [[]], [[]], [[], [79], [80], [81], [82], []], [[]], [[]], [[]], [[]], [[], [84], [85], [86], [87], []], [[]], [[]], [[]], [[]], [[], [89], [90], [91], [92], []], [[]], [[]], [[]], [[]], [[], [], [], [94], [95], [96], [97], [98], [99], [], [], [], [], [], [100], [101], [102], [103], [104], [105], [106], [107], [], [], [], [108], [109], [], [], [], [], [], [], [110], [], [], [], [], [111], [112], [113], [], [], [114], [], [], [], [], [], [], [], [115], [116], [117], [118], [119], [120], [121], [], [122], [123], [124], [125], [126]], [[]], [[]], [[]], [[]], [[]], [[]], [[]], [[]], [[]], [[]], [[]], [[]], [[]], [[]], [[]], [[]], [[]], [[]], [[]], [[]], [[]], [[]], [[]], [[]], [[]], [[]], [[]], [[]], [[]], [[]], [[]], [[]], [[]]]
/-- an invariant beside the bounds, and the places that it speaks of -/
abbrev JV : Type := (Hp → Prop) × List (Nat × Nat)
end
section
/-! An interval machine over symbolic values: a term is a variable and an offset, a variable has bounds. -/
abbrev Tm : Type := Nat × Int
abbrev AV : Type := Nat × Tm × Tm × List Nat
abbrev Bd : Type := List (Int × Int)
abbrev AS : Type := Bd × List AV × List AV × List (Nat × Nat × Tm)
def bd (B : Bd) : Nat → Int × Int
  | 0 => (0, 0)
  | v + 1 => B.getD v (0, 0)
def tlo (B : Bd) (t : Tm) : Int := (bd B t.1).1 + t.2
def thi (B : Bd) (t : Tm) : Int := (bd B t.1).2 + t.2
def trg (B : Bd) (t : Tm) : Int × Int := (tlo B t, thi B t)
def rv (ρ : Nat → Int) : Nat → Int
  | 0 => 0
  | v + 1 => ρ v
def ev (ρ : Nat → Int) (t : Tm) : Int := rv ρ t.1 + t.2
def bOK (ρ : Nat → Int) (B : Bd) : Prop := ∀ v q, B[v]? = some q → q.1 ≤ ρ v ∧ ρ v ≤ q.2
/-- the number x is the term's -/
def tOK (n : Nat) (ρ : Nat → Int) (t : Tm) (x : Int) : Prop := t.1 ≤ n ∧ x = ev ρ t
def sgn (a b : Int) : Int32 := if a < b then -1 else if a = b then 0 else 1
def vm (n : Nat) (ρ : Nat → Int) (a : AV) (v : Value) : Prop := match a.1 with
  | 0 => v.category = 1
  | 1 => ∃ x : Int32, v = .int x ∧ tOK n ρ a.2.1 x.toInt
  | 2 => ∃ x : Int64, v = .long x ∧ tOK n ρ a.2.1 x.toInt
  | 3 => ∃ b : Nat, v = .ref b ∧ b ∈ a.2.2.2
  | 4 => ∃ x y : Int64, v = .int (sgn x.toInt y.toInt) ∧ tOK n ρ a.2.1 x.toInt ∧ tOK n ρ a.2.2.1 y.toInt
  | _ => True
def iT (t : Tm) : AV := (1, t, (0, 0), [])
def lT (t : Tm) : AV := (2, t, (0, 0), [])
def rT (l : List Nat) : AV := (3, (0, 0), (0, 0), l)
def jT : AV := (0, (0, 0), (0, 0), [])
def cT (t u : Tm) : AV := (4, t, u, [])
def fI : Int × Int := (-2147483648, 2147483647)
def fL : Int × Int := (-9223372036854775808, 9223372036854775807)
def clampI (r : Int × Int) : Int × Int := if -2147483648 ≤ r.1 ∧ r.2 ≤ 2147483647 then r else fI
def clampL (r : Int × Int) : Int × Int := if -9223372036854775808 ≤ r.1 ∧ r.2 ≤ 9223372036854775807 then r else fL
/-- a value of these bounds: a constant or a new variable -/
def frT (B : Bd) (r : Int × Int) : Bd × Tm := if r.1 = r.2 then (B, (0, r.1)) else (B ++ [r], (B.length + 1, 0))
def aBin (i : Instr) (p q : Int × Int) : Option (Int × Int) := match i with
  | .imul => some (if 0 ≤ p.1 ∧ 0 ≤ q.1 then clampI (p.1 * q.1, p.2 * q.2) else fI)
  | .idiv => if 0 < q.1 ∨ q.2 < 0 then some (if 0 ≤ p.1 ∧ 0 < q.1 then (0, p.2) else fI) else none
  | .irem => if 0 < q.1 then some (if 0 ≤ p.1 then (0, min p.2 (q.2 - 1)) else (-(q.2 - 1), q.2 - 1)) else if q.2 < 0 then some fI else none
  | .iand => some (if 0 ≤ p.1 then (if 0 ≤ q.1 then (0, min p.2 q.2) else (0, p.2)) else if 0 ≤ q.1 then (0, q.2) else fI)
  | .ior => some (if 0 ≤ p.1 ∧ 0 ≤ q.1 then clampI (0, 2 ^ ((max p.2 q.2).toNat.log2 + 1) - 1) else fI)
  | .ixor => some fI
  | .ishl => some (if p = (1, 1) ∧ 0 ≤ q.1 ∧ q.2 ≤ 30 then (1, 2 ^ q.2.toNat) else fI)
  | .ishr => some (if 0 ≤ p.1 then (0, p.2) else fI)
  | .iushr => some fI
  | _ => none
def aBinL (i : Instr) : Bool := match i with
  | .land => true
  | .lor => true
  | .lxor => true
  | _ => false
def aSh (i : Instr) : Bool := match i with
  | .lshl => true
  | .lshr => true
  | _ => false
def aUn (i : Instr) : Option (Int × Int) := match i with
  | .ineg => some fI
  | .i2b => some (-128, 127)
  | .i2s => some (-32768, 32767)
  | .i2c => some (0, 65535)
  | _ => none
def BIGI : Int := 36893488147419103232
/-- the term's bounds drawn in; none: nothing is left -/
def refn (B : Bd) (t : Tm) (lo hi : Int) : Option Bd := match t.1 with
  | 0 => if lo ≤ t.2 ∧ t.2 ≤ hi then some B else none
  | v + 1 => match B[v]? with
    | some q => if max q.1 (lo - t.2) ≤ min q.2 (hi - t.2) then some (B.set v (max q.1 (lo - t.2), min q.2 (hi - t.2))) else none
    | none => some B
def lt2 (B : Bd) (t u : Tm) : Option Bd := match refn B t (-BIGI) (thi B u - 1) with
  | some B' => refn B' u (tlo B' t + 1) BIGI
  | none => none
def le2 (B : Bd) (t u : Tm) : Option Bd := match refn B t (-BIGI) (thi B u) with
  | some B' => refn B' u (tlo B' t) BIGI
  | none => none
def eq2 (B : Bd) (t u : Tm) : Option Bd := match refn B t (tlo B u) (thi B u) with
  | some B' => refn B' u (tlo B' t) (thi B' t)
  | none => none
def ne2 (B : Bd) (t u : Tm) : List Bd := if tlo B u = thi B u then
    (if tlo B u = tlo B t ∨ tlo B u = thi B t ∨ tlo B u = 0 then (lt2 B t u).toList ++ (lt2 B u t).toList else [B])
  else [B]
def cnd2 (q : Jvm.ClassFile.Cond) (B : Bd) (t u : Tm) : List Bd := match q with
  | .eq => (eq2 B t u).toList
  | .ne => ne2 B t u
  | .lt => (lt2 B t u).toList
  | .ge => (le2 B u t).toList
  | .gt => (lt2 B u t).toList
  | .le => (le2 B t u).toList
def ngc : Jvm.ClassFile.Cond → Jvm.ClassFile.Cond
  | .eq => .ne | .ne => .eq | .lt => .ge | .ge => .lt | .gt => .le | .le => .gt
def cndI : Jvm.ClassFile.Cond → Int → Int → Bool
  | .eq, x, y => decide (x = y)
  | .ne, x, y => decide (¬ x = y)
  | .lt, x, y => decide (x < y)
  | .ge, x, y => decide (y ≤ x)
  | .gt, x, y => decide (y < x)
  | .le, x, y => decide (x ≤ y)
/-- both ways of a jump -/
def brs (q : Jvm.ClassFile.Cond) (B : Bd) (t u : Tm) (tgt nxt : Nat) (L st : List AV) (F : List (Nat × Nat × Tm)) : List (Nat × AS) :=
  (cnd2 q B t u).map (fun B' => (tgt, B', L, st, F)) ++ (cnd2 (ngc q) B t u).map (fun B' => (nxt, B', L, st, F))
def cat1 (a : AV) : Bool := a.1 == 0 || a.1 == 1 || a.1 == 3 || a.1 == 4
def aOkSt (L : List AV) : Nat → Bool
  | 0 => true
  | k + 1 => match L[k]? with
    | some a => cat1 a
    | none => false
def uni : List (Int × Int) → Int × Int
  | [] => fI
  | [q] => q
  | q :: l => (min q.1 (uni l).1, max q.2 (uni l).2)
/-! the heap: shapes, bounds of numbers, places of references -/
def slx (s : Option Sh) (k : Nat) : Nat := match s with
  | some (.inl _) => 0
  | _ => k
def ivl (a k : Nat) : Int × Int := ((IVT.getD a []).getD (slx SHl[a]? k) fI)
def rst (a k : Nat) : List Nat := ((RFT.getD a []).getD (slx SHl[a]? k) [])
def HI (h : Hp) : Prop := h.1 = SHl ∧ (∀ a k, (ivl a k).1 ≤ (h.2.1 a k).toInt ∧ (h.2.1 a k).toInt ≤ (ivl a k).2) ∧ ∀ a k, rst a k ≠ [] → ∃ b ∈ rst a k, h.2.2.2 a k = some b
def aLen (a : Nat) : Option (Nat × Nat) := if a < OLDB then (match SHl[a]? with | some (.inl q) => some q | _ => none)
  else if a = OLDB + 1 then some (0, 7) else if a = OLDB + 2 then some (0, 21) else if OLDB + 8 ≤ a ∧ a < OLDB + 13 then some (5, strL.getD (a - OLDB - 8) 0) else none
def aIv (a : Nat) : Int × Int := if a < OLDB then ivl a 0 else if a = OLDB + 1 then (-1, 3) else if a = OLDB + 2 then (0, 71) else (0, 127)
def inW (W : List (Nat × Nat)) (a k : Nat) : Bool := W.any (fun q => q.1 == a && (q.2 == k || q.2 == 999))
def frm (W : List (Nat × Nat)) (h h' : Hp) : Prop := ∀ a k, inW W a k = false → h'.2.1 a k = h.2.1 a k ∧ h'.2.2.1 a k = h.2.2.1 a k ∧ h'.2.2.2 a k = h.2.2.2 a k
def fGet (F : List (Nat × Nat × Tm)) (a k : Nat) : Option Tm := (F.find? (fun q => q.1 == a && q.2.1 == k)).map (fun q => q.2.2)
def fDel (F : List (Nat × Nat × Tm)) (a k : Nat) : List (Nat × Nat × Tm) := F.filter (fun q => !(q.1 == a && q.2.1 == k))
def rngOK (r s : Int × Int) : Bool := decide (s.1 ≤ r.1) && decide (r.2 ≤ s.2)
/-- an array's places: all of this sort, the index within -/
def arrOK (l : List Nat) (t : Nat) (r : Int × Int) : Bool := !l.isEmpty && l.all (fun a => match aLen a with
  | some q => q.1 == t && decide (0 ≤ r.1) && decide (r.2 < (q.2 : Int))
  | none => false)
def aGetF (o : List Nat) (S : AS) : Option AS := match o with
  | [9, f, _, _] => (match S.2.2.1 with
    | a :: st => if a.1 = 3 ∧ a.2.2.2.all (fun b => decide (OLDB + 3 ≤ b) && decide (b < OLDB + 8)) = true then some (S.1, S.2.1, (if f = 0 then rT (a.2.2.2.map (· + 5)) else iT (0, 0)) :: st, S.2.2.2) else none
    | _ => none)
  | [ci, k, _, _] => (match S.2.2.1 with
    | a :: st => if a.1 = 3 ∧ a.2.2.2.isEmpty = false ∧ a.2.2.2.all (fun b => decide (b < OLDB) && decide (SHl[b]? = some (.inr ci))) = true ∧ k < vwN ci then
        (if isRefTy (vwTy ci k) then (if a.2.2.2.all (fun b => !(rst b k).isEmpty && (rst b k).all (fun z => decide (z < OLDB))) = true then some (S.1, S.2.1, rT ((a.2.2.2.map (fun b => rst b k)).flatten) :: st, S.2.2.2) else none)
         else (match a.2.2.2 with
           | [b] => (match fGet S.2.2.2 b k with
             | some t => some (S.1, S.2.1, iT t :: st, S.2.2.2)
             | none => some ((frT S.1 (ivl b k)).1, S.2.1, iT (frT S.1 (ivl b k)).2 :: st, (b, k, (frT S.1 (ivl b k)).2) :: S.2.2.2))
           | l => some ((frT S.1 (uni (l.map (fun b => ivl b k)))).1, S.2.1, iT (frT S.1 (uni (l.map (fun b => ivl b k)))).2 :: st, S.2.2.2)))
      else none
    | _ => none)
  | _ => none
def aPutF (W : List (Nat × Nat)) (o : List Nat) (S : AS) : Option AS := match o with
  | [ci, k, _, _] => (match S.2.2.1 with
    | v :: a :: st => if a.1 = 3 ∧ a.2.2.2.all (fun b => decide (b < OLDB) && decide (SHl[b]? = some (.inr ci)) && inW W b k) = true ∧ k < vwN ci then
        (if v.1 = 1 then (if isRefTy (vwTy ci k) = false ∧ a.2.2.2.all (fun b => rngOK (trg S.1 v.2.1) (ivl b k)) = true ∧ (isBoolTy (vwTy ci k) = false ∨ rngOK (trg S.1 v.2.1) (0, 1) = true) then
            (match a.2.2.2 with
             | [b] => some (S.1, S.2.1, st, (b, k, v.2.1) :: fDel S.2.2.2 b k)
             | l => some (S.1, S.2.1, st, l.foldl (fun F b => fDel F b k) S.2.2.2))
           else none)
         else if v.1 = 3 then (if isRefTy (vwTy ci k) = true ∧ v.2.2.2.all (fun z => decide (z < OLDB) && a.2.2.2.all (fun b => (rst b k).contains z)) = true then some (S.1, S.2.1, st, S.2.2.2) else none)
         else none)
      else none
    | _ => none)
  | _ => none
/-- the copy of whole stretches of arrays of numbers -/
def aCopy (W : List (Nat × Nat)) (S : AS) : Option AS := match S.2.2.1 with
  | n :: dp :: a :: sp :: b :: st =>
    if n.1 = 1 ∧ dp.1 = 1 ∧ sp.1 = 1 ∧ a.1 = 3 ∧ b.1 = 3 ∧ 0 ≤ tlo S.1 n.2.1 ∧ 0 ≤ tlo S.1 dp.2.1 ∧ 0 ≤ tlo S.1 sp.2.1 ∧ st.isEmpty = true ∧
      a.2.2.2.all (fun x => match SHl[x]? with | some (.inl (0, m)) => decide (x < OLDB) && inW W x 999 && decide (thi S.1 dp.2.1 + thi S.1 n.2.1 ≤ (m : Int)) && b.2.2.2.all (fun y => rngOK (ivl y 0) (ivl x 0)) | _ => false) = true ∧
      b.2.2.2.all (fun x => match SHl[x]? with | some (.inl (0, m)) => decide (x < OLDB) && decide (thi S.1 sp.2.1 + thi S.1 n.2.1 ≤ (m : Int)) | _ => false) = true then some (S.1, S.2.1, st, S.2.2.2) else none
  | _ => none
def aJump (pc : Nat) (off : Int) (S : AS) : Option (List (Nat × AS)) := (jump pc off).map (fun t => [(t, S)])
def pushI (S : AS) (st : List AV) (r : Int × Int) : AS := ((frT S.1 r).1, S.2.1, iT (frT S.1 r).2 :: st, S.2.2.2)
def pushL (S : AS) (st : List AV) (r : Int × Int) : AS := ((frT S.1 r).1, S.2.1, lT (frT S.1 r).2 :: st, S.2.2.2)
def tAdd (B : Bd) (t u : Tm) (c : (Int × Int) → (Int × Int)) : Bd × Tm :=
  if c (tlo B t + tlo B u, thi B t + thi B u) = (tlo B t + tlo B u, thi B t + thi B u) then (if u.1 = 0 then (B, (t.1, t.2 + u.2)) else if t.1 = 0 then (B, (u.1, u.2 + t.2)) else frT B (tlo B t + tlo B u, thi B t + thi B u)) else frT B (c (tlo B t + tlo B u, thi B t + thi B u))
def tSub (B : Bd) (t u : Tm) (c : (Int × Int) → (Int × Int)) : Bd × Tm :=
  if c (tlo B t - thi B u, thi B t - tlo B u) = (tlo B t - thi B u, thi B t - tlo B u) then (if u.1 = 0 then (B, (t.1, t.2 - u.2)) else frT B (tlo B t - thi B u, thi B t - tlo B u)) else frT B (c (tlo B t - thi B u, thi B t - tlo B u))
/-- what may follow an instruction; none: not known to go well -/
def asuc (W : List (Nat × Nat)) (i : Instr) (o : List Nat) (pc : Nat) (S : AS) : Option (List (Nat × AS)) := match i with
  | .iconst k => some [(pc + 1, S.1, S.2.1, iT (0, (Int32.ofInt k).toInt) :: S.2.2.1, S.2.2.2)]
  | .bipush k => some [(pc + 2, S.1, S.2.1, iT (0, (Int8.ofInt k).toInt32.toInt) :: S.2.2.1, S.2.2.2)]
  | .sipush k => some [(pc + 3, S.1, S.2.1, iT (0, (Int16.ofInt k).toInt32.toInt) :: S.2.2.1, S.2.2.2)]
  | .lconst k => some [(pc + 1, S.1, S.2.1, lT (0, (Int64.ofNat (k : Nat)).toInt) :: S.2.2.1, S.2.2.2)]
  | .ldc _ => (match o with
    | [0, v, _] => some [(pc + 2, S.1, S.2.1, iT (0, (Int32.ofNat v).toInt) :: S.2.2.1, S.2.2.2)]
    | [1, j, _] => if j < 5 then some [(pc + 2, S.1, S.2.1, rT [OLDB + 3 + j] :: S.2.2.1, S.2.2.2)] else none
    | _ => none)
  | .ldc_w _ => (match o with
    | [0, v, _] => some [(pc + 3, S.1, S.2.1, iT (0, (Int32.ofNat v).toInt) :: S.2.2.1, S.2.2.2)]
    | _ => none)
  | .ldc2_w _ => (match o with
    | [v, _] => some [(pc + 3, S.1, S.2.1, lT (0, (Int64.ofNat v).toInt) :: S.2.2.1, S.2.2.2)]
    | _ => none)
  | .iload k => (match S.2.1[k]? with | some a => if a.1 = 1 then some [(pc + 2, S.1, S.2.1, a :: S.2.2.1, S.2.2.2)] else none | none => none)
  | .iload_n k => (match S.2.1[(k : Nat)]? with | some a => if a.1 = 1 then some [(pc + 1, S.1, S.2.1, a :: S.2.2.1, S.2.2.2)] else none | none => none)
  | .lload k => (match S.2.1[k]? with | some a => if a.1 = 2 then some [(pc + 2, S.1, S.2.1, a :: S.2.2.1, S.2.2.2)] else none | none => none)
  | .lload_n k => (match S.2.1[(k : Nat)]? with | some a => if a.1 = 2 then some [(pc + 1, S.1, S.2.1, a :: S.2.2.1, S.2.2.2)] else none | none => none)
  | .aload k => (match S.2.1[k]? with | some a => if a.1 = 3 ∧ a.2.2.2.contains (OLDB + 13) = false then some [(pc + 2, S.1, S.2.1, a :: S.2.2.1, S.2.2.2)] else none | none => none)
  | .aload_n k => (match S.2.1[(k : Nat)]? with | some a => if a.1 = 3 ∧ a.2.2.2.contains (OLDB + 13) = false then some [(pc + 1, S.1, S.2.1, a :: S.2.2.1, S.2.2.2)] else none | none => none)
  | .istore k => (match S.2.2.1 with | a :: st => if a.1 = 1 ∧ k < S.2.1.length ∧ aOkSt S.2.1 k = true then some [(pc + 2, S.1, S.2.1.set k a, st, S.2.2.2)] else none | _ => none)
  | .istore_n k => (match S.2.2.1 with | a :: st => if a.1 = 1 ∧ (k : Nat) < S.2.1.length ∧ aOkSt S.2.1 k = true then some [(pc + 1, S.1, S.2.1.set k a, st, S.2.2.2)] else none | _ => none)
  | .lstore k => (match S.2.2.1 with | a :: st => if a.1 = 2 ∧ k + 1 < S.2.1.length ∧ aOkSt S.2.1 k = true then some [(pc + 2, S.1, (S.2.1.set k a).set (k + 1) jT, st, S.2.2.2)] else none | _ => none)
  | .lstore_n k => (match S.2.2.1 with | a :: st => if a.1 = 2 ∧ (k : Nat) + 1 < S.2.1.length ∧ aOkSt S.2.1 k = true then some [(pc + 1, S.1, (S.2.1.set k a).set (k + 1) jT, st, S.2.2.2)] else none | _ => none)
  | .astore_n k => (match S.2.2.1 with | a :: st => if a.1 = 3 ∧ a.2.2.2.contains (OLDB + 13) = false ∧ (k : Nat) < S.2.1.length ∧ aOkSt S.2.1 k = true then some [(pc + 1, S.1, S.2.1.set k a, st, S.2.2.2)] else none | _ => none)
  | .iinc k n => (match S.2.1[k]? with | some a => if a.1 = 1 ∧ aOkSt S.2.1 k = true then some [(pc + 3, (tAdd S.1 a.2.1 (0, (Int32.ofInt n).toInt) clampI).1, S.2.1.set k (iT (tAdd S.1 a.2.1 (0, (Int32.ofInt n).toInt) clampI).2), S.2.2.1, S.2.2.2)] else none | none => none)
  | .iadd => (match S.2.2.1 with | b :: a :: st => if a.1 = 1 ∧ b.1 = 1 then some [(pc + 1, (tAdd S.1 a.2.1 b.2.1 clampI).1, S.2.1, iT (tAdd S.1 a.2.1 b.2.1 clampI).2 :: st, S.2.2.2)] else none | _ => none)
  | .isub => (match S.2.2.1 with | b :: a :: st => if a.1 = 1 ∧ b.1 = 1 then some [(pc + 1, (tSub S.1 a.2.1 b.2.1 clampI).1, S.2.1, iT (tSub S.1 a.2.1 b.2.1 clampI).2 :: st, S.2.2.2)] else none | _ => none)
  | .ladd => (match S.2.2.1 with | b :: a :: st => if a.1 = 2 ∧ b.1 = 2 then some [(pc + 1, (tAdd S.1 a.2.1 b.2.1 clampL).1, S.2.1, lT (tAdd S.1 a.2.1 b.2.1 clampL).2 :: st, S.2.2.2)] else none | _ => none)
  | .lsub => (match S.2.2.1 with | b :: a :: st => if a.1 = 2 ∧ b.1 = 2 then some [(pc + 1, (tSub S.1 a.2.1 b.2.1 clampL).1, S.2.1, lT (tSub S.1 a.2.1 b.2.1 clampL).2 :: st, S.2.2.2)] else none | _ => none)
  | .lcmp => (match S.2.2.1 with | b :: a :: st => if a.1 = 2 ∧ b.1 = 2 then some [(pc + 1, S.1, S.2.1, cT a.2.1 b.2.1 :: st, S.2.2.2)] else none | _ => none)
  | .i2l => (match S.2.2.1 with | a :: st => if a.1 = 1 then some [(pc + 1, S.1, S.2.1, lT a.2.1 :: st, S.2.2.2)] else none | _ => none)
  | .l2i => (match S.2.2.1 with | a :: st => if a.1 = 2 then (if rngOK (trg S.1 a.2.1) fI = true then some [(pc + 1, S.1, S.2.1, iT a.2.1 :: st, S.2.2.2)] else some [(pc + 1, pushI S st fI)]) else none | _ => none)
  | .dup => (match S.2.2.1 with | a :: st => if cat1 a = true then some [(pc + 1, S.1, S.2.1, a :: a :: st, S.2.2.2)] else none | _ => none)
  | .pop => (match S.2.2.1 with | a :: st => if cat1 a = true then some [(pc + 1, S.1, S.2.1, st, S.2.2.2)] else none | _ => none)
  | .dup2 => (match S.2.2.1 with | a :: b :: st => if cat1 a = true ∧ cat1 b = true then some [(pc + 1, S.1, S.2.1, a :: b :: a :: b :: st, S.2.2.2)] else none | _ => none)
  | .pop2 => (match S.2.2.1 with | a :: st => if a.1 = 2 then some [(pc + 1, S.1, S.2.1, st, S.2.2.2)] else none | _ => none)
  | .ifCond q off => (match S.2.2.1 with
    | a :: st => (match jump pc off with
      | some t => if a.1 = 1 then some (brs q S.1 a.2.1 (0, 0) t (pc + 3) S.2.1 st S.2.2.2) else if a.1 = 4 then some (brs q S.1 a.2.1 a.2.2.1 t (pc + 3) S.2.1 st S.2.2.2) else none
      | none => none)
    | _ => none)
  | .if_icmp q off => (match S.2.2.1 with
    | b :: a :: st => (match jump pc off with
      | some t => if a.1 = 1 ∧ b.1 = 1 then some (brs q S.1 a.2.1 b.2.1 t (pc + 3) S.2.1 st S.2.2.2) else none
      | none => none)
    | _ => none)
  | .goto off => aJump pc off S
  | .tableswitch dflt lo hi offs => (match S.2.2.1 with
    | a :: st => if a.1 = 1 then (match jump pc dflt with
      | some d => if (List.range offs.size).all (fun j => (jump pc (offs.getD j 0)).isSome) = true ∧ hi + 1 - lo ≤ (offs.size : Int) then
          some ((refn S.1 a.2.1 (-BIGI) (lo - 1)).toList.map (fun B => (d, B, S.2.1, st, S.2.2.2)) ++ ((refn S.1 a.2.1 (hi + 1) BIGI).toList.map (fun B => (d, B, S.2.1, st, S.2.2.2)) ++
            ((List.range offs.size).map (fun (j : Nat) => (refn S.1 a.2.1 (lo + (j : Int)) (lo + (j : Int))).toList.map (fun B => ((jump pc (offs.getD j 0)).getD 0, B, S.2.1, st, S.2.2.2)))).flatten))
        else none
      | none => none) else none
    | _ => none)
  | .lookupswitch dflt ps => (match S.2.2.1 with
    | a :: st => if a.1 = 1 ∧ (ps.toList.zip (ps.toList.drop 1)).all (fun (a, next) => a.1 < next.1) = true then (match jump pc dflt with
      | some d => if ps.toList.all (fun q => (jump pc q.2).isSome) = true then
          some ((if (tlo S.1 a.2.1 = thi S.1 a.2.1 ∧ ps.toList.any (fun q => decide (q.1 = tlo S.1 a.2.1)) = true) then [] else [(d, S.1, S.2.1, st, S.2.2.2)]) ++
            (ps.toList.map (fun q => (refn S.1 a.2.1 q.1 q.1).toList.map (fun B => ((jump pc q.2).getD 0, B, S.2.1, st, S.2.2.2)))).flatten)
        else none
      | none => none) else none
    | _ => none)
  | .getfield _ => (aGetF o S).map (fun S' => [(pc + 3, S')])
  | .putfield _ => (aPutF W o S).map (fun S' => [(pc + 3, S')])
  | .getstatic _ => (match o with
    | [0, _, _] => some [(pc + 3, S.1, S.2.1, rT [OLDB + 1] :: S.2.2.1, S.2.2.2)]
    | [1, _, _] => some [(pc + 3, S.1, S.2.1, rT [OLDB + 2] :: S.2.2.1, S.2.2.2)]
    | [2, _, _] => some [(pc + 3, S.1, S.2.1, iT (0, 1) :: S.2.2.1, S.2.2.2)]
    | [3, _, _] => some [(pc + 3, S.1, S.2.1, rT [OLDB + 13] :: S.2.2.1, S.2.2.2)]
    | _ => none)
  | .arraylength => (match S.2.2.1 with
    | a :: st => if a.1 = 3 ∧ a.2.2.2.isEmpty = false ∧ a.2.2.2.all (fun b => match aLen b with | some q => (decide (q.1 < 5) || decide (OLDB ≤ b)) && decide (q.2 ≤ 1000) | none => false) = true then
        some [(pc + 1, pushI S st (uni (a.2.2.2.map (fun b => match aLen b with | some q => ((q.2 : Int), (q.2 : Int)) | none => fI))))] else none
    | _ => none)
  | .iaload => (match S.2.2.1 with
    | j :: a :: st => if j.1 = 1 ∧ a.1 = 3 ∧ arrOK a.2.2.2 0 (trg S.1 j.2.1) = true then some [(pc + 1, pushI S st (uni (a.2.2.2.map aIv)))] else none
    | _ => none)
  | .baload => (match S.2.2.1 with
    | j :: a :: st => if j.1 = 1 ∧ a.1 = 3 ∧ (arrOK a.2.2.2 2 (trg S.1 j.2.1) = true ∧ a.2.2.2.all (fun b => decide (b < OLDB)) = true ∨ arrOK a.2.2.2 5 (trg S.1 j.2.1) = true ∧ a.2.2.2.all (fun b => decide (OLDB ≤ b)) = true) then some [(pc + 1, pushI S st (uni (a.2.2.2.map aIv)))] else none
    | _ => none)
  | .laload => (match S.2.2.1 with
    | j :: a :: st => if j.1 = 1 ∧ a.1 = 3 ∧ arrOK a.2.2.2 1 (trg S.1 j.2.1) = true ∧ a.2.2.2.all (fun b => decide (b < OLDB)) = true then some [(pc + 1, pushL S st fL)] else none
    | _ => none)
  | .aaload => (match S.2.2.1 with
    | j :: a :: st => if j.1 = 1 ∧ a.1 = 3 ∧ (arrOK a.2.2.2 3 (trg S.1 j.2.1) = true ∨ arrOK a.2.2.2 4 (trg S.1 j.2.1) = true) ∧ a.2.2.2.all (fun b => decide (b < OLDB) && (!(rst b 0).isEmpty && (rst b 0).all (fun z => decide (z < OLDB)))) = true then
        some [(pc + 1, S.1, S.2.1, rT ((a.2.2.2.map (fun b => rst b 0)).flatten) :: st, S.2.2.2)] else none
    | _ => none)
  | .iastore => (match S.2.2.1 with
    | x :: j :: a :: st => if x.1 = 1 ∧ j.1 = 1 ∧ a.1 = 3 ∧ arrOK a.2.2.2 0 (trg S.1 j.2.1) = true ∧ a.2.2.2.all (fun b => decide (b < OLDB) && inW W b 999 && rngOK (trg S.1 x.2.1) (ivl b 0)) = true then some [(pc + 1, S.1, S.2.1, st, S.2.2.2)] else none
    | _ => none)
  | .bastore => (match S.2.2.1 with
    | x :: j :: a :: st => if x.1 = 1 ∧ j.1 = 1 ∧ a.1 = 3 ∧ rngOK (trg S.1 x.2.1) (0, 1) = true ∧ arrOK a.2.2.2 2 (trg S.1 j.2.1) = true ∧ a.2.2.2.all (fun b => decide (b < OLDB) && inW W b 999 && rngOK (trg S.1 x.2.1) (ivl b 0)) = true then some [(pc + 1, S.1, S.2.1, st, S.2.2.2)] else none
    | _ => none)
  | .lastore => (match S.2.2.1 with
    | x :: j :: a :: st => if x.1 = 2 ∧ j.1 = 1 ∧ a.1 = 3 ∧ arrOK a.2.2.2 1 (trg S.1 j.2.1) = true ∧ a.2.2.2.all (fun b => decide (b < OLDB) && inW W b 999) = true then some [(pc + 1, S.1, S.2.1, st, S.2.2.2)] else none
    | _ => none)
  | .invokestatic _ => (match o with
    | [9998, _, _, _, _] => (aCopy W S).map (fun S' => [(pc + 3, S')])
    | _ => none)
  | i => (match S.2.2.1 with
    | b :: a :: st => if a.1 = 1 ∧ b.1 = 1 then (match aBin i (trg S.1 a.2.1) (trg S.1 b.2.1) with
        | some r => some [(pc + 1, pushI S st r)]
        | none => (match aUn i with | some r => some [(pc + 1, pushI S (a :: st) r)] | none => none))
      else if a.1 = 2 ∧ b.1 = 2 ∧ aBinL i = true then some [(pc + 1, pushL S st fL)]
      else if a.1 = 2 ∧ b.1 = 1 ∧ aSh i = true then some [(pc + 1, pushL S st fL)]
      else if b.1 = 1 then (match aUn i with | some r => some [(pc + 1, pushI S (a :: st) r)] | none => none) else none
    | b :: st => if b.1 = 1 then (match aUn i with | some r => some [(pc + 1, pushI S st r)] | none => none) else none
    | _ => none)
end
section
/-! Numbers of 32 and 64 bits within bounds. -/
theorem bm32 {z : Int} (h1 : -2147483648 ≤ z) (h2 : z ≤ 2147483647) : z.bmod (2 ^ 32) = z := by
  apply Int.bmod_eq_of_le <;> omega
theorem bm64 {z : Int} (h1 : -9223372036854775808 ≤ z) (h2 : z ≤ 9223372036854775807) : z.bmod (2 ^ 64) = z := by
  apply Int.bmod_eq_of_le <;> omega
theorem i32r (x : Int32) : fI.1 ≤ x.toInt ∧ x.toInt ≤ fI.2 := by
  have h1 := x.le_toInt
  have h2 := x.toInt_lt
  constructor
  · show (-2147483648 : Int) ≤ _; omega
  · show _ ≤ (2147483647 : Int); omega
theorem i64r (x : Int64) : fL.1 ≤ x.toInt ∧ x.toInt ≤ fL.2 := by
  have h1 := x.le_toInt
  have h2 := x.toInt_lt
  constructor
  · show (-9223372036854775808 : Int) ≤ _; omega
  · show _ ≤ (9223372036854775807 : Int); omega
theorem i_add {x y : Int32} (h1 : -2147483648 ≤ x.toInt + y.toInt) (h2 : x.toInt + y.toInt ≤ 2147483647) : (x + y).toInt = x.toInt + y.toInt := by
  rw [Int32.toInt_add]; exact bm32 h1 h2
theorem i_sub {x y : Int32} (h1 : -2147483648 ≤ x.toInt - y.toInt) (h2 : x.toInt - y.toInt ≤ 2147483647) : (x - y).toInt = x.toInt - y.toInt := by
  rw [Int32.toInt_sub]; exact bm32 h1 h2
theorem i_mul {x y : Int32} (h1 : -2147483648 ≤ x.toInt * y.toInt) (h2 : x.toInt * y.toInt ≤ 2147483647) : (x * y).toInt = x.toInt * y.toInt := by
  rw [Int32.toInt_mul]; exact bm32 h1 h2
theorem l_add {x y : Int64} (h1 : -9223372036854775808 ≤ x.toInt + y.toInt) (h2 : x.toInt + y.toInt ≤ 9223372036854775807) : (x + y).toInt = x.toInt + y.toInt := by
  rw [Int64.toInt_add]; exact bm64 h1 h2
theorem l_sub {x y : Int64} (h1 : -9223372036854775808 ≤ x.toInt - y.toInt) (h2 : x.toInt - y.toInt ≤ 9223372036854775807) : (x - y).toInt = x.toInt - y.toInt := by
  rw [Int64.toInt_sub]; exact bm64 h1 h2
theorem bn (x : Int32) : x.toInt = if 2 * x.toBitVec.toNat < 2 ^ 32 then (x.toBitVec.toNat : Int) else (x.toBitVec.toNat : Int) - ((2 ^ 32 : Nat) : Int) := BitVec.toInt_eq_toNat_cond _
theorem bn_of {x : Int32} (h : 0 ≤ x.toInt) : (x.toBitVec.toNat : Int) = x.toInt ∧ x.toBitVec.toNat < 2 ^ 31 := by
  have h1 := bn x
  have h2 := x.toBitVec.isLt
  split at h1
  · omega
  · omega
theorem bn_to {x : Int32} (h : x.toBitVec.toNat < 2 ^ 31) : x.toInt = (x.toBitVec.toNat : Int) := by
  have h1 := bn x
  split at h1
  · exact h1
  · omega
theorem i_and1 {x y : Int32} (h : 0 ≤ x.toInt) : 0 ≤ (x &&& y).toInt ∧ (x &&& y).toInt ≤ x.toInt := by
  obtain ⟨h1, h2⟩ := bn_of h
  have h3 : (x &&& y).toBitVec.toNat = x.toBitVec.toNat &&& y.toBitVec.toNat := rfl
  have h4 : (x &&& y).toBitVec.toNat ≤ x.toBitVec.toNat := by rw [h3]; exact Nat.and_le_left
  have h5 := bn_to (x := x &&& y) (by omega)
  omega
theorem i_and2 {x y : Int32} (h : 0 ≤ y.toInt) : 0 ≤ (x &&& y).toInt ∧ (x &&& y).toInt ≤ y.toInt := by
  obtain ⟨h1, h2⟩ := bn_of h
  have h3 : (x &&& y).toBitVec.toNat = x.toBitVec.toNat &&& y.toBitVec.toNat := rfl
  have h4 : (x &&& y).toBitVec.toNat ≤ y.toBitVec.toNat := by rw [h3]; exact Nat.and_le_right
  have h5 := bn_to (x := x &&& y) (by omega)
  omega
theorem i_or {x y : Int32} {m : Int} (h1 : 0 ≤ x.toInt) (h2 : 0 ≤ y.toInt) (h3 : x.toInt ≤ m) (h4 : y.toInt ≤ m) (h5 : m ≤ 2147483647) : 0 ≤ (x ||| y).toInt ∧ (x ||| y).toInt ≤ 2 ^ (m.toNat.log2 + 1) - 1 := by
  obtain ⟨a1, a2⟩ := bn_of h1
  obtain ⟨b1, b2⟩ := bn_of h2
  have c1 : (x ||| y).toBitVec.toNat = x.toBitVec.toNat ||| y.toBitVec.toNat := rfl
  have e1 : m.toNat < 2 ^ (m.toNat.log2 + 1) := Nat.lt_log2_self
  have c2 : x.toBitVec.toNat ||| y.toBitVec.toNat < 2 ^ (m.toNat.log2 + 1) := Nat.or_lt_two_pow (by omega) (by omega)
  have c3 : x.toBitVec.toNat ||| y.toBitVec.toNat < 2 ^ 31 := Nat.or_lt_two_pow a2 b2
  have c4 := bn_to (x := x ||| y) (by omega)
  have c5 : ((2 ^ (m.toNat.log2 + 1) : Nat) : Int) = (2 : Int) ^ (m.toNat.log2 + 1) := by simp
  rw [c4, c1]
  constructor
  · omega
  · rw [← c5]; omega
theorem i_div {x y : Int32} (h1 : 0 ≤ x.toInt) (h2 : 0 < y.toInt) : 0 ≤ (x / y).toInt ∧ (x / y).toInt ≤ x.toInt := by
  have h3 := i32r x
  have e : (x / y).toInt = x.toInt.tdiv y.toInt := by
    rw [Int32.toInt_div]
    have q1 : 0 ≤ x.toInt.tdiv y.toInt := Int.tdiv_nonneg h1 (by omega)
    have q2 : x.toInt.tdiv y.toInt ≤ x.toInt := Int.tdiv_le_self _ h1
    exact bm32 (by omega) (by have := h3.2; simp only [fI] at this; omega)
  rw [e]
  exact ⟨Int.tdiv_nonneg h1 (by omega), Int.tdiv_le_self _ h1⟩
theorem i_rem {x y : Int32} (h2 : 0 < y.toInt) : (x - x / y * y).toInt = x.toInt.tmod y.toInt := by
  have h3 := i32r x
  have h4 := i32r y
  simp only [fI] at h3 h4
  have hm : x.toInt.tmod y.toInt + y.toInt * x.toInt.tdiv y.toInt = x.toInt := Int.tmod_add_mul_tdiv _ _
  have hl : x.toInt.tmod y.toInt < y.toInt := Int.tmod_lt_of_pos _ h2
  have hg : -y.toInt < x.toInt.tmod y.toInt := by
    rcases Int.lt_or_le x.toInt 0 with h | h
    · have := Int.tmod_lt_of_pos (-x.toInt) h2
      rw [Int.neg_tmod] at this
      omega
    · have := Int.tmod_nonneg y.toInt h
      omega
  have hd : (x / y).toInt = x.toInt.tdiv y.toInt := by
    rw [Int32.toInt_div]
    rcases Int.lt_or_le x.toInt 0 with h | h
    · have q1 : 0 ≤ (-x.toInt).tdiv y.toInt := Int.tdiv_nonneg (by omega) (by omega)
      have q2 : (-x.toInt).tdiv y.toInt ≤ -x.toInt := Int.tdiv_le_self _ (by omega)
      rw [Int.neg_tdiv] at q1 q2
      exact bm32 (by omega) (by omega)
    · have q1 : 0 ≤ x.toInt.tdiv y.toInt := Int.tdiv_nonneg h (by omega)
      have q2 : x.toInt.tdiv y.toInt ≤ x.toInt := Int.tdiv_le_self _ h
      exact bm32 (by omega) (by omega)
  have hsg : (x.toInt.tmod y.toInt = 0) ∨ (0 ≤ x.toInt ∧ 0 ≤ x.toInt.tmod y.toInt) ∨ (x.toInt ≤ 0 ∧ x.toInt.tmod y.toInt ≤ 0) := by
    rcases Int.lt_or_le x.toInt 0 with h | h
    · right; right
      refine ⟨by omega, ?_⟩
      have := Int.tmod_nonneg y.toInt (show 0 ≤ -x.toInt by omega)
      rw [Int.neg_tmod] at this
      omega
    · right; left
      exact ⟨h, Int.tmod_nonneg _ h⟩
  have hmu : (x / y * y).toInt = x.toInt.tdiv y.toInt * y.toInt := by
    rw [i_mul (by rw [hd, Int.mul_comm]; omega) (by rw [hd, Int.mul_comm]; omega), hd]
  rw [i_sub (by rw [hmu, Int.mul_comm]; omega) (by rw [hmu, Int.mul_comm]; omega), hmu, Int.mul_comm]
  omega
theorem i_shr {x y : Int32} (h : 0 ≤ x.toInt) : 0 ≤ (x >>> (y &&& 31)).toInt ∧ (x >>> (y &&& 31)).toInt ≤ x.toInt := by
  have e : ∃ k : Nat, (x >>> (y &&& 31)).toInt = x.toInt >>> k := ⟨_, BitVec.toInt_sshiftRight'⟩
  obtain ⟨k, e⟩ := e
  rw [e, Int.shiftRight_eq_div_pow]
  constructor
  · exact Int.ediv_nonneg h (by exact_mod_cast Nat.zero_le _)
  · exact Int.ediv_le_self _ h
theorem i_shl {y : Int32} (h1 : 0 ≤ y.toInt) (h2 : y.toInt ≤ 30) : ((1 : Int32) <<< (y &&& 31)).toInt = 2 ^ y.toInt.toNat := by
  have key : ∀ n : Nat, n ≤ 30 → ((1 : Int32) <<< ((Int32.ofNat n) &&& 31)).toInt = 2 ^ n := by decide
  have hy : y = Int32.ofNat y.toInt.toNat := by
    apply Int32.toInt.inj
    rw [Int32.toInt_ofNat_of_lt (by omega)]
    omega
  have := key y.toInt.toNat (by omega)
  rw [← hy] at this
  exact this
end
section
/-! Matching of symbolic states; bounds drawn in. -/
def al2 (P : AV → Value → Prop) : List AV → List Value → Prop
  | [], [] => True
  | a :: l, v :: m => P a v ∧ al2 P l m
  | _, _ => False
theorem al2_len {P : AV → Value → Prop} : ∀ {l : List AV} {m : List Value}, al2 P l m → l.length = m.length
  | [], [], _ => rfl
  | a :: l, v :: m, h => by
    have := al2_len h.2
    simp [this]
  | [], _ :: _, h => h.elim
  | _ :: _, [], h => h.elim
theorem al2_get {P : AV → Value → Prop} : ∀ {l : List AV} {m : List Value}, al2 P l m → ∀ {k : Nat} {a : AV}, l[k]? = some a → ∃ v, m[k]? = some v ∧ P a v
  | a :: l, v :: m, h, 0, a', e => by cases e; exact ⟨v, rfl, h.1⟩
  | a :: l, v :: m, h, k + 1, a', e => al2_get (l := l) (m := m) h.2 (k := k) (by simpa using e)
  | [], [], _, _, _, e => by cases e
  | [], _ :: _, h, _, _, _ => h.elim
  | _ :: _, [], h, _, _, _ => h.elim
theorem al2_set {P : AV → Value → Prop} : ∀ {l : List AV} {m : List Value}, al2 P l m → ∀ {k : Nat} {a : AV} {v : Value}, P a v → al2 P (l.set k a) (m.set k v)
  | a :: l, v :: m, h, 0, _, _, e => ⟨e, h.2⟩
  | a :: l, v :: m, h, k + 1, _, _, e => ⟨h.1, al2_set (l := l) (m := m) h.2 e⟩
  | [], [], _, _, _, _, _ => trivial
  | [], _ :: _, h, _, _, _, _ => h.elim
  | _ :: _, [], h, _, _, _, _ => h.elim
theorem al2_mono {P Q : AV → Value → Prop} (hPQ : ∀ a v, P a v → Q a v) : ∀ {l : List AV} {m : List Value}, al2 P l m → al2 Q l m
  | [], [], _ => trivial
  | a :: l, v :: m, h => ⟨hPQ _ _ h.1, al2_mono hPQ h.2⟩
  | [], _ :: _, h => h.elim
  | _ :: _, [], h => h.elim
def ext (n : Nat) (ρ ρ' : Nat → Int) : Prop := ∀ v, v < n → ρ' v = ρ v
theorem ext_refl {n : Nat} {ρ : Nat → Int} : ext n ρ ρ := fun _ _ => rfl
theorem ext_trans {n m : Nat} {ρ ρ' ρ'' : Nat → Int} (hnm : n ≤ m) (h1 : ext n ρ ρ') (h2 : ext m ρ' ρ'') : ext n ρ ρ'' := fun v hv => (h2 v (Nat.lt_of_lt_of_le hv hnm)).trans (h1 v hv)
theorem tOK_ext {n m : Nat} {ρ ρ' : Nat → Int} {t : Tm} {x : Int} (hnm : n ≤ m) (he : ext n ρ ρ') (h : tOK n ρ t x) : tOK m ρ' t x := by
  obtain ⟨h1, h2⟩ := h
  refine ⟨Nat.le_trans h1 hnm, ?_⟩
  rw [h2]
  obtain ⟨v, c⟩ := t
  cases v with
  | zero => rfl
  | succ v => show ρ v + c = ρ' v + c; rw [he v h1]
theorem vm_ext {n m : Nat} {ρ ρ' : Nat → Int} {a : AV} {v : Value} (hnm : n ≤ m) (he : ext n ρ ρ') (h : vm n ρ a v) : vm m ρ' a v := by
  obtain ⟨k, t, u, l⟩ := a
  match k, h with
  | 0, h => exact h
  | 1, ⟨x, e, h⟩ => exact ⟨x, e, tOK_ext hnm he h⟩
  | 2, ⟨x, e, h⟩ => exact ⟨x, e, tOK_ext hnm he h⟩
  | 3, h => exact h
  | 4, ⟨x, y, e, h, h'⟩ => exact ⟨x, y, e, tOK_ext hnm he h, tOK_ext hnm he h'⟩
  | _ + 5, _ => trivial
def gam (ρ : Nat → Int) (S : AS) (L st : List Value) (h : Hp) : Prop := bOK ρ S.1 ∧ al2 (vm S.1.length ρ) S.2.1 L ∧ al2 (vm S.1.length ρ) S.2.2.1 st ∧ ∀ q ∈ S.2.2.2, tOK S.1.length ρ q.2.2 (h.2.1 q.1 q.2.1).toInt ∧ ∃ ci, SHl[q.1]? = some (.inr ci)
theorem gam_ext {ρ ρ' : Nat → Int} {B B' : Bd} {AL Ast : List AV} {F : List (Nat × Nat × Tm)} {L st : List Value} {h : Hp} (g : gam ρ (B, AL, Ast, F) L st h) (hb : bOK ρ' B') (hl : B.length ≤ B'.length) (he : ext B.length ρ ρ') : gam ρ' (B', AL, Ast, F) L st h :=
  ⟨hb, al2_mono (fun _ _ => vm_ext hl he) g.2.1, al2_mono (fun _ _ => vm_ext hl he) g.2.2.1, fun q hq => ⟨tOK_ext hl he (g.2.2.2 q hq).1, (g.2.2.2 q hq).2⟩⟩
theorem tOK_rg {ρ : Nat → Int} {B : Bd} {t : Tm} {x : Int} (hb : bOK ρ B) (h : tOK B.length ρ t x) : tlo B t ≤ x ∧ x ≤ thi B t := by
  obtain ⟨h1, h2⟩ := h
  obtain ⟨v, c⟩ := t
  cases v with
  | zero =>
    have h2 : x = 0 + c := h2
    exact ⟨by show (0 : Int) + c ≤ x; omega, by show x ≤ (0 : Int) + c; omega⟩
  | succ v =>
    have h1 : v < B.length := h1
    have h2 : x = ρ v + c := h2
    have h3 := hb v B[v] (List.getElem?_eq_getElem h1)
    have h4 : bd B (v + 1) = B[v] := by show B.getD v (0, 0) = _; rw [List.getD_eq_getElem?_getD, List.getElem?_eq_getElem h1]; rfl
    constructor
    · show (bd B (v + 1)).1 + c ≤ x; rw [h4]; omega
    · show x ≤ (bd B (v + 1)).2 + c; rw [h4]; omega
theorem tOK_c {n : Nat} {ρ : Nat → Int} (c : Int) : tOK n ρ (0, c) c := ⟨Nat.zero_le _, by show c = 0 + c; omega⟩
theorem frT_ok {ρ : Nat → Int} {B : Bd} {r : Int × Int} {x : Int} (hb : bOK ρ B) (h1 : r.1 ≤ x) (h2 : x ≤ r.2) : ∃ ρ', ext B.length ρ ρ' ∧ bOK ρ' (frT B r).1 ∧ tOK (frT B r).1.length ρ' (frT B r).2 x ∧ B.length ≤ (frT B r).1.length := by
  unfold frT
  by_cases hr : r.1 = r.2
  · rw [if_pos hr]
    refine ⟨ρ, ext_refl, hb, ?_, Nat.le_refl _⟩
    have : x = r.1 := by omega
    rw [this]
    exact tOK_c _
  · rw [if_neg hr]
    refine ⟨fun v => if v = B.length then x else ρ v, fun v hv => if_neg (Nat.ne_of_lt hv), ?_, ?_, by simp⟩
    · intro v q hq
      by_cases hv : v = B.length
      · subst hv
        have hq : (B ++ [r])[B.length]? = some q := hq
        rw [List.getElem?_append_right (Nat.le_refl _), Nat.sub_self] at hq
        cases hq
        show r.1 ≤ (if B.length = B.length then x else ρ B.length) ∧ (if B.length = B.length then x else ρ B.length) ≤ r.2
        rw [if_pos rfl]
        exact ⟨h1, h2⟩
      · have hl : v < B.length := by
          have := (List.getElem?_eq_some_iff.mp hq).1
          simp at this
          omega
        have hq : (B ++ [r])[v]? = some q := hq
        rw [List.getElem?_append_left hl] at hq
        show q.1 ≤ (if v = B.length then x else ρ v) ∧ (if v = B.length then x else ρ v) ≤ q.2
        rw [if_neg hv]
        exact hb v q hq
    · refine ⟨by simp, ?_⟩
      show x = (if B.length = B.length then x else ρ B.length) + 0
      rw [if_pos rfl]
      omega
theorem refn_ok {ρ : Nat → Int} {B : Bd} {t : Tm} {x lo hi : Int} (hb : bOK ρ B) (ht : tOK B.length ρ t x) (h1 : lo ≤ x) (h2 : x ≤ hi) : ∃ B', refn B t lo hi = some B' ∧ bOK ρ B' ∧ B'.length = B.length := by
  obtain ⟨k1, k2⟩ := ht
  obtain ⟨v, c⟩ := t
  cases v with
  | zero =>
    have k2 : x = 0 + c := k2
    exact ⟨B, by show (if lo ≤ c ∧ c ≤ hi then some B else none) = some B; rw [if_pos (by omega)], hb, rfl⟩
  | succ v =>
    have k1 : v < B.length := k1
    have k2 : x = ρ v + c := k2
    have h4 : B[v]? = some B[v] := List.getElem?_eq_getElem k1
    obtain ⟨g1, g2⟩ := hb v B[v] h4
    refine ⟨B.set v (max B[v].1 (lo - c), min B[v].2 (hi - c)), ?_, ?_, by simp⟩
    · unfold refn
      simp only [h4]
      rw [if_pos (by omega)]
    · intro w q hq
      by_cases hw : w = v
      · subst hw
        rw [List.getElem?_set_self k1] at hq
        cases hq
        constructor
        · show max B[w].1 (lo - c) ≤ ρ w; omega
        · show ρ w ≤ min B[w].2 (hi - c); omega
      · rw [List.getElem?_set_ne (Ne.symm hw)] at hq
        exact hb w q hq
def okB (ρ : Nat → Int) (B : Bd) (o : Option Bd) : Prop := ∃ B', o = some B' ∧ bOK ρ B' ∧ B'.length = B.length
theorem two_ok {ρ : Nat → Int} {B : Bd} {t u : Tm} {x y : Int} {l1 h1 : Int} {l2 h2 : Bd → Int} (hb : bOK ρ B) (ht : tOK B.length ρ t x) (hu : tOK B.length ρ u y) (a1 : l1 ≤ x) (a2 : x ≤ h1) (a3 : ∀ B', bOK ρ B' → B'.length = B.length → l2 B' ≤ y ∧ y ≤ h2 B') :
    okB ρ B (match refn B t l1 h1 with | some B' => refn B' u (l2 B') (h2 B') | none => none) := by
  obtain ⟨B1, e1, b1, n1⟩ := refn_ok hb ht a1 a2
  rw [e1]
  obtain ⟨c1, c2⟩ := a3 B1 b1 n1
  obtain ⟨B2, e2, b2, n2⟩ := refn_ok b1 (by rw [n1]; exact hu) c1 c2
  exact ⟨B2, e2, b2, n2.trans n1⟩
def smI (x : Int) : Prop := -BIGI ≤ x ∧ x ≤ BIGI
theorem lt2_ok {ρ : Nat → Int} {B : Bd} {t u : Tm} {x y : Int} (hb : bOK ρ B) (ht : tOK B.length ρ t x) (hu : tOK B.length ρ u y) (sx : smI x) (sy : smI y) (h : x < y) : okB ρ B (lt2 B t u) :=
  two_ok (l2 := fun B' => tlo B' t + 1) (h2 := fun _ => BIGI) hb ht hu sx.1 (by have := (tOK_rg hb hu).2; omega) (fun B' b' n' => ⟨by have := (tOK_rg b' (by rw [n']; exact ht)).1; show tlo B' t + 1 ≤ y; omega, sy.2⟩)
theorem le2_ok {ρ : Nat → Int} {B : Bd} {t u : Tm} {x y : Int} (hb : bOK ρ B) (ht : tOK B.length ρ t x) (hu : tOK B.length ρ u y) (sx : smI x) (sy : smI y) (h : x ≤ y) : okB ρ B (le2 B t u) :=
  two_ok (l2 := fun B' => tlo B' t) (h2 := fun _ => BIGI) hb ht hu sx.1 (by have := (tOK_rg hb hu).2; omega) (fun B' b' n' => ⟨by have := (tOK_rg b' (by rw [n']; exact ht)).1; show tlo B' t ≤ y; omega, sy.2⟩)
theorem eq2_ok {ρ : Nat → Int} {B : Bd} {t u : Tm} {x y : Int} (hb : bOK ρ B) (ht : tOK B.length ρ t x) (hu : tOK B.length ρ u y) (h : x = y) : okB ρ B (eq2 B t u) :=
  two_ok (l2 := fun B' => tlo B' t) (h2 := fun B' => thi B' t) hb ht hu (by have := (tOK_rg hb hu).1; omega) (by have := (tOK_rg hb hu).2; omega) (fun B' b' n' => by have := tOK_rg b' (show tOK B'.length ρ t x by rw [n']; exact ht); exact ⟨by omega, by omega⟩)
def inB2 (ρ : Nat → Int) (B : Bd) (l : List Bd) : Prop := ∃ B' ∈ l, bOK ρ B' ∧ B'.length = B.length
theorem okB.inB2 {ρ : Nat → Int} {B : Bd} {o : Option Bd} (h : okB ρ B o) : inB2 ρ B o.toList := by
  obtain ⟨B', e, h⟩ := h
  subst e
  exact ⟨B', by simp, h⟩
theorem ne2_ok {ρ : Nat → Int} {B : Bd} {t u : Tm} {x y : Int} (hb : bOK ρ B) (ht : tOK B.length ρ t x) (hu : tOK B.length ρ u y) (sx : smI x) (sy : smI y) (h : ¬ x = y) : inB2 ρ B (ne2 B t u) := by
  unfold ne2
  split
  · split
    · rcases Int.lt_or_gt_of_ne h with h | h
      · obtain ⟨B', m, r⟩ := (lt2_ok hb ht hu sx sy h).inB2
        exact ⟨B', List.mem_append_left _ m, r⟩
      · obtain ⟨B', m, r⟩ := (lt2_ok hb hu ht sy sx h).inB2
        exact ⟨B', List.mem_append_right _ m, r⟩
    · exact ⟨B, by simp, hb, rfl⟩
  · exact ⟨B, by simp, hb, rfl⟩
theorem cnd2_ok {ρ : Nat → Int} {B : Bd} {t u : Tm} {x y : Int} {q : Jvm.ClassFile.Cond} (hb : bOK ρ B) (ht : tOK B.length ρ t x) (hu : tOK B.length ρ u y) (sx : smI x) (sy : smI y) (h : cndI q x y = true) : inB2 ρ B (cnd2 q B t u) := by
  cases q <;> have h := of_decide_eq_true h
  · exact (eq2_ok hb ht hu h).inB2
  · exact ne2_ok hb ht hu sx sy h
  · exact (lt2_ok hb ht hu sx sy h).inB2
  · exact (le2_ok hb hu ht sy sx h).inB2
  · exact (lt2_ok hb hu ht sy sx h).inB2
  · exact (le2_ok hb ht hu sx sy h).inB2
theorem cndI_ngc {q : Jvm.ClassFile.Cond} {x y : Int} (h : cndI q x y = false) : cndI (ngc q) x y = true := by
  cases q <;> have h := of_decide_eq_false h <;> refine decide_eq_true ?_ <;> omega
theorem brs_ok {ρ : Nat → Int} {B : Bd} {t u : Tm} {x y : Int} {q : Jvm.ClassFile.Cond} {tgt nxt : Nat} {L st : List AV} {F : List (Nat × Nat × Tm)} (hb : bOK ρ B) (ht : tOK B.length ρ t x) (hu : tOK B.length ρ u y) (sx : smI x) (sy : smI y) :
    ∃ B', ((if cndI q x y = true then tgt else nxt), B', L, st, F) ∈ brs q B t u tgt nxt L st F ∧ bOK ρ B' ∧ B'.length = B.length := by
  unfold brs
  by_cases h : cndI q x y = true
  · rw [if_pos h]
    obtain ⟨B', m, r⟩ := cnd2_ok hb ht hu sx sy h
    exact ⟨B', List.mem_append_left _ (List.mem_map.mpr ⟨B', m, rfl⟩), r⟩
  · rw [if_neg h]
    obtain ⟨B', m, r⟩ := cnd2_ok hb ht hu sx sy (cndI_ngc (by simpa using h))
    exact ⟨B', List.mem_append_right _ (List.mem_map.mpr ⟨B', m, rfl⟩), r⟩
theorem clampI_ok {r : Int × Int} {z : Int} (x : Int32) (h : clampI r = r → x.toInt = z) (h1 : r.1 ≤ z) (h2 : z ≤ r.2) : (clampI r).1 ≤ x.toInt ∧ x.toInt ≤ (clampI r).2 := by
  by_cases hc : -2147483648 ≤ r.1 ∧ r.2 ≤ 2147483647
  · have e : clampI r = r := if_pos hc
    rw [e, h e]
    exact ⟨h1, h2⟩
  · have e : clampI r = fI := if_neg hc
    rw [e]
    exact i32r x
theorem clampI_in {r : Int × Int} (h : clampI r = r) : -2147483648 ≤ r.1 ∧ r.2 ≤ 2147483647 := by
  by_cases hc : -2147483648 ≤ r.1 ∧ r.2 ≤ 2147483647
  · exact hc
  · have e : clampI r = fI := if_neg hc
    rw [← h, e]
    exact ⟨Int.le_refl _, Int.le_refl _⟩
theorem clampL_in {r : Int × Int} (h : clampL r = r) : -9223372036854775808 ≤ r.1 ∧ r.2 ≤ 9223372036854775807 := by
  by_cases hc : -9223372036854775808 ≤ r.1 ∧ r.2 ≤ 9223372036854775807
  · exact hc
  · have e : clampL r = fL := if_neg hc
    rw [← h, e]
    exact ⟨Int.le_refl _, Int.le_refl _⟩
theorem clampI_no {r : Int × Int} (h : ¬ clampI r = r) : clampI r = fI := by
  by_cases hc : -2147483648 ≤ r.1 ∧ r.2 ≤ 2147483647
  · exact absurd (if_pos hc) h
  · exact if_neg hc
theorem clampL_no {r : Int × Int} (h : ¬ clampL r = r) : clampL r = fL := by
  by_cases hc : -9223372036854775808 ≤ r.1 ∧ r.2 ≤ 9223372036854775807
  · exact absurd (if_pos hc) h
  · exact if_neg hc
/-- a sum: z is what the machine gives, in bounds it is the sum -/
theorem tAdd_ok {ρ : Nat → Int} {B : Bd} {t u : Tm} {x y z : Int} {c : (Int × Int) → (Int × Int)} (hb : bOK ρ B) (ht : tOK B.length ρ t x) (hu : tOK B.length ρ u y) (hz : c (tlo B t + tlo B u, thi B t + thi B u) = (tlo B t + tlo B u, thi B t + thi B u) → z = x + y)
    (hf : ¬ c (tlo B t + tlo B u, thi B t + thi B u) = (tlo B t + tlo B u, thi B t + thi B u) → (c (tlo B t + tlo B u, thi B t + thi B u)).1 ≤ z ∧ z ≤ (c (tlo B t + tlo B u, thi B t + thi B u)).2) :
    ∃ ρ', ext B.length ρ ρ' ∧ bOK ρ' (tAdd B t u c).1 ∧ tOK (tAdd B t u c).1.length ρ' (tAdd B t u c).2 z ∧ B.length ≤ (tAdd B t u c).1.length := by
  unfold tAdd
  have r1 := tOK_rg hb ht
  have r2 := tOK_rg hb hu
  by_cases hc : c (tlo B t + tlo B u, thi B t + thi B u) = (tlo B t + tlo B u, thi B t + thi B u)
  · rw [if_pos hc]
    have hz := hz hc
    obtain ⟨t1, t2⟩ := t
    obtain ⟨u1, u2⟩ := u
    by_cases h1 : u1 = 0
    · subst h1
      rw [if_pos rfl]
      have hu2 : y = 0 + u2 := hu.2
      have ht2 : x = rv ρ t1 + t2 := ht.2
      exact ⟨ρ, ext_refl, hb, ⟨ht.1, by show z = rv ρ t1 + (t2 + u2); omega⟩, Nat.le_refl _⟩
    · rw [if_neg h1]
      by_cases h2 : t1 = 0
      · subst h2
        rw [if_pos rfl]
        have hu2 : y = rv ρ u1 + u2 := hu.2
        have ht2 : x = 0 + t2 := ht.2
        exact ⟨ρ, ext_refl, hb, ⟨hu.1, by show z = rv ρ u1 + (u2 + t2); omega⟩, Nat.le_refl _⟩
      · rw [if_neg h2]
        exact frT_ok hb (show tlo B (t1, t2) + tlo B (u1, u2) ≤ z by omega) (show z ≤ thi B (t1, t2) + thi B (u1, u2) by omega)
  · rw [if_neg hc]
    obtain ⟨f1, f2⟩ := hf hc
    exact frT_ok hb f1 f2
theorem tSub_ok {ρ : Nat → Int} {B : Bd} {t u : Tm} {x y z : Int} {c : (Int × Int) → (Int × Int)} (hb : bOK ρ B) (ht : tOK B.length ρ t x) (hu : tOK B.length ρ u y) (hz : c (tlo B t - thi B u, thi B t - tlo B u) = (tlo B t - thi B u, thi B t - tlo B u) → z = x - y)
    (hf : ¬ c (tlo B t - thi B u, thi B t - tlo B u) = (tlo B t - thi B u, thi B t - tlo B u) → (c (tlo B t - thi B u, thi B t - tlo B u)).1 ≤ z ∧ z ≤ (c (tlo B t - thi B u, thi B t - tlo B u)).2) :
    ∃ ρ', ext B.length ρ ρ' ∧ bOK ρ' (tSub B t u c).1 ∧ tOK (tSub B t u c).1.length ρ' (tSub B t u c).2 z ∧ B.length ≤ (tSub B t u c).1.length := by
  unfold tSub
  have r1 := tOK_rg hb ht
  have r2 := tOK_rg hb hu
  by_cases hc : c (tlo B t - thi B u, thi B t - tlo B u) = (tlo B t - thi B u, thi B t - tlo B u)
  · rw [if_pos hc]
    have hz := hz hc
    obtain ⟨t1, t2⟩ := t
    obtain ⟨u1, u2⟩ := u
    by_cases h1 : u1 = 0
    · subst h1
      rw [if_pos rfl]
      have hu2 : y = 0 + u2 := hu.2
      have ht2 : x = rv ρ t1 + t2 := ht.2
      exact ⟨ρ, ext_refl, hb, ⟨ht.1, by show z = rv ρ t1 + (t2 - u2); omega⟩, Nat.le_refl _⟩
    · rw [if_neg h1]
      exact frT_ok hb (show tlo B (t1, t2) - thi B (u1, u2) ≤ z by omega) (show z ≤ thi B (t1, t2) - tlo B (u1, u2) by omega)
  · rw [if_neg hc]
    obtain ⟨f1, f2⟩ := hf hc
    exact frT_ok hb f1 f2
theorem uni_ok : ∀ {l : List (Int × Int)} {q : Int × Int}, q ∈ l → (uni l).1 ≤ q.1 ∧ q.2 ≤ (uni l).2
  | [p], q, h => by
    cases List.mem_singleton.mp h
    exact ⟨Int.le_refl _, Int.le_refl _⟩
  | p :: p' :: l, q, h => by
    show min p.1 (uni (p' :: l)).1 ≤ q.1 ∧ q.2 ≤ max p.2 (uni (p' :: l)).2
    rcases List.mem_cons.mp h with rfl | h
    · omega
    · have := uni_ok h
      omega
theorem rng_ok {r s : Int × Int} {x : Int} (h : rngOK r s = true) (h1 : r.1 ≤ x) (h2 : x ≤ r.2) : s.1 ≤ x ∧ x ≤ s.2 := by
  obtain ⟨a, b⟩ := (Bool.and_eq_true _ _).mp h
  have a := of_decide_eq_true a
  have b := of_decide_eq_true b
  omega
end
section
/-! An instruction on locals, stack and numbers goes as the interval machine says. -/
def Suc (X : Scr) (W : List (Nat × Nat)) (i : Instr) (o : List Nat) (pc : Nat) (S : AS) (L st : List Value) (h : Hp) (ρ : Nat → Int) (l : List (Nat × AS)) : Prop :=
  ∃ (pc' : Nat) (S' : AS) (ρ' : Nat → Int) (L' st' : List Value) (h' : Hp), (pc', S') ∈ l ∧ hstep X i o pc L st h = some (pc', L', st', h') ∧ gam ρ' S' L' st' h' ∧ HI h' ∧ frm W h h' ∧ ext S.1.length ρ ρ' ∧ S.1.length ≤ S'.1.length ∧ L'.length = L.length
theorem frm_refl {W : List (Nat × Nat)} {h : Hp} : frm W h h := fun _ _ _ => ⟨rfl, rfl, rfl⟩
theorem vm1 {n : Nat} {ρ : Nat → Int} {a : AV} {v : Value} (ha : a.1 = 1) (h : vm n ρ a v) : ∃ x : Int32, v = .int x ∧ tOK n ρ a.2.1 x.toInt := by
  obtain ⟨k, t, u, l⟩ := a
  cases (show k = 1 from ha)
  exact h
theorem vm2 {n : Nat} {ρ : Nat → Int} {a : AV} {v : Value} (ha : a.1 = 2) (h : vm n ρ a v) : ∃ x : Int64, v = .long x ∧ tOK n ρ a.2.1 x.toInt := by
  obtain ⟨k, t, u, l⟩ := a
  cases (show k = 2 from ha)
  exact h
theorem vm3 {n : Nat} {ρ : Nat → Int} {a : AV} {v : Value} (ha : a.1 = 3) (h : vm n ρ a v) : ∃ b : Nat, v = .ref b ∧ b ∈ a.2.2.2 := by
  obtain ⟨k, t, u, l⟩ := a
  cases (show k = 3 from ha)
  exact h
theorem vm4 {n : Nat} {ρ : Nat → Int} {a : AV} {v : Value} (ha : a.1 = 4) (h : vm n ρ a v) : ∃ x y : Int64, v = .int (sgn x.toInt y.toInt) ∧ tOK n ρ a.2.1 x.toInt ∧ tOK n ρ a.2.2.1 y.toInt := by
  obtain ⟨k, t, u, l⟩ := a
  cases (show k = 4 from ha)
  exact h
theorem vm_cat {n : Nat} {ρ : Nat → Int} {a : AV} {v : Value} (ha : cat1 a = true) (h : vm n ρ a v) : v.category = 1 := by
  obtain ⟨k, t, u, l⟩ := a
  match k, h with
  | 0, h => exact h
  | 1, ⟨x, e, _⟩ => rw [e]; rfl
  | 2, _ => cases ha
  | 3, ⟨x, e, _⟩ => rw [e]; rfl
  | 4, ⟨x, y, e, _⟩ => rw [e]; rfl
  | k + 5, _ => simp [cat1] at ha
theorem aOk_ok {n : Nat} {ρ : Nat → Int} {AL : List AV} {L : List Value} (h : al2 (vm n ρ) AL L) : ∀ {k : Nat}, aOkSt AL k = true → okSt L k = true
  | 0, _ => rfl
  | k + 1, hk => by
    have hk : (match AL[k]? with | some a => cat1 a | none => false) = true := hk
    split at hk
    · rename_i a ha
      obtain ⟨v, e, hv⟩ := al2_get h ha
      show (match L[k]? with | some v => v.category == 1 | none => false) = true
      rw [e]
      simp [vm_cat hk hv]
    · cases hk
theorem sm32 (x : Int32) : smI x.toInt := by
  have := i32r x
  simp only [fI] at this
  unfold smI BIGI
  omega
theorem sm64 (x : Int64) : smI x.toInt := by
  have := i64r x
  simp only [fL] at this
  unfold smI BIGI
  omega
theorem sm0 : smI 0 := by unfold smI BIGI; omega
theorem condB_I {q : Jvm.ClassFile.Cond} {x y : Int32} : condB q x y = cndI q x.toInt y.toInt := by
  cases q <;> simp only [condB, cndI] <;> refine decide_eq_decide.mpr ?_
  · exact Int32.toInt_inj.symm
  · exact not_congr Int32.toInt_inj.symm
  · exact Int32.lt_iff_toInt_lt
  · exact Int32.le_iff_toInt_le
  · exact Int32.lt_iff_toInt_lt
  · exact Int32.le_iff_toInt_le
theorem condB_sgn {q : Jvm.ClassFile.Cond} {x y : Int} : condB q (sgn x y) 0 = cndI q x y := by
  unfold sgn
  rcases Int.lt_trichotomy x y with h | h | h
  · rw [if_pos h]
    cases q <;> first | exact (by decide : condB _ (-1) 0 = false).trans (decide_eq_false (by omega)).symm | exact (by decide : condB _ (-1) 0 = true).trans (decide_eq_true (by omega)).symm
  · rw [if_neg (by omega), if_pos h]
    cases q <;> first | exact (by decide : condB _ 0 0 = false).trans (decide_eq_false (by omega)).symm | exact (by decide : condB _ 0 0 = true).trans (decide_eq_true (by omega)).symm
  · rw [if_neg (by omega), if_neg (by omega)]
    cases q <;> first | exact (by decide : condB _ 1 0 = false).trans (decide_eq_false (by omega)).symm | exact (by decide : condB _ 1 0 = true).trans (decide_eq_true (by omega)).symm
section SU
variable {X : Scr} {W : List (Nat × Nat)} {i : Instr} {o : List Nat} {pc pc' : Nat} {B : Bd} {AL Ast : List AV} {F : List (Nat × Nat × Tm)} {L st : List Value} {h : Hp} {ρ : Nat → Int}
/-- a step that leaves heap and locals, on a stack like this -/
theorem suc_one (hh : HI h) {B' : Bd} {AL' Ast' : List AV} {L' st' : List Value} {ρ' : Nat → Int} {l : List (Nat × AS)} (hm : (pc', B', AL', Ast', F) ∈ l) (hs : hstep X i o pc L st h = some (pc', L', st', h)) (g : gam ρ' (B', AL', Ast', F) L' st' h) (he : ext B.length ρ ρ') (hl : B.length ≤ B'.length) (hL : L'.length = L.length) :
    Suc X W i o pc (B, AL, Ast, F) L st h ρ l := ⟨pc', (B', AL', Ast', F), ρ', L', st', h, hm, hs, g, hh, frm_refl, he, hl, hL⟩
theorem suc_push (g : gam ρ (B, AL, Ast, F) L st h) (hh : HI h) {a : AV} {v : Value} {st2 : List Value} {Ast2 : List AV} (hr : al2 (vm B.length ρ) Ast2 st2) (hv : vm B.length ρ a v) (hs : hstep X i o pc L st h = some (pc', L, v :: st2, h)) : Suc X W i o pc (B, AL, Ast, F) L st h ρ [(pc', B, AL, a :: Ast2, F)] :=
  suc_one hh (List.mem_singleton.mpr rfl) hs ⟨g.1, g.2.1, ⟨hv, hr⟩, g.2.2.2⟩ ext_refl (Nat.le_refl _) rfl
/-- .. that pushes a new number -/
theorem suc_new (g : gam ρ (B, AL, Ast, F) L st h) (hh : HI h) {r : Int × Int} {z : Int32} {st2 : List Value} {Ast2 : List AV} (hr : al2 (vm B.length ρ) Ast2 st2) (h1 : r.1 ≤ z.toInt) (h2 : z.toInt ≤ r.2) (hs : hstep X i o pc L st h = some (pc', L, .int z :: st2, h)) : Suc X W i o pc (B, AL, Ast, F) L st h ρ [(pc', pushI (B, AL, Ast, F) Ast2 r)] := by
  obtain ⟨ρ', e, b, t, n⟩ := frT_ok g.1 h1 h2
  have g2 := gam_ext (AL := AL) (Ast := Ast2) (F := F) (st := st2) ⟨g.1, g.2.1, hr, g.2.2.2⟩ b n e
  exact suc_one hh (List.mem_singleton.mpr rfl) hs ⟨g2.1, g2.2.1, ⟨⟨z, rfl, t⟩, g2.2.2.1⟩, g2.2.2.2⟩ e n rfl
theorem suc_newL (g : gam ρ (B, AL, Ast, F) L st h) (hh : HI h) {z : Int64} {st2 : List Value} {Ast2 : List AV} (hr : al2 (vm B.length ρ) Ast2 st2) (hs : hstep X i o pc L st h = some (pc', L, .long z :: st2, h)) : Suc X W i o pc (B, AL, Ast, F) L st h ρ [(pc', pushL (B, AL, Ast, F) Ast2 fL)] := by
  obtain ⟨ρ', e, b, t, n⟩ := frT_ok g.1 (i64r z).1 (i64r z).2
  have g2 := gam_ext (AL := AL) (Ast := Ast2) (F := F) (st := st2) ⟨g.1, g.2.1, hr, g.2.2.2⟩ b n e
  exact suc_one hh (List.mem_singleton.mpr rfl) hs ⟨g2.1, g2.2.1, ⟨⟨z, rfl, t⟩, g2.2.2.1⟩, g2.2.2.2⟩ e n rfl
theorem suc_store (g : gam ρ (B, AL, Ast, F) L st h) (hh : HI h) {a : AV} {v : Value} {k : Nat} {st2 : List Value} {Ast2 : List AV} (hr : al2 (vm B.length ρ) Ast2 st2) (hv : vm B.length ρ a v) (hs : hstep X i o pc L st h = some (pc', L.set k v, st2, h)) : Suc X W i o pc (B, AL, Ast, F) L st h ρ [(pc', B, AL.set k a, Ast2, F)] :=
  suc_one hh (List.mem_singleton.mpr rfl) hs ⟨g.1, al2_set g.2.1 hv, hr, g.2.2.2⟩ ext_refl (Nat.le_refl _) (List.length_set ..)
theorem suc_storeL (g : gam ρ (B, AL, Ast, F) L st h) (hh : HI h) {a : AV} {v : Value} {k : Nat} {st2 : List Value} {Ast2 : List AV} (hr : al2 (vm B.length ρ) Ast2 st2) (hv : vm B.length ρ a v) (hs : hstep X i o pc L st h = some (pc', (L.set k v).set (k + 1) (.retAddr 0), st2, h)) : Suc X W i o pc (B, AL, Ast, F) L st h ρ [(pc', B, (AL.set k a).set (k + 1) jT, Ast2, F)] :=
  suc_one hh (List.mem_singleton.mpr rfl) hs ⟨g.1, al2_set (al2_set g.2.1 hv) (show vm B.length ρ jT (.retAddr 0) from rfl), hr, g.2.2.2⟩ ext_refl (Nat.le_refl _) (by rw [List.length_set, List.length_set])
theorem aBin_ok {p q r : Int × Int} {x y : Int32} (hb : aBin i p q = some r) (x1 : p.1 ≤ x.toInt) (x2 : x.toInt ≤ p.2) (y1 : q.1 ≤ y.toInt) (y2 : y.toInt ≤ q.2) : ∃ z : Int32, hstep X i o pc L (.int y :: .int x :: st) h = some (pc + 1, L, .int z :: st, h) ∧ r.1 ≤ z.toInt ∧ z.toInt ≤ r.2 := by
  cases i with
  | imul =>
    refine ⟨x * y, rfl, ?_⟩
    simp only [aBin] at hb
    cases hb
    split
    · rename_i h0
      have e1 : p.1 * q.1 ≤ x.toInt * y.toInt := Int.mul_le_mul x1 y1 h0.2 (by omega)
      have e2 : x.toInt * y.toInt ≤ p.2 * q.2 := Int.mul_le_mul x2 y2 (by omega) (by omega)
      exact clampI_ok (z := x.toInt * y.toInt) _ (fun hc => by have := clampI_in hc; exact i_mul (by omega) (by omega)) e1 e2
    · exact i32r _
  | idiv =>
    simp only [aBin] at hb
    split at hb
    · rename_i h0
      cases hb
      have hy : ¬ y = 0 := fun e => by subst e; have : (0 : Int32).toInt = 0 := rfl; omega
      refine ⟨x / y, ?_, ?_⟩
      · show (if y = 0 then none else some (pc + 1, L, Value.int (x / y) :: st)).map _ = _
        rw [if_neg hy]
        rfl
      · split
        · rename_i h1
          have := i_div (x := x) (y := y) (by omega) (by omega)
          exact ⟨this.1, by show (x / y).toInt ≤ p.2; omega⟩
        · exact i32r _
    · cases hb
  | irem =>
    simp only [aBin] at hb
    split at hb
    · rename_i h0
      cases hb
      have hy : ¬ y = 0 := fun e => by subst e; have : (0 : Int32).toInt = 0 := rfl; omega
      refine ⟨x - x / y * y, ?_, ?_⟩
      · show (if y = 0 then none else some (pc + 1, L, Value.int (x - x / y * y) :: st)).map _ = _
        rw [if_neg hy]
        rfl
      · rw [i_rem (by omega)]
        have hl : x.toInt.tmod y.toInt < y.toInt := Int.tmod_lt_of_pos _ (by omega)
        split
        · rename_i h1
          have h2 := Int.tmod_nonneg y.toInt (show 0 ≤ x.toInt by omega)
          have h3 : x.toInt.tmod y.toInt ≤ x.toInt := by
            have hm : x.toInt.tmod y.toInt + y.toInt * x.toInt.tdiv y.toInt = x.toInt := Int.tmod_add_mul_tdiv _ _
            have hq : 0 ≤ y.toInt * x.toInt.tdiv y.toInt := Int.mul_nonneg (by omega) (Int.tdiv_nonneg (by omega) (by omega))
            omega
          exact ⟨h2, by show _ ≤ min p.2 (q.2 - 1); omega⟩
        · have hg : -y.toInt < x.toInt.tmod y.toInt := by
            rcases Int.lt_or_le x.toInt 0 with h | h
            · have := Int.tmod_lt_of_pos (-x.toInt) (show 0 < y.toInt by omega)
              rw [Int.neg_tmod] at this
              omega
            · have := Int.tmod_nonneg y.toInt h
              omega
          exact ⟨by show -(q.2 - 1) ≤ _; omega, by show _ ≤ q.2 - 1; omega⟩
    · split at hb
      · cases hb
        have hy : ¬ y = 0 := fun e => by subst e; have : (0 : Int32).toInt = 0 := rfl; omega
        refine ⟨x - x / y * y, ?_, i32r _⟩
        show (if y = 0 then none else some (pc + 1, L, Value.int (x - x / y * y) :: st)).map _ = _
        rw [if_neg hy]
        rfl
      · cases hb
  | iand =>
    refine ⟨x &&& y, rfl, ?_⟩
    simp only [aBin] at hb
    cases hb
    split
    · have a1 := i_and1 (x := x) (y := y) (by omega)
      split
      · have a2 := i_and2 (x := x) (y := y) (by omega)
        exact ⟨a1.1, by show _ ≤ min p.2 q.2; omega⟩
      · exact ⟨a1.1, by show _ ≤ p.2; omega⟩
    · split
      · have a2 := i_and2 (x := x) (y := y) (by omega)
        exact ⟨a2.1, by show _ ≤ q.2; omega⟩
      · exact i32r _
  | ior =>
    refine ⟨x ||| y, rfl, ?_⟩
    simp only [aBin] at hb
    cases hb
    split
    · by_cases hm : max p.2 q.2 ≤ 2147483647
      · have a := i_or (x := x) (y := y) (m := max p.2 q.2) (by omega) (by omega) (by omega) (by omega) hm
        exact clampI_ok (z := (x ||| y).toInt) _ (fun _ => rfl) a.1 a.2
      · have hno : ¬ clampI ((0 : Int), (2 : Int) ^ ((max p.2 q.2).toNat.log2 + 1) - 1) = ((0 : Int), (2 : Int) ^ ((max p.2 q.2).toNat.log2 + 1) - 1) := by
          intro hc
          have h1 := (clampI_in hc).2
          have h2 : (max p.2 q.2).toNat < 2 ^ ((max p.2 q.2).toNat.log2 + 1) := Nat.lt_log2_self
          have h3 : ((2 ^ ((max p.2 q.2).toNat.log2 + 1) : Nat) : Int) = (2 : Int) ^ ((max p.2 q.2).toNat.log2 + 1) := by simp
          simp only at h1
          omega
        rw [clampI_no hno]
        exact i32r _
    · exact i32r _
  | ixor =>
    refine ⟨x ^^^ y, rfl, ?_⟩
    simp only [aBin] at hb
    cases hb
    exact i32r _
  | ishl =>
    refine ⟨x <<< (y &&& 31), rfl, ?_⟩
    simp only [aBin] at hb
    cases hb
    split
    · rename_i h0
      obtain ⟨e, a, b⟩ := h0
      subst e
      have hx : x = 1 := by
        apply Int32.toInt.inj
        have : (1 : Int32).toInt = 1 := rfl
        simp only at x1 x2
        omega
      subst hx
      rw [i_shl (by omega) (by omega)]
      constructor
      · show (1 : Int) ≤ 2 ^ y.toInt.toNat
        have : 1 ≤ 2 ^ y.toInt.toNat := Nat.one_le_two_pow
        exact_mod_cast this
      · show (2 : Int) ^ y.toInt.toNat ≤ 2 ^ q.2.toNat
        have : 2 ^ y.toInt.toNat ≤ 2 ^ q.2.toNat := Nat.pow_le_pow_right (by omega) (by omega)
        exact_mod_cast this
    · exact i32r _
  | ishr =>
    refine ⟨x >>> (y &&& 31), rfl, ?_⟩
    simp only [aBin] at hb
    cases hb
    split
    · have a := i_shr (x := x) (y := y) (by omega)
      exact ⟨a.1, by show _ ≤ p.2; omega⟩
    · exact i32r _
  | iushr =>
    refine ⟨(x.toUInt32 >>> (y.toUInt32 &&& Int32.toUInt32 31)).toInt32, rfl, ?_⟩
    simp only [aBin] at hb
    cases hb
    exact i32r _
  | _ => cases hb
theorem aUn_ok {r : Int × Int} {x : Int32} (hb : aUn i = some r) : ∃ z : Int32, hstep X i o pc L (.int x :: st) h = some (pc + 1, L, .int z :: st, h) ∧ r.1 ≤ z.toInt ∧ z.toInt ≤ r.2 := by
  cases i with
  | ineg =>
    cases hb
    exact ⟨_, rfl, i32r _⟩
  | i2b =>
    cases hb
    refine ⟨_, rfl, ?_⟩
    rw [Int8.toInt_toInt32]
    have a := x.toInt8.le_toInt
    have b := x.toInt8.toInt_lt
    exact ⟨by show (-128 : Int) ≤ _; omega, by show _ ≤ (127 : Int); omega⟩
  | i2s =>
    cases hb
    refine ⟨_, rfl, ?_⟩
    rw [Int16.toInt_toInt32]
    have a := x.toInt16.le_toInt
    have b := x.toInt16.toInt_lt
    exact ⟨by show (-32768 : Int) ≤ _; omega, by show _ ≤ (32767 : Int); omega⟩
  | i2c =>
    cases hb
    refine ⟨_, rfl, ?_⟩
    have e : (x.toUInt32 % 65536).toInt32.toBitVec.toNat = x.toUInt32.toNat % 65536 := rfl
    have l := bn_to (x := (x.toUInt32 % 65536).toInt32) (by omega)
    rw [l, e]
    exact ⟨by show (0 : Int) ≤ _; omega, by show _ ≤ (65535 : Int); omega⟩
  | _ => cases hb
theorem aBinL_ok {x y : Int64} (hb : aBinL i = true) : ∃ z : Int64, hstep X i o pc L (.long y :: .long x :: st) h = some (pc + 1, L, .long z :: st, h) := by
  cases i with
  | land => exact ⟨_, rfl⟩
  | lor => exact ⟨_, rfl⟩
  | lxor => exact ⟨_, rfl⟩
  | _ => cases hb
theorem aSh_ok {x : Int64} {y : Int32} (hb : aSh i = true) : ∃ z : Int64, hstep X i o pc L (.int y :: .long x :: st) h = some (pc + 1, L, .long z :: st, h) := by
  cases i with
  | lshl => exact ⟨_, rfl⟩
  | lshr => exact ⟨_, rfl⟩
  | _ => cases hb
end SU
end
section
/-! .. the instructions on locals, stack and numbers, one by one. -/
section SV
variable {X : Scr} {W : List (Nat × Nat)} {i : Instr} {o : List Nat} {pc pc' : Nat} {B : Bd} {AL Ast : List AV} {F : List (Nat × Nat × Tm)} {L st : List Value} {h : Hp} {ρ : Nat → Int} {l : List (Nat × AS)}
theorem al2_cons {P : AV → Value → Prop} {a : AV} {A : List AV} {st : List Value} (h : al2 P (a :: A) st) : ∃ v st2, st = v :: st2 ∧ P a v ∧ al2 P A st2 := by
  cases st with
  | nil => exact h.elim
  | cons v st2 => exact ⟨v, st2, rfl, h.1, h.2⟩
theorem cu_load1 (g : gam ρ (B, AL, Ast, F) L st h) (hh : HI h) {k n : Nat} (hu : (match AL[k]? with | some a => if a.1 = 1 then some [(pc + n, B, AL, a :: Ast, F)] else none | none => none) = some l)
    (hs : ∀ x, L[k]? = some (.int x) → hstep X i o pc L st h = some (pc + n, L, .int x :: st, h)) : Suc X W i o pc (B, AL, Ast, F) L st h ρ l := by
  split at hu
  · rename_i a ha
    obtain ⟨h1, hu⟩ := inv_if hu
    cases hu
    obtain ⟨v, e, hv⟩ := al2_get g.2.1 ha
    obtain ⟨x, rfl, -⟩ := vm1 h1 hv
    exact suc_push g hh g.2.2.1 hv (hs x e)
  · cases hu
theorem cu_load2 (g : gam ρ (B, AL, Ast, F) L st h) (hh : HI h) {k n : Nat} (hu : (match AL[k]? with | some a => if a.1 = 2 then some [(pc + n, B, AL, a :: Ast, F)] else none | none => none) = some l)
    (hs : ∀ x, L[k]? = some (.long x) → hstep X i o pc L st h = some (pc + n, L, .long x :: st, h)) : Suc X W i o pc (B, AL, Ast, F) L st h ρ l := by
  split at hu
  · rename_i a ha
    obtain ⟨h1, hu⟩ := inv_if hu
    cases hu
    obtain ⟨v, e, hv⟩ := al2_get g.2.1 ha
    obtain ⟨x, rfl, -⟩ := vm2 h1 hv
    exact suc_push g hh g.2.2.1 hv (hs x e)
  · cases hu
theorem nin_of {l : List Nat} {z b : Nat} (h : l.contains z = false) (hb : b ∈ l) : ¬ b = z := by
  intro e
  subst e
  simp [hb] at h
theorem cu_load3 (g : gam ρ (B, AL, Ast, F) L st h) (hh : HI h) {k n : Nat} (hu : (match AL[k]? with | some a => if a.1 = 3 ∧ a.2.2.2.contains (OLDB + 13) = false then some [(pc + n, B, AL, a :: Ast, F)] else none | none => none) = some l)
    (hs : ∀ x, L[k]? = some (.ref x) → ¬ x = OLDB + 13 → hstep X i o pc L st h = some (pc + n, L, .ref x :: st, h)) : Suc X W i o pc (B, AL, Ast, F) L st h ρ l := by
  split at hu
  · rename_i a ha
    obtain ⟨⟨h1, h2⟩, hu⟩ := inv_if hu
    cases hu
    obtain ⟨v, e, hv⟩ := al2_get g.2.1 ha
    obtain ⟨x, rfl, hx⟩ := vm3 h1 hv
    exact suc_push g hh g.2.2.1 hv (hs x e (nin_of h2 hx))
  · cases hu
theorem cu_sto1 (g : gam ρ (B, AL, Ast, F) L st h) (hh : HI h) {k n : Nat} (hu : (match (generalizing := false) Ast with | a :: st => if a.1 = 1 ∧ k < AL.length ∧ aOkSt AL k = true then some [(pc + n, B, AL.set k a, st, F)] else none | _ => none) = some l)
    (hs : ∀ x st2, st = .int x :: st2 → k < L.length ∧ okSt L k = true → hstep X i o pc L st h = some (pc + n, L.set k (.int x), st2, h)) : Suc X W i o pc (B, AL, Ast, F) L st h ρ l := by
  cases Ast with
  | nil => cases hu
  | cons a st' =>
    obtain ⟨⟨h1, h2, h3⟩, hu⟩ := inv_if hu
    cases hu
    obtain ⟨v, st2, e, hv, hr⟩ := al2_cons g.2.2.1
    obtain ⟨x, rfl, -⟩ := vm1 h1 hv
    exact suc_store g hh hr hv (hs x st2 e ⟨by rw [← al2_len g.2.1]; exact h2, aOk_ok g.2.1 h3⟩)
theorem cu_sto2 (g : gam ρ (B, AL, Ast, F) L st h) (hh : HI h) {k n : Nat} (hu : (match (generalizing := false) Ast with | a :: st => if a.1 = 2 ∧ k + 1 < AL.length ∧ aOkSt AL k = true then some [(pc + n, B, (AL.set k a).set (k + 1) jT, st, F)] else none | _ => none) = some l)
    (hs : ∀ x st2, st = .long x :: st2 → k + 1 < L.length ∧ okSt L k = true → hstep X i o pc L st h = some (pc + n, (L.set k (.long x)).set (k + 1) (.retAddr 0), st2, h)) : Suc X W i o pc (B, AL, Ast, F) L st h ρ l := by
  cases Ast with
  | nil => cases hu
  | cons a st' =>
    obtain ⟨⟨h1, h2, h3⟩, hu⟩ := inv_if hu
    cases hu
    obtain ⟨v, st2, e, hv, hr⟩ := al2_cons g.2.2.1
    obtain ⟨x, rfl, -⟩ := vm2 h1 hv
    exact suc_storeL g hh hr hv (hs x st2 e ⟨by rw [← al2_len g.2.1]; exact h2, aOk_ok g.2.1 h3⟩)
theorem cu_sto3 (g : gam ρ (B, AL, Ast, F) L st h) (hh : HI h) {k n : Nat} (hu : (match (generalizing := false) Ast with | a :: st => if a.1 = 3 ∧ a.2.2.2.contains (OLDB + 13) = false ∧ k < AL.length ∧ aOkSt AL k = true then some [(pc + n, B, AL.set k a, st, F)] else none | _ => none) = some l)
    (hs : ∀ x st2, st = .ref x :: st2 → k < L.length ∧ okSt L k = true ∧ ¬ x = OLDB + 13 → hstep X i o pc L st h = some (pc + n, L.set k (.ref x), st2, h)) : Suc X W i o pc (B, AL, Ast, F) L st h ρ l := by
  cases Ast with
  | nil => cases hu
  | cons a st' =>
    obtain ⟨⟨h1, h4, h2, h3⟩, hu⟩ := inv_if hu
    cases hu
    obtain ⟨v, st2, e, hv, hr⟩ := al2_cons g.2.2.1
    obtain ⟨x, rfl, hx⟩ := vm3 h1 hv
    exact suc_store g hh hr hv (hs x st2 e ⟨by rw [← al2_len g.2.1]; exact h2, aOk_ok g.2.1 h3, nin_of h4 hx⟩)
/-- two numbers from the stack -/
theorem two1 (g : gam ρ (B, AL, Ast, F) L st h) {b a : AV} {A : List AV} (hA : Ast = b :: a :: A) (ha : a.1 = 1) (hb : b.1 = 1) : ∃ x y st2, st = .int y :: .int x :: st2 ∧ tOK B.length ρ a.2.1 x.toInt ∧ tOK B.length ρ b.2.1 y.toInt ∧ al2 (vm B.length ρ) A st2 := by
  subst hA
  obtain ⟨v, s1, rfl, hv, hr1⟩ := al2_cons g.2.2.1
  obtain ⟨w, s2, rfl, hw, hr⟩ := al2_cons hr1
  obtain ⟨y, rfl, ty⟩ := vm1 hb hv
  obtain ⟨x, rfl, tx⟩ := vm1 ha hw
  exact ⟨x, y, s2, rfl, tx, ty, hr⟩
theorem two2 (g : gam ρ (B, AL, Ast, F) L st h) {b a : AV} {A : List AV} (hA : Ast = b :: a :: A) (ha : a.1 = 2) (hb : b.1 = 2) : ∃ x y st2, st = .long y :: .long x :: st2 ∧ tOK B.length ρ a.2.1 x.toInt ∧ tOK B.length ρ b.2.1 y.toInt ∧ al2 (vm B.length ρ) A st2 := by
  subst hA
  obtain ⟨v, s1, rfl, hv, hr1⟩ := al2_cons g.2.2.1
  obtain ⟨w, s2, rfl, hw, hr⟩ := al2_cons hr1
  obtain ⟨y, rfl, ty⟩ := vm2 hb hv
  obtain ⟨x, rfl, tx⟩ := vm2 ha hw
  exact ⟨x, y, s2, rfl, tx, ty, hr⟩
theorem one1 (g : gam ρ (B, AL, Ast, F) L st h) {a : AV} {A : List AV} (hA : Ast = a :: A) (ha : a.1 = 1) : ∃ x st2, st = .int x :: st2 ∧ tOK B.length ρ a.2.1 x.toInt ∧ al2 (vm B.length ρ) A st2 := by
  subst hA
  obtain ⟨v, s1, rfl, hv, hr⟩ := al2_cons g.2.2.1
  obtain ⟨y, rfl, ty⟩ := vm1 ha hv
  exact ⟨y, s1, rfl, ty, hr⟩
theorem one2 (g : gam ρ (B, AL, Ast, F) L st h) {a : AV} {A : List AV} (hA : Ast = a :: A) (ha : a.1 = 2) : ∃ x st2, st = .long x :: st2 ∧ tOK B.length ρ a.2.1 x.toInt ∧ al2 (vm B.length ρ) A st2 := by
  subst hA
  obtain ⟨v, s1, rfl, hv, hr⟩ := al2_cons g.2.2.1
  obtain ⟨y, rfl, ty⟩ := vm2 ha hv
  exact ⟨y, s1, rfl, ty, hr⟩
theorem suc_tm (g : gam ρ (B, AL, Ast, F) L st h) (hh : HI h) {st2 : List Value} {A : List AV} (hr : al2 (vm B.length ρ) A st2) {q : Bd × Tm} {z : Int32} (hq : ∃ ρ', ext B.length ρ ρ' ∧ bOK ρ' q.1 ∧ tOK q.1.length ρ' q.2 z.toInt ∧ B.length ≤ q.1.length) (hs : hstep X i o pc L st h = some (pc', L, .int z :: st2, h)) :
    Suc X W i o pc (B, AL, Ast, F) L st h ρ [(pc', q.1, AL, iT q.2 :: A, F)] := by
  obtain ⟨ρ', e, b, t, n⟩ := hq
  have g2 := gam_ext (AL := AL) (Ast := A) (F := F) (st := st2) ⟨g.1, g.2.1, hr, g.2.2.2⟩ b n e
  exact suc_one hh (List.mem_singleton.mpr rfl) hs ⟨g2.1, g2.2.1, ⟨⟨z, rfl, t⟩, g2.2.2.1⟩, g2.2.2.2⟩ e n rfl
theorem suc_tmL (g : gam ρ (B, AL, Ast, F) L st h) (hh : HI h) {st2 : List Value} {A : List AV} (hr : al2 (vm B.length ρ) A st2) {q : Bd × Tm} {z : Int64} (hq : ∃ ρ', ext B.length ρ ρ' ∧ bOK ρ' q.1 ∧ tOK q.1.length ρ' q.2 z.toInt ∧ B.length ≤ q.1.length) (hs : hstep X i o pc L st h = some (pc', L, .long z :: st2, h)) :
    Suc X W i o pc (B, AL, Ast, F) L st h ρ [(pc', q.1, AL, lT q.2 :: A, F)] := by
  obtain ⟨ρ', e, b, t, n⟩ := hq
  have g2 := gam_ext (AL := AL) (Ast := A) (F := F) (st := st2) ⟨g.1, g.2.1, hr, g.2.2.2⟩ b n e
  exact suc_one hh (List.mem_singleton.mpr rfl) hs ⟨g2.1, g2.2.1, ⟨⟨z, rfl, t⟩, g2.2.2.1⟩, g2.2.2.2⟩ e n rfl
theorem addI_ok (hb : bOK ρ B) {t u : Tm} {x y : Int32} (ht : tOK B.length ρ t x.toInt) (hu : tOK B.length ρ u y.toInt) : ∃ ρ', ext B.length ρ ρ' ∧ bOK ρ' (tAdd B t u clampI).1 ∧ tOK (tAdd B t u clampI).1.length ρ' (tAdd B t u clampI).2 (x + y).toInt ∧ B.length ≤ (tAdd B t u clampI).1.length := by
  have r1 := tOK_rg hb ht
  have r2 := tOK_rg hb hu
  refine tAdd_ok hb ht hu (fun hc => ?_) (fun hc => ?_)
  · have := clampI_in hc
    simp only at this
    exact i_add (by omega) (by omega)
  · rw [clampI_no hc]
    exact i32r _
theorem subI_ok (hb : bOK ρ B) {t u : Tm} {x y : Int32} (ht : tOK B.length ρ t x.toInt) (hu : tOK B.length ρ u y.toInt) : ∃ ρ', ext B.length ρ ρ' ∧ bOK ρ' (tSub B t u clampI).1 ∧ tOK (tSub B t u clampI).1.length ρ' (tSub B t u clampI).2 (x - y).toInt ∧ B.length ≤ (tSub B t u clampI).1.length := by
  have r1 := tOK_rg hb ht
  have r2 := tOK_rg hb hu
  refine tSub_ok hb ht hu (fun hc => ?_) (fun hc => ?_)
  · have := clampI_in hc
    simp only at this
    exact i_sub (by omega) (by omega)
  · rw [clampI_no hc]
    exact i32r _
theorem addL_ok (hb : bOK ρ B) {t u : Tm} {x y : Int64} (ht : tOK B.length ρ t x.toInt) (hu : tOK B.length ρ u y.toInt) : ∃ ρ', ext B.length ρ ρ' ∧ bOK ρ' (tAdd B t u clampL).1 ∧ tOK (tAdd B t u clampL).1.length ρ' (tAdd B t u clampL).2 (x + y).toInt ∧ B.length ≤ (tAdd B t u clampL).1.length := by
  have r1 := tOK_rg hb ht
  have r2 := tOK_rg hb hu
  refine tAdd_ok hb ht hu (fun hc => ?_) (fun hc => ?_)
  · have := clampL_in hc
    simp only at this
    exact l_add (by omega) (by omega)
  · rw [clampL_no hc]
    exact i64r _
theorem subL_ok (hb : bOK ρ B) {t u : Tm} {x y : Int64} (ht : tOK B.length ρ t x.toInt) (hu : tOK B.length ρ u y.toInt) : ∃ ρ', ext B.length ρ ρ' ∧ bOK ρ' (tSub B t u clampL).1 ∧ tOK (tSub B t u clampL).1.length ρ' (tSub B t u clampL).2 (x - y).toInt ∧ B.length ≤ (tSub B t u clampL).1.length := by
  have r1 := tOK_rg hb ht
  have r2 := tOK_rg hb hu
  refine tSub_ok hb ht hu (fun hc => ?_) (fun hc => ?_)
  · have := clampL_in hc
    simp only at this
    exact l_sub (by omega) (by omega)
  · rw [clampL_no hc]
    exact i64r _
theorem suc_br (g : gam ρ (B, AL, Ast, F) L st h) (hh : HI h) {A : List AV} {st2 : List Value} (hr : al2 (vm B.length ρ) A st2) {q : Jvm.ClassFile.Cond} {t u : Tm} {x y : Int} {tgt nxt : Nat} (ht : tOK B.length ρ t x) (hu : tOK B.length ρ u y) (sx : smI x) (sy : smI y)
    (hs : hstep X i o pc L st h = some (if cndI q x y = true then tgt else nxt, L, st2, h)) : Suc X W i o pc (B, AL, Ast, F) L st h ρ (brs q B t u tgt nxt AL A F) := by
  obtain ⟨B', m, b, n⟩ := brs_ok (q := q) (tgt := tgt) (nxt := nxt) (L := AL) (st := A) (F := F) g.1 ht hu sx sy
  have g2 := gam_ext (B := B) (B' := B') (AL := AL) (Ast := A) (F := F) (st := st2) ⟨g.1, g.2.1, hr, g.2.2.2⟩ b (Nat.le_of_eq n.symm) ext_refl
  exact suc_one hh m hs g2 ext_refl (Nat.le_of_eq n.symm) rfl
theorem jump_some {pc : Nat} {off : Int} {t : Nat} (h : jump pc off = some t) : jump pc off = some t := h
end SV
end
section
/-! .. on the heap. -/
theorem ivl_arr {a t n : Nat} (h : SHl[a]? = some (.inl (t, n))) (k : Nat) : ivl a k = ivl a 0 := by
  unfold ivl
  rw [h]
  rfl
theorem udS {α : Type} {f : Nat → Nat → α} {a i : Nat} {v : α} : ud f a i v a i = v := by
  unfold ud
  rw [if_pos rfl, if_pos rfl]
theorem udN {α : Type} {f : Nat → Nat → α} {a i a' j : Nat} {v : α} (h : ¬ (a' = a ∧ j = i)) : ud f a i v a' j = f a' j := by
  unfold ud
  by_cases h1 : a' = a
  · subst h1
    rw [if_pos rfl]
    have : ¬ j = i := fun e => h ⟨rfl, e⟩
    exact if_neg this
  · rw [if_neg h1]
theorem HI_ud {h : Hp} {a i : Nat} {x : Int32} (hh : HI h) (h1 : (ivl a i).1 ≤ x.toInt) (h2 : x.toInt ≤ (ivl a i).2) : HI (h.1, ud h.2.1 a i x, h.2.2.1, h.2.2.2) := by
  refine ⟨hh.1, fun a' k => ?_, hh.2.2⟩
  by_cases e : a' = a ∧ k = i
  · obtain ⟨rfl, rfl⟩ := e
    show (ivl a' k).1 ≤ (ud h.2.1 a' k x a' k).toInt ∧ (ud h.2.1 a' k x a' k).toInt ≤ (ivl a' k).2
    rw [udS]
    exact ⟨h1, h2⟩
  · show (ivl a' k).1 ≤ (ud h.2.1 a i x a' k).toInt ∧ (ud h.2.1 a i x a' k).toInt ≤ (ivl a' k).2
    rw [udN e]
    exact hh.2.1 a' k
theorem frm_ud {W : List (Nat × Nat)} {h : Hp} {a i : Nat} {x : Int32} (hw : inW W a i = true) : frm W h (h.1, ud h.2.1 a i x, h.2.2.1, h.2.2.2) := by
  intro a' k hk
  refine ⟨?_, rfl, rfl⟩
  show ud h.2.1 a i x a' k = _
  refine udN fun e => ?_
  rw [e.1, e.2, hw] at hk
  cases hk
theorem frm_udL {W : List (Nat × Nat)} {h : Hp} {a i : Nat} {x : Int64} (hw : inW W a i = true) : frm W h (h.1, h.2.1, ud h.2.2.1 a i x, h.2.2.2) := by
  intro a' k hk
  refine ⟨rfl, ?_, rfl⟩
  show ud h.2.2.1 a i x a' k = _
  refine udN fun e => ?_
  rw [e.1, e.2, hw] at hk
  cases hk
theorem frm_udR {W : List (Nat × Nat)} {h : Hp} {a i : Nat} {x : Option Nat} (hw : inW W a i = true) : frm W h (h.1, h.2.1, h.2.2.1, ud h.2.2.2 a i x) := by
  intro a' k hk
  refine ⟨rfl, rfl, ?_⟩
  show ud h.2.2.2 a i x a' k = _
  refine udN fun e => ?_
  rw [e.1, e.2, hw] at hk
  cases hk
theorem inW_arr {W : List (Nat × Nat)} {a : Nat} (h : inW W a 999 = true) (k : Nat) : inW W a k = true := by
  unfold inW at h ⊢
  obtain ⟨q, hq, h⟩ := List.any_eq_true.mp h
  refine List.any_eq_true.mpr ⟨q, hq, ?_⟩
  simp only [Bool.and_eq_true, Bool.or_eq_true, beq_iff_eq] at h ⊢
  omega
theorem HI_R {h : Hp} {a i b : Nat} (hh : HI h) (hb : b ∈ rst a i) : HI (h.1, h.2.1, h.2.2.1, ud h.2.2.2 a i (some b)) := by
  refine ⟨hh.1, hh.2.1, fun a' k hne => ?_⟩
  by_cases e : a' = a ∧ k = i
  · obtain ⟨rfl, rfl⟩ := e
    refine ⟨b, hb, ?_⟩
    show ud h.2.2.2 a' k (some b) a' k = some b
    rw [udS]
  · obtain ⟨c, hc, e2⟩ := hh.2.2 a' k hne
    refine ⟨c, hc, ?_⟩
    show ud h.2.2.2 a i (some b) a' k = some c
    rw [udN e]
    exact e2
theorem fGet_in {F : List (Nat × Nat × Tm)} {a k : Nat} {t : Tm} (h : fGet F a k = some t) : (a, k, t) ∈ F := by
  unfold fGet at h
  obtain ⟨q, hq, e⟩ := Option.map_eq_some_iff.mp h
  have h1 := List.find?_some hq
  have h2 := List.mem_of_find?_eq_some hq
  simp only [Bool.and_eq_true, beq_iff_eq] at h1
  obtain ⟨q1, q2, q3⟩ := q
  obtain ⟨rfl, rfl⟩ := h1
  subst e
  exact h2
theorem fDel_in {F : List (Nat × Nat × Tm)} {a k : Nat} {q : Nat × Nat × Tm} (h : q ∈ fDel F a k) : q ∈ F ∧ ¬ (q.1 = a ∧ q.2.1 = k) := by
  unfold fDel at h
  obtain ⟨h1, h2⟩ := List.mem_filter.mp h
  refine ⟨h1, fun e => ?_⟩
  rw [e.1, e.2] at h2
  simp at h2
theorem fDels_in : ∀ {l : List Nat} {F : List (Nat × Nat × Tm)} {k : Nat} {q : Nat × Nat × Tm}, q ∈ l.foldl (fun F b => fDel F b k) F → q ∈ F ∧ ∀ b ∈ l, ¬ (q.1 = b ∧ q.2.1 = k)
  | [], F, k, q, h => ⟨h, fun b hb => by cases hb⟩
  | b :: l, F, k, q, h => by
    obtain ⟨h1, h2⟩ := fDels_in (l := l) h
    obtain ⟨h3, h4⟩ := fDel_in h1
    refine ⟨h3, fun c hc => ?_⟩
    rcases List.mem_cons.mp hc with rfl | hc
    · exact h4
    · exact h2 c hc
theorem aLen_new {b t n : Nat} (hb : b < OLDB) (h : aLen b = some (t, n)) : SHl[b]? = some (.inl (t, n)) := by
  unfold aLen at h
  rw [if_pos hb] at h
  split at h
  · rename_i q hq
    cases h
    exact hq
  · cases h
theorem above_rg : ∀ j, j < 7 → (-1 : Int) ≤ (aboveL.getD j 0).toInt ∧ (aboveL.getD j 0).toInt ≤ 3 := by decide
theorem bodies_rg : ∀ j, j < 21 → (0 : Int) ≤ (bodiesL.getD j 0).toInt ∧ (bodiesL.getD j 0).toInt ≤ 71 := by decide
theorem str_rg : ∀ i, i < 5 → ∀ j, j < strL.getD i 0 → (0 : Int) ≤ ((strB.getD i []).getD j 0).toInt ∧ ((strB.getD i []).getD j 0).toInt ≤ 127 := by decide
theorem aLen_old {X : Scr} {b t n : Nat} (hb : ¬ b < OLDB) (h : aLen b = some (t, n)) : ∃ f, oldArr X (b - OLDB) = some (t, n, f) ∧ ∀ j, j < n → (aIv b).1 ≤ (f j).toInt ∧ (f j).toInt ≤ (aIv b).2 := by
  have hB := OLDB_eq
  unfold aLen at h
  rw [if_neg hb] at h
  unfold aIv
  rw [if_neg hb]
  split at h
  · rename_i e
    cases h
    subst e
    rw [if_pos rfl]
    refine ⟨fun i => aboveL.getD i 0, ?_, above_rg⟩
    rw [show OLDB + 1 - OLDB = 1 by omega]
    rfl
  · split at h
    · rename_i e1 e
      cases h
      subst e
      rw [if_neg (by omega), if_pos rfl]
      refine ⟨fun i => bodiesL.getD i 0, ?_, bodies_rg⟩
      rw [show OLDB + 2 - OLDB = 2 by omega]
      rfl
    · split at h
      · rename_i e1 e2 e
        cases h
        rw [if_neg e1, if_neg e2]
        refine ⟨fun i => (strB.getD (b - OLDB - 8) []).getD i 0, ?_, fun j hj => str_rg (b - OLDB - 8) (by omega) j hj⟩
        unfold oldArr
        rw [if_neg (by omega), if_neg (by omega), if_neg (by omega), if_pos (by omega)]
      · cases h
theorem inB_of {j : Int32} {n : Nat} {r : Int × Int} (h1 : r.1 ≤ j.toInt) (h2 : j.toInt ≤ r.2) (h3 : 0 ≤ r.1) (h4 : r.2 < (n : Int)) : inB j n = true := by
  have e : j.toInt.toNat = j.toNatClampNeg := Int32.toNat_toInt j
  have hz : (0 : Int32).toInt = 0 := rfl
  unfold inB
  refine Bool.and_eq_true _ _ |>.mpr ⟨decide_eq_true ?_, decide_eq_true ?_⟩
  · rw [Int32.lt_iff_toInt_lt]
    omega
  · omega
theorem arrOK_in {l : List Nat} {t : Nat} {r : Int × Int} (h : arrOK l t r = true) {b : Nat} (hb : b ∈ l) : ∃ n, aLen b = some (t, n) ∧ 0 ≤ r.1 ∧ r.2 < (n : Int) := by
  have h := (Bool.and_eq_true _ _).mp h |>.2
  have h := List.all_eq_true.mp h b hb
  split at h
  · rename_i q hq
    obtain ⟨q1, q2⟩ := q
    simp only [Bool.and_eq_true, beq_iff_eq, decide_eq_true_eq] at h
    obtain ⟨⟨rfl, h2⟩, h3⟩ := h
    exact ⟨q2, hq, h2, h3⟩
  · cases h
theorem oA_at {X : Scr} {b : Nat} {α : Type} {q : Option (Nat × Nat × (Nat → Int32))} (f : Option (Nat × Nat × (Nat → Int32)) → α) (e : oldArr X (b - OLDB) = q) : f (oldArr X (b - OLDB)) = f q := congrArg f e
theorem hs_iold {X : Scr} {o : List Nat} {pc b n : Nat} {L st : List Value} {h : Hp} {k : Int32} {f : Nat → Int32} (hb : ¬ b < OLDB) (e : oldArr X (b - OLDB) = some (0, n, f)) (hin : inB k n = true) : hstep X .iaload o pc L (.int k :: .ref b :: st) h = some (pc + 1, L, .int (f k.toNatClampNeg) :: st, h) := by
  generalize hr : hstep X .iaload o pc L (.int k :: .ref b :: st) h = r
  simp only [hstep] at hr
  split at hr
  · rename_i hb2
    exact absurd hb2 hb
  · split at hr
    · rename_i n2 f2 e2
      cases e.symm.trans e2
      rw [if_pos hin] at hr
      exact hr.symm
    · rename_i hno
      exact absurd e (hno n f)
theorem hs_bold {X : Scr} {o : List Nat} {pc b n : Nat} {L st : List Value} {h : Hp} {k : Int32} {f : Nat → Int32} (hb : ¬ b < OLDB) (e : oldArr X (b - OLDB) = some (5, n, f)) (hin : inB k n = true) : hstep X .baload o pc L (.int k :: .ref b :: st) h = some (pc + 1, L, .int (f k.toNatClampNeg) :: st, h) := by
  generalize hr : hstep X .baload o pc L (.int k :: .ref b :: st) h = r
  simp only [hstep] at hr
  split at hr
  · rename_i hb2
    exact absurd hb2 hb
  · split at hr
    · rename_i n2 f2 e2
      cases e.symm.trans e2
      rw [if_pos hin] at hr
      exact hr.symm
    · rename_i hno
      exact absurd e (hno n f)
theorem hs_lold {X : Scr} {o : List Nat} {pc b t n : Nat} {L st : List Value} {h : Hp} {f : Nat → Int32} (hb : ¬ b < OLDB) (e : oldArr X (b - OLDB) = some (t, n, f)) : hstep X .arraylength o pc L (.ref b :: st) h = some (pc + 1, L, .int (Int32.ofNat n) :: st, h) := by
  generalize hr : hstep X .arraylength o pc L (.ref b :: st) h = r
  simp only [hstep] at hr
  split at hr
  · rename_i hb2
    exact absurd hb2 hb
  · split at hr
    · rename_i t2 n2 f2 e2
      cases e.symm.trans e2
      exact hr.symm
    · rename_i e2
      cases e.symm.trans e2
theorem hs_lnew {X : Scr} {o : List Nat} {pc b t n : Nat} {L st : List Value} {h : Hp} (hb : b < OLDB) (e : h.1[b]? = some (.inl (t, n))) (ht : t < 5) : hstep X .arraylength o pc L (.ref b :: st) h = some (pc + 1, L, .int (Int32.ofNat n) :: st, h) := by
  unfold hstep
  simp only [hb, e, ht, if_true]
section SX
variable {X : Scr} {W : List (Nat × Nat)} {i : Instr} {o : List Nat} {pc pc' : Nat} {B : Bd} {AL Ast : List AV} {F : List (Nat × Nat × Tm)} {L st : List Value} {h : Hp} {ρ : Nat → Int} {l : List (Nat × AS)}
/-- a step that writes the heap -/
theorem suc_wr (g : gam ρ (B, AL, Ast, F) L st h) {A : List AV} {st2 : List Value} {h' : Hp} {F' : List (Nat × Nat × Tm)} (hr : al2 (vm B.length ρ) A st2) (hh : HI h') (hf : frm W h h') (hF : ∀ q ∈ F', tOK B.length ρ q.2.2 (h'.2.1 q.1 q.2.1).toInt ∧ ∃ ci, SHl[q.1]? = some (.inr ci)) (hs : hstep X i o pc L st h = some (pc', L, st2, h')) :
    Suc X W i o pc (B, AL, Ast, F) L st h ρ [(pc', B, AL, A, F')] :=
  ⟨pc', (B, AL, A, F'), ρ, L, st2, h', List.mem_singleton.mpr rfl, hs, ⟨g.1, g.2.1, hr, hF⟩, hh, hf, ext_refl, Nat.le_refl _, rfl⟩
theorem one3 (g : gam ρ (B, AL, Ast, F) L st h) {a : AV} {A : List AV} (hA : Ast = a :: A) (ha : a.1 = 3) : ∃ b st2, st = .ref b :: st2 ∧ b ∈ a.2.2.2 ∧ al2 (vm B.length ρ) A st2 := by
  subst hA
  obtain ⟨v, s1, rfl, hv, hr⟩ := al2_cons g.2.2.1
  obtain ⟨y, rfl, ty⟩ := vm3 ha hv
  exact ⟨y, s1, rfl, ty, hr⟩
theorem idx3 (g : gam ρ (B, AL, Ast, F) L st h) {j a : AV} {A : List AV} (hA : Ast = j :: a :: A) (hj : j.1 = 1) (ha : a.1 = 3) : ∃ k b st2, st = .int k :: .ref b :: st2 ∧ b ∈ a.2.2.2 ∧ tOK B.length ρ j.2.1 k.toInt ∧ al2 (vm B.length ρ) A st2 := by
  subst hA
  obtain ⟨v, s1, rfl, hv, hr1⟩ := al2_cons g.2.2.1
  obtain ⟨w, s2, rfl, hw, hr⟩ := al2_cons hr1
  obtain ⟨k, rfl, tk⟩ := vm1 hj hv
  obtain ⟨b, rfl, hb⟩ := vm3 ha hw
  exact ⟨k, b, s2, rfl, hb, tk, hr⟩
theorem ref_in {hh : HI h} {b k : Nat} (h1 : (rst b k).isEmpty = false) : ∃ z ∈ rst b k, h.2.2.2 b k = some z := hh.2.2 b k (fun e => by rw [e] at h1; cases h1)
theorem cu_ild (g : gam ρ (B, AL, Ast, F) L st h) (hh : HI h) {j a : AV} {A : List AV} (hA : Ast = j :: a :: A) (hj : j.1 = 1) (ha : a.1 = 3) (hok : arrOK a.2.2.2 0 (trg B j.2.1) = true) : Suc X W .iaload o pc (B, AL, Ast, F) L st h ρ [(pc + 1, pushI (B, AL, Ast, F) A (uni (a.2.2.2.map aIv)))] := by
  obtain ⟨k, b, st2, rfl, hb, tk, hr⟩ := idx3 g hA hj ha
  obtain ⟨n, e1, e2, e3⟩ := arrOK_in hok hb
  have rk := tOK_rg g.1 tk
  have hin : inB k n = true := inB_of (r := trg B j.2.1) rk.1 rk.2 e2 e3
  have hu := uni_ok (List.mem_map.mpr ⟨b, hb, rfl⟩ : aIv b ∈ a.2.2.2.map aIv)
  have hkn : k.toNatClampNeg < n := of_decide_eq_true ((Bool.and_eq_true _ _).mp hin).2
  by_cases hbo : b < OLDB
  · have e4 := aLen_new hbo e1
    have e5 : aIv b = ivl b k.toNatClampNeg := by unfold aIv; rw [if_pos hbo]; exact (ivl_arr e4 _).symm
    have h5 := hh.2.1 b k.toNatClampNeg
    rw [← e5] at h5
    refine suc_new g hh (z := h.2.1 b k.toNatClampNeg) hr (by omega) (by omega) ?_
    simp only [hstep]
    rw [if_pos hbo, hh.1, e4]
    simp only [hin, if_true]
  · obtain ⟨f, e4, h5⟩ := aLen_old (X := X) hbo e1
    have h5 := h5 k.toNatClampNeg hkn
    refine suc_new g hh (z := f k.toNatClampNeg) hr (by omega) (by omega) ?_
    exact hs_iold hbo e4 hin
theorem cu_bld (g : gam ρ (B, AL, Ast, F) L st h) (hh : HI h) {j a : AV} {A : List AV} (hA : Ast = j :: a :: A) (hj : j.1 = 1) (ha : a.1 = 3) (hok : arrOK a.2.2.2 2 (trg B j.2.1) = true ∧ a.2.2.2.all (fun b => decide (b < OLDB)) = true ∨ arrOK a.2.2.2 5 (trg B j.2.1) = true ∧ a.2.2.2.all (fun b => decide (OLDB ≤ b)) = true) : Suc X W .baload o pc (B, AL, Ast, F) L st h ρ [(pc + 1, pushI (B, AL, Ast, F) A (uni (a.2.2.2.map aIv)))] := by
  obtain ⟨k, b, st2, rfl, hb, tk, hr⟩ := idx3 g hA hj ha
  have rk := tOK_rg g.1 tk
  have hu := uni_ok (List.mem_map.mpr ⟨b, hb, rfl⟩ : aIv b ∈ a.2.2.2.map aIv)
  rcases hok with ⟨hok, hall⟩ | ⟨hok, hall⟩
  · obtain ⟨n, e1, e2, e3⟩ := arrOK_in hok hb
    have hin : inB k n = true := inB_of (r := trg B j.2.1) rk.1 rk.2 e2 e3
    have hbo : b < OLDB := of_decide_eq_true (List.all_eq_true.mp hall b hb)
    have e4 := aLen_new hbo e1
    have e5 : aIv b = ivl b k.toNatClampNeg := by unfold aIv; rw [if_pos hbo]; exact (ivl_arr e4 _).symm
    have h5 := hh.2.1 b k.toNatClampNeg
    rw [← e5] at h5
    refine suc_new g hh (z := h.2.1 b k.toNatClampNeg) hr (by omega) (by omega) ?_
    simp only [hstep]
    rw [if_pos hbo, hh.1, e4]
    simp only [hin, if_true]
  · obtain ⟨n, e1, e2, e3⟩ := arrOK_in hok hb
    have hin : inB k n = true := inB_of (r := trg B j.2.1) rk.1 rk.2 e2 e3
    have hkn : k.toNatClampNeg < n := of_decide_eq_true ((Bool.and_eq_true _ _).mp hin).2
    have hbo : OLDB ≤ b := of_decide_eq_true (List.all_eq_true.mp hall b hb)
    obtain ⟨f, e4, h5⟩ := aLen_old (X := X) (Nat.not_lt.mpr hbo) e1
    have h5 := h5 k.toNatClampNeg hkn
    refine suc_new g hh (z := f k.toNatClampNeg) hr (by omega) (by omega) ?_
    exact hs_bold (Nat.not_lt.mpr hbo) e4 hin
theorem cu_lld (g : gam ρ (B, AL, Ast, F) L st h) (hh : HI h) {j a : AV} {A : List AV} (hA : Ast = j :: a :: A) (hj : j.1 = 1) (ha : a.1 = 3) (hok : arrOK a.2.2.2 1 (trg B j.2.1) = true) (hall : a.2.2.2.all (fun b => decide (b < OLDB)) = true) : Suc X W .laload o pc (B, AL, Ast, F) L st h ρ [(pc + 1, pushL (B, AL, Ast, F) A fL)] := by
  obtain ⟨k, b, st2, rfl, hb, tk, hr⟩ := idx3 g hA hj ha
  obtain ⟨n, e1, e2, e3⟩ := arrOK_in hok hb
  have rk := tOK_rg g.1 tk
  have hin : inB k n = true := inB_of (r := trg B j.2.1) rk.1 rk.2 e2 e3
  have hbo : b < OLDB := of_decide_eq_true (List.all_eq_true.mp hall b hb)
  have e4 := aLen_new hbo e1
  refine suc_newL g hh (z := h.2.2.1 b k.toNatClampNeg) hr ?_
  simp only [hstep]
  rw [if_pos hbo, hh.1, e4]
  simp only [hin, if_true]
theorem rst_arr {a t n : Nat} (h : SHl[a]? = some (.inl (t, n))) (k : Nat) : rst a k = rst a 0 := by
  unfold rst
  rw [h]
  rfl
theorem cu_ald (g : gam ρ (B, AL, Ast, F) L st h) (hh : HI h) {j a : AV} {A : List AV} (hA : Ast = j :: a :: A) (hj : j.1 = 1) (ha : a.1 = 3) {t : Nat} (ht : t = 3 ∨ t = 4) (hok : arrOK a.2.2.2 t (trg B j.2.1) = true) (hall : a.2.2.2.all (fun b => decide (b < OLDB) && (!(rst b 0).isEmpty && (rst b 0).all (fun z => decide (z < OLDB)))) = true) :
    Suc X W .aaload o pc (B, AL, Ast, F) L st h ρ [(pc + 1, B, AL, rT ((a.2.2.2.map (fun b => rst b 0)).flatten) :: A, F)] := by
  obtain ⟨k, b, st2, rfl, hb, tk, hr⟩ := idx3 g hA hj ha
  obtain ⟨n, e1, e2, e3⟩ := arrOK_in hok hb
  have rk := tOK_rg g.1 tk
  have hin : inB k n = true := inB_of (r := trg B j.2.1) rk.1 rk.2 e2 e3
  have hq := List.all_eq_true.mp hall b hb
  simp only [Bool.and_eq_true, decide_eq_true_eq, Bool.not_eq_true', List.all_eq_true] at hq
  obtain ⟨hbo, hne, hz⟩ := hq
  have e4 := aLen_new hbo e1
  obtain ⟨z, z1, z2⟩ := hh.2.2 b k.toNatClampNeg (fun e => by rw [rst_arr e4] at e; rw [e] at hne; cases hne)
  rw [rst_arr e4] at z1
  have hzo := hz z z1
  refine suc_push g hh (v := .ref z) hr ⟨z, rfl, List.mem_flatten.mpr ⟨_, List.mem_map.mpr ⟨b, hb, rfl⟩, z1⟩⟩ ?_
  simp only [hstep]
  rw [if_pos hbo, hh.1, e4]
  simp only [hin, z2, ht, hzo, and_self, if_true]
theorem cu_len (g : gam ρ (B, AL, Ast, F) L st h) (hh : HI h) {a : AV} {A : List AV} (hA : Ast = a :: A) (ha : a.1 = 3) (hall : a.2.2.2.all (fun b => match aLen b with | some q => (decide (q.1 < 5) || decide (OLDB ≤ b)) && decide (q.2 ≤ 1000) | none => false) = true) :
    Suc X W .arraylength o pc (B, AL, Ast, F) L st h ρ [(pc + 1, pushI (B, AL, Ast, F) A (uni (a.2.2.2.map (fun b => match aLen b with | some q => ((q.2 : Int), (q.2 : Int)) | none => fI))))] := by
  obtain ⟨b, st2, rfl, hb, hr⟩ := one3 g hA ha
  have hq := List.all_eq_true.mp hall b hb
  have hu := uni_ok (List.mem_map.mpr ⟨b, hb, rfl⟩ : (match aLen b with | some q => ((q.2 : Int), (q.2 : Int)) | none => fI) ∈ a.2.2.2.map (fun b => match aLen b with | some q => ((q.2 : Int), (q.2 : Int)) | none => fI))
  cases e1 : aLen b with
  | none => rw [e1] at hq; cases hq
  | some q =>
    obtain ⟨t, n⟩ := q
    rw [e1] at hq hu
    simp only [Bool.and_eq_true, decide_eq_true_eq, Bool.or_eq_true] at hq hu
    have hnn : (Int32.ofNat n).toInt = n := Int32.toInt_ofNat_of_lt (by omega)
    refine suc_new g hh (z := Int32.ofNat n) hr (by omega) (by omega) ?_
    by_cases hbo : b < OLDB
    · have : t < 5 := hq.1.elim id (fun h5 => absurd hbo (Nat.not_lt.mpr h5))
      exact hs_lnew hbo ((congrArg (·[b]?) hh.1).trans (aLen_new hbo e1)) this
    · obtain ⟨f, e4, -⟩ := aLen_old (X := X) hbo e1
      exact hs_lold hbo e4
end SX
end
section
/-! .. fields, stores, copies. -/
section SY
variable {X : Scr} {W : List (Nat × Nat)} {i : Instr} {o : List Nat} {pc pc' : Nat} {B : Bd} {AL Ast : List AV} {F : List (Nat × Nat × Tm)} {L st : List Value} {h : Hp} {ρ : Nat → Int} {l : List (Nat × AS)}
theorem gF_obj {ci k x y b : Nat} {st : List Value} {h : Hp} (hno : ∀ f x y, [ci, k, x, y] = [9, f, x, y] → False) (h1 : b < OLDB) (h2 : h.1[b]? = some (.inr ci)) (h3 : k < vwN ci) : getF [ci, k, x, y] (.ref b :: st) h = (fval h ci b k).map (· :: st) := by
  unfold getF
  split
  · rename_i f p q e
    exact (hno f x y (by cases e; rfl)).elim
  · rename_i c2 k2 p q hn e
    cases e
    show (if b < OLDB ∧ h.1[b]? = some (.inr ci) ∧ k < vwN ci then (fval h ci b k).map (· :: st) else none) = _
    rw [if_pos ⟨h1, h2, h3⟩]
  · rename_i hn
    exact (hn ci k x y rfl).elim
theorem cu_get {S' : AS} {idx : Nat} (g : gam ρ (B, AL, Ast, F) L st h) (hh : HI h) (hu : aGetF o (B, AL, Ast, F) = some S') : Suc X W (.getfield idx) o pc (B, AL, Ast, F) L st h ρ [(pc + 3, S')] := by
  unfold aGetF at hu
  split at hu
  · rename_i f x y
    cases Ast with
    | nil => cases hu
    | cons a A =>
      obtain ⟨⟨h1, h2⟩, hu⟩ := inv_if hu
      cases hu
      obtain ⟨b, st2, rfl, hb, hr⟩ := one3 g rfl h1
      have hq := List.all_eq_true.mp h2 b hb
      simp only [Bool.and_eq_true, decide_eq_true_eq] at hq
      by_cases hf : f = 0
      · rw [if_pos hf]
        refine suc_push g hh (v := .ref (b + 5)) hr ⟨b + 5, rfl, List.mem_map.mpr ⟨b, hb, rfl⟩⟩ ?_
        show (getF [9, f, x, y] (.ref b :: st2) h).map _ = _
        show (if OLDB + 3 ≤ b ∧ b < OLDB + 8 then some ((if f = 0 then Value.ref (b + 5) else .int 0) :: st2) else none).map _ = _
        rw [if_pos hq, if_pos hf]
        rfl
      · rw [if_neg hf]
        refine suc_push g hh (v := .int 0) hr ⟨0, rfl, tOK_c 0⟩ ?_
        show (getF [9, f, x, y] (.ref b :: st2) h).map _ = _
        show (if OLDB + 3 ≤ b ∧ b < OLDB + 8 then some ((if f = 0 then Value.ref (b + 5) else .int 0) :: st2) else none).map _ = _
        rw [if_pos hq, if_neg hf]
        rfl
  · rename_i ci k x y hno
    cases Ast with
    | nil => cases hu
    | cons a A =>
      obtain ⟨⟨h1, h2, h3, h4⟩, hu⟩ := inv_if hu
      obtain ⟨b, st2, rfl, hb, hr⟩ := one3 g rfl h1
      have hq := List.all_eq_true.mp h3 b hb
      simp only [Bool.and_eq_true, decide_eq_true_eq] at hq
      obtain ⟨hbo, hsh⟩ := hq
      have hg := gF_obj (x := x) (y := y) (st := st2) (h := h) (fun f p q e => hno (by cases e; rfl)) hbo (by rw [hh.1]; exact hsh) h4
      have hst : ∀ v, fval h ci b k = some v → hstep X (.getfield idx) [ci, k, x, y] pc L (.ref b :: st2) h = some (pc + 3, L, v :: st2, h) := by
        intro v hv
        show (getF [ci, k, x, y] (.ref b :: st2) h).map _ = _
        rw [hg, hv]
        rfl
      by_cases hR : isRefTy (vwTy ci k) = true
      · rw [if_pos hR] at hu
        obtain ⟨h5, hu⟩ := inv_if hu
        cases hu
        have hq := List.all_eq_true.mp h5 b hb
        simp only [Bool.and_eq_true, decide_eq_true_eq, Bool.not_eq_true', List.all_eq_true] at hq
        obtain ⟨z, z1, z2⟩ := hh.2.2 b k (fun e => by rw [e] at hq; cases hq.1)
        refine suc_push g hh (v := .ref z) hr ⟨z, rfl, List.mem_flatten.mpr ⟨_, List.mem_map.mpr ⟨b, hb, rfl⟩, z1⟩⟩ (hst _ ?_)
        unfold fval
        rw [if_pos hR, z2]
        show (if z < OLDB then some (Value.ref z) else none) = _
        rw [if_pos (hq.2 z z1)]
      · rw [if_neg hR] at hu
        have hv : fval h ci b k = some (.int (h.2.1 b k)) := by unfold fval; rw [if_neg hR]
        have hb0 := hh.2.1 b k
        split at hu
        · rename_i b' hl
          rw [hl] at hb
          cases List.mem_singleton.mp hb
          split at hu
          · rename_i t ht
            cases hu
            exact suc_push g hh (v := .int (h.2.1 b k)) hr ⟨_, rfl, (g.2.2.2 _ (fGet_in ht)).1⟩ (hst _ hv)
          · cases hu
            obtain ⟨ρ', e, bb, t, n⟩ := frT_ok g.1 hb0.1 hb0.2
            have g2 := gam_ext (AL := AL) (Ast := A) (F := F) (st := st2) (L := L) (h := h) ⟨g.1, g.2.1, hr, g.2.2.2⟩ bb n e
            refine ⟨pc + 3, _, ρ', L, _, h, List.mem_singleton.mpr rfl, hst _ hv, ⟨g2.1, g2.2.1, ⟨⟨_, rfl, t⟩, g2.2.2.1⟩, fun q hq => ?_⟩, hh, frm_refl, e, n, rfl⟩
            rcases List.mem_cons.mp hq with rfl | hq
            · exact ⟨t, ci, hsh⟩
            · exact g2.2.2.2 q hq
        · cases hu
          have hun := uni_ok (List.mem_map.mpr ⟨b, hb, rfl⟩ : ivl b k ∈ a.2.2.2.map (fun b => ivl b k))
          exact suc_tm g hh hr (frT_ok g.1 (by omega) (by omega)) (hst _ hv)
  · cases hu
theorem pF_obj {ci k x y b : Nat} {v : Value} {st : List Value} {h : Hp} (h1 : b < OLDB) (h2 : h.1[b]? = some (.inr ci)) (h3 : k < vwN ci) : putF [ci, k, x, y] (v :: .ref b :: st) h = (match v with
        | .int x => if isRefTy (vwTy ci k) then none else if isBoolTy (vwTy ci k) ∧ ¬ (x = 0 ∨ x = 1) then none else some (st, (h.1, ud h.2.1 b k x, h.2.2.1, h.2.2.2))
        | .ref b' => if isRefTy (vwTy ci k) ∧ b' < OLDB then some (st, (h.1, h.2.1, h.2.2.1, ud h.2.2.2 b k (some b'))) else none
        | _ => none) := by
  show (if b < OLDB ∧ h.1[b]? = some (.inr ci) ∧ k < vwN ci then _ else none) = _
  rw [if_pos ⟨h1, h2, h3⟩]
  cases v <;> rfl
theorem b01 {x : Int32} (h1 : 0 ≤ x.toInt) (h2 : x.toInt ≤ 1) : x = 0 ∨ x = 1 := by
  rcases (show x.toInt = 0 ∨ x.toInt = 1 by omega) with e | e
  · exact Or.inl (Int32.toInt.inj e)
  · exact Or.inr (Int32.toInt.inj e)
theorem cu_put {S' : AS} {idx : Nat} (g : gam ρ (B, AL, Ast, F) L st h) (hh : HI h) (hu : aPutF W o (B, AL, Ast, F) = some S') : Suc X W (.putfield idx) o pc (B, AL, Ast, F) L st h ρ [(pc + 3, S')] := by
  unfold aPutF at hu
  split at hu
  · rename_i ci k x y
    match Ast, g, hu with
    | v :: a :: A, g, hu =>
      obtain ⟨⟨h1, h2, h4⟩, hu⟩ := inv_if hu
      obtain ⟨v0, s1, rfl, hv0, hr1⟩ := al2_cons g.2.2.1
      obtain ⟨a0, s2, rfl, ha0, hr⟩ := al2_cons hr1
      obtain ⟨b, rfl, hb⟩ := vm3 h1 ha0
      have hq := List.all_eq_true.mp h2 b hb
      simp only [Bool.and_eq_true, decide_eq_true_eq] at hq
      obtain ⟨⟨hbo, hsh⟩, hw⟩ := hq
      have hp := fun v => pF_obj (x := x) (y := y) (v := v) (st := s2) (h := h) hbo (by rw [hh.1]; exact hsh) h4
      have hst : ∀ v q, putF [ci, k, x, y] (v :: .ref b :: s2) h = some q → hstep X (.putfield idx) [ci, k, x, y] pc L (v :: .ref b :: s2) h = some (pc + 3, L, q.1, q.2) := by
        intro v q hv
        show (putF [ci, k, x, y] (v :: .ref b :: s2) h).map _ = _
        rw [hv]
        rfl
      by_cases hv1 : v.1 = 1
      · rw [if_pos hv1] at hu
        obtain ⟨⟨h5, h6, h7⟩, hu⟩ := inv_if hu
        obtain ⟨z, rfl, hz⟩ := vm1 hv1 hv0
        have rz := tOK_rg g.1 hz
        have hi := rng_ok (List.all_eq_true.mp h6 b hb) rz.1 rz.2
        have hbb : ¬ (isBoolTy (vwTy ci k) = true ∧ ¬ (z = 0 ∨ z = 1)) := by
          rintro ⟨q1, q2⟩
          rcases h7 with h7 | h7
          · rw [q1] at h7; cases h7
          · have := rng_ok h7 rz.1 rz.2
            exact q2 (b01 this.1 this.2)
        have hst1 := hst (.int z) (s2, (h.1, ud h.2.1 b k z, h.2.2.1, h.2.2.2)) (by
          rw [hp]
          show (if isRefTy (vwTy ci k) = true then none else if isBoolTy (vwTy ci k) = true ∧ ¬ (z = 0 ∨ z = 1) then none else some (s2, (h.1, ud h.2.1 b k z, h.2.2.1, h.2.2.2))) = _
          rw [if_neg (by rw [h5]; decide), if_neg hbb])
        have hH := HI_ud (a := b) (i := k) hh hi.1 hi.2
        have hfr := frm_ud (h := h) (x := z) hw
        split at hu
        · rename_i b' hl
          cases hu
          rw [hl] at hb
          cases List.mem_singleton.mp hb
          refine suc_wr g hr hH hfr (fun q hq => ?_) hst1
          rcases List.mem_cons.mp hq with rfl | hq
          · refine ⟨?_, ci, hsh⟩
            show tOK B.length ρ v.2.1 (ud h.2.1 b k z b k).toInt
            rw [udS]
            exact hz
          · obtain ⟨q1, q2⟩ := fDel_in hq
            refine ⟨?_, (g.2.2.2 q q1).2⟩
            show tOK B.length ρ q.2.2 (ud h.2.1 b k z q.1 q.2.1).toInt
            rw [udN q2]
            exact (g.2.2.2 q q1).1
        · cases hu
          refine suc_wr g hr hH hfr (fun q hq => ?_) hst1
          obtain ⟨q1, q2⟩ := fDels_in hq
          refine ⟨?_, (g.2.2.2 q q1).2⟩
          show tOK B.length ρ q.2.2 (ud h.2.1 b k z q.1 q.2.1).toInt
          rw [udN (q2 b hb)]
          exact (g.2.2.2 q q1).1
      · rw [if_neg hv1] at hu
        obtain ⟨hv3, hu⟩ := inv_if hu
        obtain ⟨⟨h5, h6⟩, hu⟩ := inv_if hu
        cases hu
        obtain ⟨z, rfl, hz⟩ := vm3 hv3 hv0
        have hq := List.all_eq_true.mp h6 z hz
        simp only [Bool.and_eq_true, decide_eq_true_eq, List.all_eq_true] at hq
        have hin : z ∈ rst b k := by simpa using hq.2 b hb
        have hst1 := hst (.ref z) (s2, (h.1, h.2.1, h.2.2.1, ud h.2.2.2 b k (some z))) (by
          rw [hp]
          show (if isRefTy (vwTy ci k) = true ∧ z < OLDB then some (s2, (h.1, h.2.1, h.2.2.1, ud h.2.2.2 b k (some z))) else none) = _
          rw [if_pos ⟨h5, hq.1⟩])
        exact suc_wr g hr (HI_R hh hin) (frm_udR hw) (fun q hq => g.2.2.2 q hq) hst1
    | [], _, hu => cases hu
    | [_], _, hu => cases hu
  · cases hu
theorem idx4 (g : gam ρ (B, AL, Ast, F) L st h) {v j a : AV} {A : List AV} (hA : Ast = v :: j :: a :: A) (hj : j.1 = 1) (ha : a.1 = 3) : ∃ v0 k b st2, st = v0 :: .int k :: .ref b :: st2 ∧ vm B.length ρ v v0 ∧ b ∈ a.2.2.2 ∧ tOK B.length ρ j.2.1 k.toInt ∧ al2 (vm B.length ρ) A st2 := by
  subst hA
  obtain ⟨v0, s0, rfl, hv0, hr0⟩ := al2_cons g.2.2.1
  obtain ⟨w1, s1, rfl, hv, hr1⟩ := al2_cons hr0
  obtain ⟨w2, s2, rfl, hw, hr⟩ := al2_cons hr1
  obtain ⟨k, rfl, tk⟩ := vm1 hj hv
  obtain ⟨b, rfl, hb⟩ := vm3 ha hw
  exact ⟨v0, k, b, s2, rfl, hv0, hb, tk, hr⟩
theorem objF_ne {q : Nat × Nat × Tm} (hq : ∃ ci, SHl[q.1]? = some (.inr ci)) {b t n j : Nat} (hb : SHl[b]? = some (.inl (t, n))) : ¬ (q.1 = b ∧ q.2.1 = j) := by
  rintro ⟨e, -⟩
  obtain ⟨ci, hc⟩ := hq
  rw [e, hb] at hc
  cases hc
theorem cu_ist (g : gam ρ (B, AL, Ast, F) L st h) (hh : HI h) {x j a : AV} {A : List AV} (hA : Ast = x :: j :: a :: A) (hx : x.1 = 1) (hj : j.1 = 1) (ha : a.1 = 3) (hok : arrOK a.2.2.2 0 (trg B j.2.1) = true) (hall : a.2.2.2.all (fun b => decide (b < OLDB) && inW W b 999 && rngOK (trg B x.2.1) (ivl b 0)) = true) :
    Suc X W .iastore o pc (B, AL, Ast, F) L st h ρ [(pc + 1, B, AL, A, F)] := by
  obtain ⟨v0, k, b, st2, rfl, hv0, hb, tk, hr⟩ := idx4 g hA hj ha
  obtain ⟨z, rfl, hz⟩ := vm1 hx hv0
  obtain ⟨n, e1, e2, e3⟩ := arrOK_in hok hb
  have rk := tOK_rg g.1 tk
  have rz := tOK_rg g.1 hz
  have hin : inB k n = true := inB_of (r := trg B j.2.1) rk.1 rk.2 e2 e3
  have hq := List.all_eq_true.mp hall b hb
  simp only [Bool.and_eq_true, decide_eq_true_eq] at hq
  obtain ⟨⟨hbo, hw⟩, hrg⟩ := hq
  have e4 := aLen_new hbo e1
  have hi := rng_ok hrg rz.1 rz.2
  refine suc_wr g (h' := (h.1, ud h.2.1 b k.toNatClampNeg z, h.2.2.1, h.2.2.2)) hr (HI_ud hh (by rw [ivl_arr e4]; exact hi.1) (by rw [ivl_arr e4]; exact hi.2)) (frm_ud (inW_arr hw _)) (fun q hq => ?_) ?_
  · refine ⟨?_, (g.2.2.2 q hq).2⟩
    show tOK B.length ρ q.2.2 (ud h.2.1 b k.toNatClampNeg z q.1 q.2.1).toInt
    rw [udN (objF_ne (g.2.2.2 q hq).2 e4)]
    exact (g.2.2.2 q hq).1
  · simp only [hstep]
    rw [if_pos hbo, hh.1, e4]
    simp only [hin, if_true]
theorem cu_bst (g : gam ρ (B, AL, Ast, F) L st h) (hh : HI h) {x j a : AV} {A : List AV} (hA : Ast = x :: j :: a :: A) (hx : x.1 = 1) (hj : j.1 = 1) (ha : a.1 = 3) (h01 : rngOK (trg B x.2.1) (0, 1) = true) (hok : arrOK a.2.2.2 2 (trg B j.2.1) = true) (hall : a.2.2.2.all (fun b => decide (b < OLDB) && inW W b 999 && rngOK (trg B x.2.1) (ivl b 0)) = true) :
    Suc X W .bastore o pc (B, AL, Ast, F) L st h ρ [(pc + 1, B, AL, A, F)] := by
  obtain ⟨v0, k, b, st2, rfl, hv0, hb, tk, hr⟩ := idx4 g hA hj ha
  obtain ⟨z, rfl, hz⟩ := vm1 hx hv0
  obtain ⟨n, e1, e2, e3⟩ := arrOK_in hok hb
  have rk := tOK_rg g.1 tk
  have rz := tOK_rg g.1 hz
  have hin : inB k n = true := inB_of (r := trg B j.2.1) rk.1 rk.2 e2 e3
  have hq := List.all_eq_true.mp hall b hb
  simp only [Bool.and_eq_true, decide_eq_true_eq] at hq
  obtain ⟨⟨hbo, hw⟩, hrg⟩ := hq
  have e4 := aLen_new hbo e1
  have hi := rng_ok hrg rz.1 rz.2
  have h1 := rng_ok h01 rz.1 rz.2
  have hz1 := b01 h1.1 h1.2
  refine suc_wr g (h' := (h.1, ud h.2.1 b k.toNatClampNeg z, h.2.2.1, h.2.2.2)) hr (HI_ud hh (by rw [ivl_arr e4]; exact hi.1) (by rw [ivl_arr e4]; exact hi.2)) (frm_ud (inW_arr hw _)) (fun q hq => ?_) ?_
  · refine ⟨?_, (g.2.2.2 q hq).2⟩
    show tOK B.length ρ q.2.2 (ud h.2.1 b k.toNatClampNeg z q.1 q.2.1).toInt
    rw [udN (objF_ne (g.2.2.2 q hq).2 e4)]
    exact (g.2.2.2 q hq).1
  · simp only [hstep]
    rw [if_pos ⟨hbo, hz1⟩, hh.1, e4]
    simp only [hin, if_true]
theorem cu_lst (g : gam ρ (B, AL, Ast, F) L st h) (hh : HI h) {x j a : AV} {A : List AV} (hA : Ast = x :: j :: a :: A) (hx : x.1 = 2) (hj : j.1 = 1) (ha : a.1 = 3) (hok : arrOK a.2.2.2 1 (trg B j.2.1) = true) (hall : a.2.2.2.all (fun b => decide (b < OLDB) && inW W b 999) = true) :
    Suc X W .lastore o pc (B, AL, Ast, F) L st h ρ [(pc + 1, B, AL, A, F)] := by
  obtain ⟨v0, k, b, st2, rfl, hv0, hb, tk, hr⟩ := idx4 g hA hj ha
  obtain ⟨z, rfl, hz⟩ := vm2 hx hv0
  obtain ⟨n, e1, e2, e3⟩ := arrOK_in hok hb
  have rk := tOK_rg g.1 tk
  have hin : inB k n = true := inB_of (r := trg B j.2.1) rk.1 rk.2 e2 e3
  have hq := List.all_eq_true.mp hall b hb
  simp only [Bool.and_eq_true, decide_eq_true_eq] at hq
  obtain ⟨hbo, hw⟩ := hq
  have e4 := aLen_new hbo e1
  refine suc_wr g (h' := (h.1, h.2.1, ud h.2.2.1 b k.toNatClampNeg z, h.2.2.2)) hr ⟨hh.1, hh.2.1, hh.2.2⟩ (frm_udL (inW_arr hw _)) (fun q hq => g.2.2.2 q hq) ?_
  simp only [hstep]
  rw [if_pos hbo, hh.1, e4]
  simp only [hin, if_true]
end SY
end
section
/-! .. copies, switches; all of them. -/
section SZ
variable {X : Scr} {W : List (Nat × Nat)} {i : Instr} {o : List Nat} {pc pc' : Nat} {B : Bd} {AL Ast : List AV} {F : List (Nat × Nat × Tm)} {L st : List Value} {h : Hp} {ρ : Nat → Int} {l : List (Nat × AS)}
theorem cu_cpy {S' : AS} {idx p1 p2 p3 p4 : Nat} (g : gam ρ (B, AL, Ast, F) L st h) (hh : HI h) (hu : aCopy W (B, AL, Ast, F) = some S') : Suc X W (.invokestatic idx) [9998, p1, p2, p3, p4] pc (B, AL, Ast, F) L st h ρ [(pc + 3, S')] := by
  unfold aCopy at hu
  match Ast, g, hu with
  | n :: dp :: a :: sp :: b :: A, g, hu =>
    obtain ⟨⟨n1, d1, s1, a1, b1, n0, d0, s0, hA, ha, hb⟩, hu⟩ := inv_if hu
    cases hu
    obtain ⟨w1, t1, rfl, k1, r1⟩ := al2_cons g.2.2.1
    obtain ⟨w2, t2, rfl, k2, r2⟩ := al2_cons r1
    obtain ⟨w3, t3, rfl, k3, r3⟩ := al2_cons r2
    obtain ⟨w4, t4, rfl, k4, r4⟩ := al2_cons r3
    obtain ⟨w5, t5, rfl, k5, r5⟩ := al2_cons r4
    obtain ⟨N, rfl, hN⟩ := vm1 n1 k1
    obtain ⟨DP, rfl, hDP⟩ := vm1 d1 k2
    obtain ⟨x, rfl, hx⟩ := vm3 a1 k3
    obtain ⟨SP, rfl, hSP⟩ := vm1 s1 k4
    obtain ⟨y, rfl, hy⟩ := vm3 b1 k5
    have gN : tlo B n.2.1 ≤ N.toInt ∧ N.toInt ≤ thi B n.2.1 := tOK_rg g.1 hN
    have gD : tlo B dp.2.1 ≤ DP.toInt ∧ DP.toInt ≤ thi B dp.2.1 := tOK_rg g.1 hDP
    have gS : tlo B sp.2.1 ≤ SP.toInt ∧ SP.toInt ≤ thi B sp.2.1 := tOK_rg g.1 hSP
    have n0 : 0 ≤ tlo B n.2.1 := n0
    have d0 : 0 ≤ tlo B dp.2.1 := d0
    have s0 : 0 ≤ tlo B sp.2.1 := s0
    have qa := List.all_eq_true.mp ha x hx
    have qb := List.all_eq_true.mp hb y hy
    have hA : A = [] := by simpa using hA
    subst hA
    cases t5 with
    | cons _ _ => exact r5.elim
    | nil =>
    split at qa
    · rename_i m hm
      split at qb
      · rename_i m' hm'
        simp only [Bool.and_eq_true, decide_eq_true_eq] at qa qb
        obtain ⟨⟨⟨xo, xw⟩, xm⟩, xr⟩ := qa
        obtain ⟨yo, ym⟩ := qb
        have xr := List.all_eq_true.mp xr y hy
        have xm : thi B dp.2.1 + thi B n.2.1 ≤ (m : Int) := xm
        have ym : thi B sp.2.1 + thi B n.2.1 ≤ (m' : Int) := ym
        have zN : N.toInt.toNat = N.toNatClampNeg := Int32.toNat_toInt N
        have zD : DP.toInt.toNat = DP.toNatClampNeg := Int32.toNat_toInt DP
        have zS : SP.toInt.toNat = SP.toNatClampNeg := Int32.toNat_toInt SP
        have hz : (0 : Int32).toInt = 0 := rfl
        have pN : ¬ N < 0 := by rw [Int32.lt_iff_toInt_lt]; omega
        have pD : ¬ DP < 0 := by rw [Int32.lt_iff_toInt_lt]; omega
        have pS : ¬ SP < 0 := by rw [Int32.lt_iff_toInt_lt]; omega
        have hst : hstep X (.invokestatic idx) [9998, p1, p2, p3, p4] pc L (.int N :: .int DP :: .ref x :: .int SP :: .ref y :: []) h = some (pc + 3, L, [], (h.1, (fun z => if z = x then va_cpy (h.2.1 y) (h.2.1 x) SP.toNatClampNeg DP.toNatClampNeg N.toNatClampNeg else h.2.1 z), h.2.2.1, h.2.2.2)) := by
          show (copyA (.int N :: .int DP :: .ref x :: .int SP :: .ref y :: []) h).map _ = _
          have : copyA (.int N :: .int DP :: .ref x :: .int SP :: .ref y :: []) h = some ([], (h.1, (fun z => if z = x then va_cpy (h.2.1 y) (h.2.1 x) SP.toNatClampNeg DP.toNatClampNeg N.toNatClampNeg else h.2.1 z), h.2.2.1, h.2.2.2)) := by
            simp only [copyA]
            rw [if_pos ⟨xo, yo, pS, pD, pN, by decide⟩, hh.1, hm, hm']
            simp only
            rw [if_pos ⟨trivial, by omega, by omega⟩]
            rfl
          rw [this]
          rfl
        refine suc_wr g (h' := (h.1, (fun z => if z = x then va_cpy (h.2.1 y) (h.2.1 x) SP.toNatClampNeg DP.toNatClampNeg N.toNatClampNeg else h.2.1 z), h.2.2.1, h.2.2.2)) r5 ⟨hh.1, fun q k => ?_, hh.2.2⟩ (fun q k hq => ⟨?_, rfl, rfl⟩) (fun q hq => ⟨?_, (g.2.2.2 q hq).2⟩) hst
        · show (ivl q k).1 ≤ ((if q = x then va_cpy (h.2.1 y) (h.2.1 x) SP.toNatClampNeg DP.toNatClampNeg N.toNatClampNeg else h.2.1 q) k).toInt ∧ ((if q = x then va_cpy (h.2.1 y) (h.2.1 x) SP.toNatClampNeg DP.toNatClampNeg N.toNatClampNeg else h.2.1 q) k).toInt ≤ (ivl q k).2
          by_cases e : q = x
          · subst e
            rw [if_pos rfl]
            unfold va_cpy
            split
            · have h1 := hh.2.1 y (SP.toNatClampNeg + (k - DP.toNatClampNeg))
              rw [ivl_arr hm'] at h1
              rw [ivl_arr hm]
              exact rng_ok xr h1.1 h1.2
            · exact hh.2.1 q k
          · rw [if_neg e]
            exact hh.2.1 q k
        · show (if q = x then va_cpy (h.2.1 y) (h.2.1 x) SP.toNatClampNeg DP.toNatClampNeg N.toNatClampNeg else h.2.1 q) k = h.2.1 q k
          rw [if_neg]
          intro e
          rw [e, inW_arr xw] at hq
          cases hq
        · show tOK B.length ρ q.2.2 ((if q.1 = x then va_cpy (h.2.1 y) (h.2.1 x) SP.toNatClampNeg DP.toNatClampNeg N.toNatClampNeg else h.2.1 q.1) q.2.1).toInt
          rw [if_neg]
          · exact (g.2.2.2 q hq).1
          · intro e
            exact objF_ne (j := q.2.1) (g.2.2.2 q hq).2 hm ⟨e, rfl⟩
      · cases qb
    · cases qa
  | [], _, hu => cases hu
  | [_], _, hu => cases hu
  | [_, _], _, hu => cases hu
  | [_, _, _], _, hu => cases hu
  | [_, _, _, _], _, hu => cases hu
theorem lk_off : ∀ (ps : List (Int × Int)) (d k : Int), (∃ q ∈ ps, q.1 = k ∧ Op.lookupswitch.offset ps d k = q.2) ∨ ((∀ q ∈ ps, ¬ q.1 = k) ∧ Op.lookupswitch.offset ps d k = d)
  | [], d, k => Or.inr ⟨fun q h => (by cases h), rfl⟩
  | (a, b) :: ps, d, k => by
    have e : Op.lookupswitch.offset ((a, b) :: ps) d k = if a = k then b else Op.lookupswitch.offset ps d k := rfl
    by_cases h : a = k
    · rw [if_pos h] at e
      exact Or.inl ⟨(a, b), List.mem_cons_self, h, e⟩
    · rw [if_neg h] at e
      rcases lk_off ps d k with ⟨q, q1, q2, q3⟩ | ⟨q1, q2⟩
      · exact Or.inl ⟨q, List.mem_cons_of_mem _ q1, q2, e.trans q3⟩
      · refine Or.inr ⟨fun q hq => ?_, e.trans q2⟩
        rcases List.mem_cons.mp hq with rfl | hq
        · exact h
        · exact q1 q hq
theorem suc_rf (g : gam ρ (B, AL, Ast, F) L st h) (hh : HI h) {A : List AV} {st2 : List Value} (hr : al2 (vm B.length ρ) A st2) {B' : Bd} (b : bOK ρ B') (n : B'.length = B.length) (hm : (pc', B', AL, A, F) ∈ l) (hs : hstep X i o pc L st h = some (pc', L, st2, h)) : Suc X W i o pc (B, AL, Ast, F) L st h ρ l := by
  have g2 := gam_ext (B := B) (B' := B') (AL := AL) (Ast := A) (F := F) (st := st2) ⟨g.1, g.2.1, hr, g.2.2.2⟩ b (Nat.le_of_eq n.symm) ext_refl
  exact suc_one hh hm hs g2 ext_refl (Nat.le_of_eq n.symm) rfl
theorem cu_tsw {dflt lo hi : Int} {offs : Array Int} (g : gam ρ (B, AL, Ast, F) L st h) (hh : HI h) (hu : asuc W (.tableswitch dflt lo hi offs) o pc (B, AL, Ast, F) = some l) : Suc X W (.tableswitch dflt lo hi offs) o pc (B, AL, Ast, F) L st h ρ l := by
  simp only [asuc] at hu
  cases Ast with
  | nil => cases hu
  | cons a A =>
    obtain ⟨h1, hu⟩ := inv_if hu
    split at hu
    · rename_i d hd
      obtain ⟨⟨h2, h3⟩, hu⟩ := inv_if hu
      cases hu
      obtain ⟨x, st2, rfl, hx, hr⟩ := one1 g rfl h1
      by_cases ho : x.toInt < lo ∨ hi < x.toInt
      · have hs : hstep X (.tableswitch dflt lo hi offs) o pc L (.int x :: st2) h = some (d, L, st2, h) := by
          show (if x.toInt < lo ∨ hi < x.toInt then (jump pc dflt).map (fun t => (t, L, st2)) else _).map _ = _
          rw [if_pos ho, hd]
          rfl
        rcases ho with ho | ho
        · obtain ⟨B', e, b, n⟩ := refn_ok (lo := -BIGI) (hi := lo - 1) g.1 hx (sm32 x).1 (by omega)
          exact suc_rf g hh hr b n (List.mem_append_left _ (List.mem_map.mpr ⟨B', by rw [show refn (B, AL, a :: A, F).1 a.2.1 (-BIGI) (lo - 1) = some B' from e]; simp, rfl⟩)) hs
        · obtain ⟨B', e, b, n⟩ := refn_ok (lo := hi + 1) (hi := BIGI) g.1 hx (by omega) (sm32 x).2
          exact suc_rf g hh hr b n (List.mem_append_right _ (List.mem_append_left _ (List.mem_map.mpr ⟨B', by rw [show refn (B, AL, a :: A, F).1 a.2.1 (hi + 1) BIGI = some B' from e]; simp, rfl⟩))) hs
      · have hlt : (x.toInt - lo).toNat < offs.size := by omega
        have hj := List.all_eq_true.mp h2 (x.toInt - lo).toNat (List.mem_range.mpr hlt)
        obtain ⟨t, ht⟩ := Option.isSome_iff_exists.mp hj
        have hof : offs[(x.toInt - lo).toNat]? = some (offs.getD (x.toInt - lo).toNat 0) := by
          simp [hlt]
        have hs : hstep X (.tableswitch dflt lo hi offs) o pc L (.int x :: st2) h = some (t, L, st2, h) := by
          show (if x.toInt < lo ∨ hi < x.toInt then _ else (match offs[(x.toInt - lo).toNat]? with | some off => (jump pc off).map (fun t => (t, L, st2)) | none => none)).map _ = _
          rw [if_neg ho, hof]
          simp only
          rw [ht]
          rfl
        obtain ⟨B', e, b, n⟩ := refn_ok (lo := lo + ((x.toInt - lo).toNat : Int)) (hi := lo + ((x.toInt - lo).toNat : Int)) g.1 hx (by omega) (by omega)
        refine suc_rf g hh hr b n (List.mem_append_right _ (List.mem_append_right _ (List.mem_flatten.mpr ⟨_, List.mem_map.mpr ⟨(x.toInt - lo).toNat, List.mem_range.mpr hlt, rfl⟩, List.mem_map.mpr ⟨B', ?_, ?_⟩⟩))) hs
        · rw [show refn (B, AL, a :: A, F).1 a.2.1 (lo + ((x.toInt - lo).toNat : Int)) (lo + ((x.toInt - lo).toNat : Int)) = some B' from e]
          simp
        · rw [ht]
          rfl
    · cases hu
theorem cu_lsw {dflt : Int} {ps : Array (Int × Int)} (g : gam ρ (B, AL, Ast, F) L st h) (hh : HI h) (hu : asuc W (.lookupswitch dflt ps) o pc (B, AL, Ast, F) = some l) : Suc X W (.lookupswitch dflt ps) o pc (B, AL, Ast, F) L st h ρ l := by
  simp only [asuc] at hu
  cases Ast with
  | nil => cases hu
  | cons a A =>
    obtain ⟨⟨h1, hso⟩, hu⟩ := inv_if hu
    split at hu
    · rename_i d hd
      obtain ⟨h2, hu⟩ := inv_if hu
      have hu := Option.some.inj hu
      obtain ⟨x, st2, rfl, hx, hr⟩ := one1 g rfl h1
      have hs : ∀ t, jump pc (Op.lookupswitch.offset ps.toList dflt x.toInt) = some t → hstep X (.lookupswitch dflt ps) o pc L (.int x :: st2) h = some (t, L, st2, h) := by
        intro t ht
        show (if (ps.toList.zip (ps.toList.drop 1)).all (fun (a, next) => a.1 < next.1) = true then (jump pc (Op.lookupswitch.offset ps.toList dflt x.toInt)).map (fun t => (t, L, st2)) else none).map _ = _
        rw [if_pos hso, ht]
        rfl
      rcases lk_off ps.toList dflt x.toInt with ⟨q, q1, q2, q3⟩ | ⟨q1, q2⟩
      · obtain ⟨t, ht⟩ := Option.isSome_iff_exists.mp (List.all_eq_true.mp h2 q q1)
        obtain ⟨B', e, b, n⟩ := refn_ok (lo := q.1) (hi := q.1) g.1 hx (by omega) (by omega)
        refine suc_rf g hh hr b n ?_ (hs t (by rw [q3]; exact ht))
        rw [← hu]
        refine List.mem_append_right _ (List.mem_flatten.mpr ⟨_, List.mem_map.mpr ⟨q, q1, rfl⟩, List.mem_map.mpr ⟨B', ?_, ?_⟩⟩)
        · rw [show refn (B, AL, a :: A, F).1 a.2.1 q.1 q.1 = some B' from e]
          simp
        · rw [ht]
          rfl
      · refine suc_rf g hh hr g.1 rfl ?_ (hs d (by rw [q2]; exact hd))
        rw [← hu]
        refine List.mem_append_left _ ?_
        rw [if_neg]
        · exact List.mem_singleton.mpr rfl
        · rintro ⟨e1, e2⟩
          obtain ⟨q, m1, m2⟩ := List.any_eq_true.mp e2
          have rx : tlo B a.2.1 ≤ x.toInt ∧ x.toInt ≤ thi B a.2.1 := tOK_rg g.1 hx
          refine q1 q m1 ((of_decide_eq_true m2).trans ?_)
          have e1 : tlo B a.2.1 = thi B a.2.1 := e1
          show tlo B a.2.1 = x.toInt
          omega
    · cases hu
theorem cu_dfl (g : gam ρ (B, AL, Ast, F) L st h) (hh : HI h) (hu : (match (generalizing := false) Ast with
    | b :: a :: st => if a.1 = 1 ∧ b.1 = 1 then (match aBin i (trg B a.2.1) (trg B b.2.1) with
        | some r => some [(pc + 1, pushI (B, AL, Ast, F) st r)]
        | none => (match aUn i with | some r => some [(pc + 1, pushI (B, AL, Ast, F) (a :: st) r)] | none => none))
      else if a.1 = 2 ∧ b.1 = 2 ∧ aBinL i = true then some [(pc + 1, pushL (B, AL, Ast, F) st fL)]
      else if a.1 = 2 ∧ b.1 = 1 ∧ aSh i = true then some [(pc + 1, pushL (B, AL, Ast, F) st fL)]
      else if b.1 = 1 then (match aUn i with | some r => some [(pc + 1, pushI (B, AL, Ast, F) (a :: st) r)] | none => none) else none
    | b :: st => if b.1 = 1 then (match aUn i with | some r => some [(pc + 1, pushI (B, AL, Ast, F) st r)] | none => none) else none
    | _ => none) = some l) : Suc X W i o pc (B, AL, Ast, F) L st h ρ l := by
  have un : ∀ (b : AV) (A : List AV), Ast = b :: A → b.1 = 1 → (match aUn i with | some r => some [(pc + 1, pushI (B, AL, Ast, F) A r)] | none => none) = some l → Suc X W i o pc (B, AL, Ast, F) L st h ρ l := by
    intro b A hA hb hu
    cases e : aUn i with
    | none => rw [e] at hu; cases hu
    | some r =>
      rw [e] at hu
      cases hu
      obtain ⟨x, st2, rfl, hx, hr⟩ := one1 g hA hb
      obtain ⟨z, hs, z1, z2⟩ := aUn_ok (X := X) (o := o) (pc := pc) (L := L) (st := st2) (h := h) (x := x) e
      exact suc_new g hh hr z1 z2 hs
  match Ast, g, hu, un with
  | b :: a :: A, g, hu, un =>
    by_cases c1 : a.1 = 1 ∧ b.1 = 1
    · have hu := (if_pos c1).symm.trans hu
      cases e : aBin i (trg B a.2.1) (trg B b.2.1) with
      | none =>
        rw [e] at hu
        exact un b (a :: A) rfl c1.2 hu
      | some r =>
        rw [e] at hu
        cases hu
        obtain ⟨x, y, st2, rfl, hx, hy, hr⟩ := two1 g rfl c1.1 c1.2
        have rx := tOK_rg g.1 hx
        have ry := tOK_rg g.1 hy
        obtain ⟨z, hs, z1, z2⟩ := aBin_ok (X := X) (o := o) (pc := pc) (L := L) (st := st2) (h := h) (x := x) (y := y) e rx.1 rx.2 ry.1 ry.2
        exact suc_new g hh hr z1 z2 hs
    · have hu := (if_neg c1).symm.trans hu
      by_cases c2 : a.1 = 2 ∧ b.1 = 2 ∧ aBinL i = true
      · have hu := (if_pos c2).symm.trans hu
        cases hu
        obtain ⟨x, y, st2, rfl, hx, hy, hr⟩ := two2 g rfl c2.1 c2.2.1
        obtain ⟨z, hs⟩ := aBinL_ok (X := X) (o := o) (pc := pc) (L := L) (st := st2) (h := h) (x := x) (y := y) c2.2.2
        exact suc_newL g hh hr hs
      · have hu := (if_neg c2).symm.trans hu
        by_cases c3 : a.1 = 2 ∧ b.1 = 1 ∧ aSh i = true
        · have hu := (if_pos c3).symm.trans hu
          cases hu
          obtain ⟨w, s1, rfl, hw, hr1⟩ := al2_cons g.2.2.1
          obtain ⟨w2, s2, rfl, hw2, hr⟩ := al2_cons hr1
          obtain ⟨y, rfl, -⟩ := vm1 c3.2.1 hw
          obtain ⟨x, rfl, -⟩ := vm2 c3.1 hw2
          obtain ⟨z, hs⟩ := aSh_ok (X := X) (o := o) (pc := pc) (L := L) (st := s2) (h := h) (x := x) (y := y) c3.2.2
          exact suc_newL g hh hr hs
        · have hu := (if_neg c3).symm.trans hu
          obtain ⟨c4, hu⟩ := inv_if hu
          exact un b (a :: A) rfl c4 hu
  | [b], g, hu, un =>
    obtain ⟨c4, hu⟩ := inv_if hu
    exact un b [] rfl c4 hu
  | [], g, hu, un => cases hu
end SZ
end
section
theorem lg_cmp_sgn (x y : Int64) : lg_cmp x y = sgn x.toInt y.toInt := by
  unfold lg_cmp sgn
  rcases Int.lt_trichotomy x.toInt y.toInt with h | h | h
  · have h1 : ¬ x > y := fun q => by have := Int64.lt_iff_toInt_lt.mp q; omega
    have h2 : ¬ x = y := fun q => by rw [q] at h; omega
    rw [if_neg h1, if_neg h2, if_pos h]
  · have h2 : x = y := Int64.toInt.inj h
    subst h2
    have h1 : ¬ x > x := fun q => by have := Int64.lt_iff_toInt_lt.mp q; omega
    rw [if_neg h1, if_pos rfl, if_neg (by omega), if_pos rfl]
  · have h1 : x > y := Int64.lt_iff_toInt_lt.mpr h
    rw [if_pos h1, if_neg (by omega), if_neg (by omega)]
set_option maxHeartbeats 4000000 in
/-- what may follow an instruction is what the interval machine says -/
theorem asuc_sound {X : Scr} {W : List (Nat × Nat)} {i : Instr} {o : List Nat} {pc : Nat} {S : AS} {L st : List Value} {h : Hp} {ρ : Nat → Int} {l : List (Nat × AS)} (g : gam ρ S L st h) (hh : HI h) (hu : asuc W i o pc S = some l) : Suc X W i o pc S L st h ρ l := by
  obtain ⟨B, AL, Ast, F⟩ := S
  cases i with
  | iconst k => cases hu; exact suc_push g hh g.2.2.1 ⟨_, rfl, tOK_c _⟩ rfl
  | bipush k => cases hu; exact suc_push g hh g.2.2.1 ⟨_, rfl, tOK_c _⟩ rfl
  | sipush k => cases hu; exact suc_push g hh g.2.2.1 ⟨_, rfl, tOK_c _⟩ rfl
  | lconst k => cases hu; exact suc_push g hh g.2.2.1 ⟨_, rfl, tOK_c _⟩ rfl
  | ldc idx =>
    simp only [asuc] at hu
    split at hu
    · cases hu
      exact suc_push g hh g.2.2.1 (v := .int _) ⟨_, rfl, tOK_c _⟩ rfl
    · rename_i j x
      obtain ⟨hj, hu⟩ := inv_if hu
      cases hu
      refine suc_push g hh g.2.2.1 (v := .ref (OLDB + 3 + j)) ⟨_, rfl, List.mem_singleton.mpr rfl⟩ ?_
      show (if j < 5 then some (pc + 2, L, Value.ref (OLDB + 3 + j) :: st) else none).map _ = _
      rw [if_pos hj]
      rfl
    · cases hu
  | ldc_w idx =>
    simp only [asuc] at hu
    split at hu
    · cases hu
      exact suc_push g hh g.2.2.1 (v := .int _) ⟨_, rfl, tOK_c _⟩ rfl
    · cases hu
  | ldc2_w idx =>
    simp only [asuc] at hu
    split at hu
    · cases hu
      exact suc_push g hh g.2.2.1 (v := .long _) ⟨_, rfl, tOK_c _⟩ rfl
    · cases hu
  | iload k => exact cu_load1 g hh hu (fun x e => by show (match L[k]? with | some (.int x) => some (pc + 2, L, Value.int x :: st) | _ => none).map _ = _; rw [e]; rfl)
  | iload_n k => exact cu_load1 g hh hu (fun x e => by show (match L[(k : Nat)]? with | some (.int x) => some (pc + 1, L, Value.int x :: st) | _ => none).map _ = _; rw [e]; rfl)
  | lload k => exact cu_load2 g hh hu (fun x e => by show (match L[k]? with | some (.long x) => some (pc + 2, L, Value.long x :: st) | _ => none).map _ = _; rw [e]; rfl)
  | lload_n k => exact cu_load2 g hh hu (fun x e => by show (match L[(k : Nat)]? with | some (.long x) => some (pc + 1, L, Value.long x :: st) | _ => none).map _ = _; rw [e]; rfl)
  | aload k => exact cu_load3 g hh hu (fun x e hx => by show (match L[k]? with | some (.ref x) => if x = OLDB + 13 then none else some (pc + 2, L, Value.ref x :: st) | _ => none).map _ = _; rw [e]; simp only; rw [if_neg hx]; rfl)
  | aload_n k => exact cu_load3 g hh hu (fun x e hx => by show (match L[(k : Nat)]? with | some (.ref x) => if x = OLDB + 13 then none else some (pc + 1, L, Value.ref x :: st) | _ => none).map _ = _; rw [e]; simp only; rw [if_neg hx]; rfl)
  | istore k => exact cu_sto1 g hh hu (fun x st2 e hk => by subst e; show (if k < L.length ∧ okSt L k = true then some (pc + 2, L.set k (.int x), st2) else none).map _ = _; rw [if_pos hk]; rfl)
  | istore_n k => exact cu_sto1 g hh hu (fun x st2 e hk => by subst e; show (if (k : Nat) < L.length ∧ okSt L k = true then some (pc + 1, L.set k (.int x), st2) else none).map _ = _; rw [if_pos hk]; rfl)
  | lstore k => exact cu_sto2 g hh hu (fun x st2 e hk => by subst e; show (if k + 1 < L.length ∧ okSt L k = true then some (pc + 2, (L.set k (.long x)).set (k + 1) (.retAddr 0), st2) else none).map _ = _; rw [if_pos hk]; rfl)
  | lstore_n k => exact cu_sto2 g hh hu (fun x st2 e hk => by subst e; show (if (k : Nat) + 1 < L.length ∧ okSt L k = true then some (pc + 1, (L.set k (.long x)).set (k + 1) (.retAddr 0), st2) else none).map _ = _; rw [if_pos hk]; rfl)
  | astore_n k => exact cu_sto3 g hh hu (fun x st2 e hk => by subst e; show (if (k : Nat) < L.length ∧ okSt L k = true ∧ ¬ x = OLDB + 13 then some (pc + 1, L.set k (.ref x), st2) else none).map _ = _; rw [if_pos hk]; rfl)
  | iinc k n =>
    simp only [asuc] at hu
    split at hu
    · rename_i a ha
      obtain ⟨⟨h1, h2⟩, hu⟩ := inv_if hu
      cases hu
      obtain ⟨v, e, hv⟩ := al2_get g.2.1 ha
      obtain ⟨x, rfl, hx⟩ := vm1 h1 hv
      obtain ⟨ρ', e', b, t, nn⟩ := addI_ok (y := Int32.ofInt n) g.1 hx (tOK_c (Int32.ofInt n).toInt)
      have g2 := gam_ext (AL := AL) (Ast := Ast) (F := F) (st := st) g b nn e'
      refine suc_one hh (L' := L.set k (.int (x + Int32.ofInt n))) (List.mem_singleton.mpr rfl) ?_ ⟨g2.1, al2_set g2.2.1 ⟨_, rfl, t⟩, g2.2.2.1, g2.2.2.2⟩ e' nn (List.length_set ..)
      show (match L[k]? with | some (.int x) => if okSt L k = true then some (pc + 3, L.set k (.int (x + Int32.ofInt n)), st) else none | _ => none).map _ = _
      rw [e]
      simp only
      rw [if_pos (aOk_ok g.2.1 h2)]
      rfl
    · cases hu
  | iadd =>
    simp only [asuc] at hu
    match Ast, g, hu with
    | b :: a :: A, g, hu =>
      obtain ⟨⟨h1, h2⟩, hu⟩ := inv_if hu
      cases hu
      obtain ⟨x, y, st2, rfl, hx, hy, hr⟩ := two1 g rfl h1 h2
      exact suc_tm g hh hr (addI_ok g.1 hx hy) rfl
    | [_], _, hu => cases hu
    | [], _, hu => cases hu
  | isub =>
    simp only [asuc] at hu
    match Ast, g, hu with
    | b :: a :: A, g, hu =>
      obtain ⟨⟨h1, h2⟩, hu⟩ := inv_if hu
      cases hu
      obtain ⟨x, y, st2, rfl, hx, hy, hr⟩ := two1 g rfl h1 h2
      exact suc_tm g hh hr (subI_ok g.1 hx hy) rfl
    | [_], _, hu => cases hu
    | [], _, hu => cases hu
  | ladd =>
    simp only [asuc] at hu
    match Ast, g, hu with
    | b :: a :: A, g, hu =>
      obtain ⟨⟨h1, h2⟩, hu⟩ := inv_if hu
      cases hu
      obtain ⟨x, y, st2, rfl, hx, hy, hr⟩ := two2 g rfl h1 h2
      exact suc_tmL g hh hr (addL_ok g.1 hx hy) rfl
    | [_], _, hu => cases hu
    | [], _, hu => cases hu
  | lsub =>
    simp only [asuc] at hu
    match Ast, g, hu with
    | b :: a :: A, g, hu =>
      obtain ⟨⟨h1, h2⟩, hu⟩ := inv_if hu
      cases hu
      obtain ⟨x, y, st2, rfl, hx, hy, hr⟩ := two2 g rfl h1 h2
      exact suc_tmL g hh hr (subL_ok g.1 hx hy) rfl
    | [_], _, hu => cases hu
    | [], _, hu => cases hu
  | lcmp =>
    simp only [asuc] at hu
    match Ast, g, hu with
    | b :: a :: A, g, hu =>
      obtain ⟨⟨h1, h2⟩, hu⟩ := inv_if hu
      cases hu
      obtain ⟨x, y, st2, rfl, hx, hy, hr⟩ := two2 g rfl h1 h2
      refine suc_push g hh (v := .int (lg_cmp x y)) hr ⟨x, y, congrArg Value.int (lg_cmp_sgn x y), hx, hy⟩ rfl
    | [_], _, hu => cases hu
    | [], _, hu => cases hu
  | i2l =>
    simp only [asuc] at hu
    cases Ast with
    | nil => cases hu
    | cons a A =>
      obtain ⟨h1, hu⟩ := inv_if hu
      cases hu
      obtain ⟨x, st2, rfl, hx, hr⟩ := one1 g rfl h1
      exact suc_push g hh (v := .long x.toInt64) hr ⟨_, rfl, by rw [Int32.toInt_toInt64]; exact hx⟩ rfl
  | l2i =>
    simp only [asuc] at hu
    cases Ast with
    | nil => cases hu
    | cons a A =>
      obtain ⟨h1, hu⟩ := inv_if hu
      obtain ⟨x, st2, rfl, hx, hr⟩ := one2 g rfl h1
      have rx : tlo B a.2.1 ≤ x.toInt ∧ x.toInt ≤ thi B a.2.1 := tOK_rg g.1 hx
      by_cases hc : rngOK (trg B a.2.1) fI = true
      · rw [if_pos hc] at hu
        cases hu
        have := rng_ok hc rx.1 rx.2
        simp only [fI] at this
        exact suc_push g hh (v := .int x.toInt32) hr ⟨_, rfl, by rw [Int64.toInt_toInt32, bm32 this.1 this.2]; exact hx⟩ rfl
      · rw [if_neg hc] at hu
        cases hu
        exact suc_new g hh (z := x.toInt32) hr (i32r _).1 (i32r _).2 rfl
  | dup =>
    simp only [asuc] at hu
    cases Ast with
    | nil => cases hu
    | cons a A =>
      obtain ⟨h1, hu⟩ := inv_if hu
      cases hu
      obtain ⟨v, st2, rfl, hv, hr⟩ := al2_cons g.2.2.1
      refine suc_push g hh (st2 := v :: st2) ⟨hv, hr⟩ hv ?_
      show (if v.category = 1 then some (pc + 1, L, v :: v :: st2) else none).map _ = _
      rw [if_pos (vm_cat h1 hv)]
      rfl
  | pop =>
    simp only [asuc] at hu
    cases Ast with
    | nil => cases hu
    | cons a A =>
      obtain ⟨h1, hu⟩ := inv_if hu
      cases hu
      obtain ⟨v, st2, rfl, hv, hr⟩ := al2_cons g.2.2.1
      refine suc_one hh (List.mem_singleton.mpr rfl) ?_ ⟨g.1, g.2.1, hr, g.2.2.2⟩ ext_refl (Nat.le_refl _) rfl
      show (if v.category = 1 then some (pc + 1, L, st2) else none).map _ = _
      rw [if_pos (vm_cat h1 hv)]
      rfl
  | dup2 =>
    simp only [asuc] at hu
    match Ast, g, hu with
    | a :: b :: A, g, hu =>
      obtain ⟨⟨h1, h2⟩, hu⟩ := inv_if hu
      cases hu
      obtain ⟨v, s1, rfl, hv, hr1⟩ := al2_cons g.2.2.1
      obtain ⟨w, st2, rfl, hw, hr⟩ := al2_cons hr1
      refine suc_push g hh (st2 := w :: v :: w :: st2) ⟨hw, hv, hw, hr⟩ hv ?_
      show (if v.category = 1 ∧ w.category = 1 then some (pc + 1, L, v :: w :: v :: w :: st2) else none).map _ = _
      rw [if_pos ⟨vm_cat h1 hv, vm_cat h2 hw⟩]
      rfl
    | [_], _, hu => cases hu
    | [], _, hu => cases hu
  | pop2 =>
    simp only [asuc] at hu
    cases Ast with
    | nil => cases hu
    | cons a A =>
      obtain ⟨h1, hu⟩ := inv_if hu
      cases hu
      obtain ⟨x, st2, rfl, hx, hr⟩ := one2 g rfl h1
      exact suc_one hh (List.mem_singleton.mpr rfl) rfl ⟨g.1, g.2.1, hr, g.2.2.2⟩ ext_refl (Nat.le_refl _) rfl
  | ifCond q off =>
    simp only [asuc] at hu
    cases Ast with
    | nil => cases hu
    | cons a A =>
      simp only at hu
      split at hu
      · rename_i t ht
        have hs : ∀ (x : Int32) st2, hstep X (.ifCond q off) o pc L (.int x :: st2) h = some (if condB q x 0 = true then t else pc + 3, L, st2, h) := by
          intro x st2
          show ((jump pc off).map (fun t => (if condB q x 0 = true then t else pc + 3, L, st2))).map _ = _
          rw [ht]
          rfl
        by_cases h1 : a.1 = 1
        · rw [if_pos h1] at hu
          cases hu
          obtain ⟨x, st2, rfl, hx, hr⟩ := one1 g rfl h1
          refine suc_br g hh hr hx (tOK_c 0) (sm32 x) sm0 ?_
          rw [hs, condB_I]
          rfl
        · rw [if_neg h1] at hu
          obtain ⟨h4, hu⟩ := inv_if hu
          cases hu
          obtain ⟨v, st2, rfl, hv, hr⟩ := al2_cons g.2.2.1
          obtain ⟨x, y, rfl, hx, hy⟩ := vm4 h4 hv
          refine suc_br g hh hr hx hy (sm64 x) (sm64 y) ?_
          rw [hs, condB_sgn]
      · cases hu
  | if_icmp q off =>
    simp only [asuc] at hu
    match Ast, g, hu with
    | b :: a :: A, g, hu =>
      simp only at hu
      split at hu
      · rename_i t ht
        obtain ⟨⟨h1, h2⟩, hu⟩ := inv_if hu
        cases hu
        obtain ⟨x, y, st2, rfl, hx, hy, hr⟩ := two1 g rfl h1 h2
        refine suc_br g hh hr hx hy (sm32 x) (sm32 y) ?_
        show ((jump pc off).map (fun t => (if condB q x y = true then t else pc + 3, L, st2))).map _ = _
        rw [ht, condB_I]
        rfl
      · cases hu
    | [_], _, hu => cases hu
    | [], _, hu => cases hu
  | goto off =>
    obtain ⟨t, ht, hu⟩ := Option.map_eq_some_iff.mp (show (jump pc off).map (fun t => [(t, (B, AL, Ast, F))]) = some l from hu)
    cases hu
    refine suc_one hh (List.mem_singleton.mpr rfl) ?_ g ext_refl (Nat.le_refl _) rfl
    show ((jump pc off).map (fun t => (t, L, st))).map _ = _
    rw [ht]
    rfl
  | tableswitch dflt lo hi offs => exact cu_tsw g hh hu
  | lookupswitch dflt ps => exact cu_lsw g hh hu
  | getfield idx =>
    obtain ⟨S', h1, hu⟩ := Option.map_eq_some_iff.mp (show (aGetF o (B, AL, Ast, F)).map (fun S' => [(pc + 3, S')]) = some l from hu)
    cases hu
    exact cu_get g hh h1
  | putfield idx =>
    obtain ⟨S', h1, hu⟩ := Option.map_eq_some_iff.mp (show (aPutF W o (B, AL, Ast, F)).map (fun S' => [(pc + 3, S')]) = some l from hu)
    cases hu
    exact cu_put g hh h1
  | getstatic idx =>
    simp only [asuc] at hu
    split at hu
    · cases hu
      exact suc_push g hh (v := .ref (OLDB + 1)) g.2.2.1 ⟨_, rfl, List.mem_singleton.mpr rfl⟩ rfl
    · cases hu
      exact suc_push g hh (v := .ref (OLDB + 2)) g.2.2.1 ⟨_, rfl, List.mem_singleton.mpr rfl⟩ rfl
    · cases hu
      exact suc_push g hh (v := .int 1) g.2.2.1 ⟨_, rfl, tOK_c 1⟩ rfl
    · cases hu
      exact suc_push g hh (v := .ref (OLDB + 13)) g.2.2.1 ⟨_, rfl, List.mem_singleton.mpr rfl⟩ rfl
    · cases hu
  | arraylength =>
    simp only [asuc] at hu
    cases Ast with
    | nil => cases hu
    | cons a A =>
      obtain ⟨⟨h1, -, h3⟩, hu⟩ := inv_if hu
      cases hu
      exact cu_len g hh rfl h1 h3
  | iaload =>
    simp only [asuc] at hu
    match Ast, g, hu with
    | j :: a :: A, g, hu =>
      obtain ⟨⟨h1, h2, h3⟩, hu⟩ := inv_if hu
      cases hu
      exact cu_ild g hh rfl h1 h2 h3
    | [_], _, hu => cases hu
    | [], _, hu => cases hu
  | baload =>
    simp only [asuc] at hu
    match Ast, g, hu with
    | j :: a :: A, g, hu =>
      obtain ⟨⟨h1, h2, h3⟩, hu⟩ := inv_if hu
      cases hu
      exact cu_bld g hh rfl h1 h2 h3
    | [_], _, hu => cases hu
    | [], _, hu => cases hu
  | laload =>
    simp only [asuc] at hu
    match Ast, g, hu with
    | j :: a :: A, g, hu =>
      obtain ⟨⟨h1, h2, h3, h4⟩, hu⟩ := inv_if hu
      cases hu
      exact cu_lld g hh rfl h1 h2 h3 h4
    | [_], _, hu => cases hu
    | [], _, hu => cases hu
  | aaload =>
    simp only [asuc] at hu
    match Ast, g, hu with
    | j :: a :: A, g, hu =>
      obtain ⟨⟨h1, h2, h3, h4⟩, hu⟩ := inv_if hu
      cases hu
      rcases h3 with h3 | h3
      · exact cu_ald g hh rfl h1 h2 (Or.inl rfl) h3 h4
      · exact cu_ald g hh rfl h1 h2 (Or.inr rfl) h3 h4
    | [_], _, hu => cases hu
    | [], _, hu => cases hu
  | iastore =>
    simp only [asuc] at hu
    match Ast, g, hu with
    | x :: j :: a :: A, g, hu =>
      obtain ⟨⟨h1, h2, h3, h4, h5⟩, hu⟩ := inv_if hu
      cases hu
      exact cu_ist g hh rfl h1 h2 h3 h4 h5
    | [_, _], _, hu => cases hu
    | [_], _, hu => cases hu
    | [], _, hu => cases hu
  | bastore =>
    simp only [asuc] at hu
    match Ast, g, hu with
    | x :: j :: a :: A, g, hu =>
      obtain ⟨⟨h1, h2, h3, h4, h5, h6⟩, hu⟩ := inv_if hu
      cases hu
      exact cu_bst g hh rfl h1 h2 h3 h4 h5 h6
    | [_, _], _, hu => cases hu
    | [_], _, hu => cases hu
    | [], _, hu => cases hu
  | lastore =>
    simp only [asuc] at hu
    match Ast, g, hu with
    | x :: j :: a :: A, g, hu =>
      obtain ⟨⟨h1, h2, h3, h4, h5⟩, hu⟩ := inv_if hu
      cases hu
      exact cu_lst g hh rfl h1 h2 h3 h4 h5
    | [_, _], _, hu => cases hu
    | [_], _, hu => cases hu
    | [], _, hu => cases hu
  | invokestatic idx =>
    simp only [asuc] at hu
    split at hu
    · obtain ⟨S', h1, hu⟩ := Option.map_eq_some_iff.mp hu
      cases hu
      exact cu_cpy g hh h1
    · cases hu
  | _ => exact cu_dfl g hh hu
end
section
/-! Contracts, and what checks a method against its own. -/
abbrev Post : Type := Bd × List AV × List (Nat × Nat × Tm) × List (Nat × Nat)
/-- method, depth, bounds of its variables, arguments, where each variable stands among them, ends, what may be written, whether the texts' invariant is wanted -/
abbrev Ctr : Type := Nat × Nat × Bd × List AV × List Nat × List Post × List (Nat × Nat) × Bool × List (Nat × Nat × Tm)
def cY (c : Ctr) : Nat := c.1
def cD (c : Ctr) : Nat := c.2.1
def cB (c : Ctr) : Bd := c.2.2.1
def cA (c : Ctr) : List AV := c.2.2.2.1
def cV (c : Ctr) : List Nat := c.2.2.2.2.1
def cP (c : Ctr) : List Post := c.2.2.2.2.2.1
def cW (c : Ctr) : List (Nat × Nat) := c.2.2.2.2.2.2.1
def cK (c : Ctr) : Bool := c.2.2.2.2.2.2.2.1
/-- what is known of cells at its beginning -/
def cF (c : Ctr) : List (Nat × Nat × Tm) := c.2.2.2.2.2.2.2.2
/-- a place where paths are cut: pc, bounds, locals, where each new variable stands, the measure -/
abbrev Cut : Type := Nat × Bd × List AV × List Nat × List (Nat × Nat × Int) × List (Nat × Nat × Tm)
def kM (C : Cut) : List (Nat × Nat × Int) := C.2.2.2.2.1
def kF (C : Cut) : List (Nat × Nat × Tm) := C.2.2.2.2.2
def sub (σ : List Tm) (t : Tm) : Tm := match t.1 with
  | 0 => t
  | v + 1 => ((σ.getD v (0, 0)).1, (σ.getD v (0, 0)).2 + t.2)
def subA (σ : List Tm) (a : AV) : AV := (a.1, sub σ a.2.1, sub σ a.2.2.1, a.2.2.2)
/-- the value s is of the pattern a -/
def avLe (σ : List Tm) (a s : AV) : Bool := match a.1 with
  | 0 => cat1 s
  | 1 => s.1 == 1 && decide (s.2.1 = sub σ a.2.1) && decide (a.2.1.1 ≤ σ.length)
  | 2 => s.1 == 2 && decide (s.2.1 = sub σ a.2.1) && decide (a.2.1.1 ≤ σ.length)
  | 3 => s.1 == 3 && s.2.2.2.all (fun b => a.2.2.2.contains b)
  | 4 => false
  | _ => true
def avsLe (σ : List Tm) : List AV → List AV → Bool
  | [], [] => true
  | a :: l, s :: m => avLe σ a s && avsLe σ l m
  | _, _ => false
def bdLe (B : Bd) : List Tm → Bd → Bool
  | [], [] => true
  | t :: σ, q :: C => rngOK (trg B t) q && bdLe B σ C
  | _, _ => false
def ids (n : Nat) : List Tm := (List.range n).map (fun i => (i + 1, 0))
def numA (s : AV) : Bool := s.1 == 1 || s.1 == 2
def mcmp (B : Bd) (k0 : Nat) (c0 : Int) (t0 : Tm) (k1 : Nat) (c1 : Int) (t1 : Tm) : Nat := match k0, k1 with
  | 0, 0 => if c0.toNat = c1.toNat then 0 else if c1.toNat < c0.toNat then 1 else 2
  | 1, 1 => if t0.1 = t1.1 then (if c0 - t0.2 = c1 - t1.2 then 0 else if c1 - t1.2 < c0 - t0.2 ∧ thi B t1 ≤ c1 then 1 else 2) else 2
  | 2, 2 => if t0.1 = t1.1 then (if t0.2 - c0 = t1.2 - c1 then 0 else if t1.2 - c1 < t0.2 - c0 ∧ c1 ≤ tlo B t1 then 1 else 2) else 2
  | _, _ => 2
/-- the measure has gone down: from the locals L0 to L1 -/
def mlt (B : Bd) (L0 L1 : List AV) : List (Nat × Nat × Int) → List (Nat × Nat × Int) → Bool
  | x :: l, y :: m => (x.1 == 0 || numA (L0.getD x.2.1 jT)) && (y.1 == 0 || numA (L1.getD y.2.1 jT)) && (match mcmp B x.1 x.2.2 (L0.getD x.2.1 jT).2.1 y.1 y.2.2 (L1.getD y.2.1 jT).2.1 with
    | 0 => mlt B L0 L1 l m
    | 1 => l.length == m.length
    | _ => false)
  | _, _ => false
/-- a source of a variable: a number among these values, or what is known of a cell -/
def vS (S : AS) (l : List AV) (F : List (Nat × Nat × Tm)) (j : Nat) : Option Tm := if j < 100 then (if numA (l.getD j jT) = true then some (l.getD j jT).2.1 else none) else (match F[j - 100]? with
  | some q => fGet S.2.2.2 q.1 q.2.1
  | none => none)
def fFit (S : AS) (σ : List Tm) (n : Nat) (F : List (Nat × Nat × Tm)) : Bool := F.all (fun q => decide (fGet S.2.2.2 q.1 q.2.1 = some (sub σ q.2.2)) && decide (q.2.2.1 ≤ n))
def cutSg (nv : Nat) (S : AS) (C : Cut) : List Tm := ids nv ++ C.2.2.2.1.map (fun k => (vS S S.2.1 (kF C) k).getD (0, 0))
def cutFit (nv : Nat) (S : AS) (C : Cut) : Bool :=
  S.2.2.1.isEmpty && C.2.2.2.1.all (fun k => (vS S S.2.1 (kF C) k).isSome) && bdLe S.1 (cutSg nv S C) C.2.1 && avsLe (cutSg nv S C) C.2.2.1 S.2.1 && fFit S (cutSg nv S C) C.2.1.length (kF C)
def retTy (y : Nat) (r : Int × Int) : Bool := match mRet y with
  | some .int => true
  | some .boolean => rngOK r (0, 1)
  | some .char => rngOK r (0, 65535)
  | some .byte => rngOK r (-128, 127)
  | _ => false
/-- a source of a new variable at an end -/
def srcT (S : AS) (q : Nat × Nat) : Option Tm := if q.1 = 999999 then (match S.2.2.1 with | a :: _ => if numA a = true then some a.2.1 else none | _ => none) else fGet S.2.2.2 q.1 q.2
def postFit (nv : Nat) (S : AS) (P : Post) : Bool := P.2.2.2.all (fun q => (srcT S q).isSome) &&
  bdLe S.1 (ids nv ++ P.2.2.2.map (fun q => (srcT S q).getD (0, 0))) P.1 && avsLe (ids nv ++ P.2.2.2.map (fun q => (srcT S q).getD (0, 0))) P.2.1 S.2.2.1 &&
  P.2.2.1.all (fun q => decide (fGet S.2.2.2 q.1 q.2.1 = some (sub (ids nv ++ P.2.2.2.map (fun q => (srcT S q).getD (0, 0))) q.2.2)) && decide (q.2.2.1 ≤ P.1.length))
def okRet (y nv : Nat) (posts : List Post) (i : Instr) (S : AS) : Bool := (match i with
  | .ireturn => (match S.2.2.1 with | [a] => a.1 == 1 && retTy y (trg S.1 a.2.1) | _ => false)
  | .lreturn => (match S.2.2.1 with | [a] => a.1 == 2 && decide (mRet y = some .long) | _ => false)
  | .return_ => S.2.2.1.isEmpty && decide (mRet y = none)
  | _ => false) && posts.any (postFit nv S)
def isRet (i : Instr) : Bool := match i with
  | .ireturn => true
  | .lreturn => true
  | .return_ => true
  | _ => false
def catA (a : AV) : Nat := if a.1 = 2 then 2 else if cat1 a = true then 1 else 100
def subW (V W : List (Nat × Nat)) : Bool := V.all (fun q => W.any (fun w => w.1 == q.1 && (w.2 == q.2 || w.2 == 999)))
def disW (SUP W : List (Nat × Nat)) : Bool := W.all (fun q => SUP.all (fun s => !(s.1 == q.1 && (s.2 == q.2 || s.2 == 999 || q.2 == 999))))
def slotsA : List AV → Nat
  | [] => 0
  | a :: l => (if a.1 = 2 then 2 else 1) + slotsA l
def recvA (c kd : Nat) (args : List AV) : Bool := if kd = 2 then true else match args with
  | a :: _ => a.1 == 3 && (if kd = 0 then (a.2.2.2.all (fun b => decide (b < OLDB) && decide (SHl[b]? = some (.inr (mCi c)))) && decide (mCi c < 8)) || (decide (mCi c = 9) && a.2.2.2.all (fun b => decide (OLDB + 3 ≤ b) && decide (b < OLDB + 8))) else a.2.2.2.all (fun b => decide (b < OLDB)))
  | [] => false
def refs (B : Bd) : List Tm → Bd → Option Bd
  | t :: σ, q :: C => (match refn B t q.1 q.2 with | some B' => refs B' σ C | none => none)
  | _, _ => some B
def argsA (S : AS) (na : Nat) : List AV := (S.2.2.1.take na).reverse
def sgA (T : Ctr) (S : AS) (na : Nat) : List Tm := (cV T).map (fun j => (vS S (argsA S na) (cF T) j).getD (0, 0))
def sgP (T : Ctr) (S : AS) (na : Nat) (P : Post) : List Tm := sgA T S na ++ (List.range (P.1.length - (cV T).length)).map (fun j => (S.1.length + 1 + j, 0))
/-- the states behind a call that ended so -/
def postS (T : Ctr) (S : AS) (na : Nat) (P : Post) : List AS := (refs S.1 (sgA T S na) P.1).toList.map (fun B1 =>
  (B1 ++ P.1.drop (cV T).length, S.2.1, P.2.1.map (subA (sgP T S na P)) ++ S.2.2.1.drop na, P.2.2.1.map (fun q => (q.1, q.2.1, sub (sgP T S na P) q.2.2)) ++ S.2.2.2.filter (fun q => !inW (cW T) q.1 q.2.1)))
/-- a call under a contract: the states that may come behind -/
def acall (D : Nat) (W : List (Nat × Nat)) (K : Bool) (S : AS) (c na kd : Nat) (T : Ctr) : Option (List AS) :=
  if cY T = c ∧ cD T + 1 ≤ D ∧ subW (cW T) W = true ∧ (cK T = false ∨ K = true) ∧ na ≤ S.2.2.1.length ∧ ((S.2.2.1.drop na).map catA).sum ≤ 8 ∧
    (S.2.2.1.take na).all (fun a => a.1 == 1 || a.1 == 2 || a.1 == 3) = true ∧ slotsA (argsA S na) ≤ mMaxL c ∧ recvA c kd (argsA S na) = true ∧
    (cV T).all (fun j => (vS S (argsA S na) (cF T) j).isSome) = true ∧ bdLe S.1 (sgA T S na) (cB T) = true ∧ avsLe (sgA T S na) (cA T) (argsA S na) = true ∧ fFit S (sgA T S na) (cB T).length (cF T) = true then
    some (((cP T).map (postS T S na)).flatten)
  else none
end
section
/-! Coming to an end. -/
theorem run_mono {X : Scr} : ∀ (n dp y pc : Nat) (L st : List Value) (h : Hp) (r : Option Value × Hp), run X n dp y pc L st h = some r → run X (n + 1) dp y pc L st h = some r
  | 0, _, _, _, _, _, _, _, hr => by cases hr
  | n + 1, dp, y, pc, L, st, h, r, hr => by
    rw [run] at hr ⊢
    split at hr
    · cases hr
    · rename_i pc0 i len o he
      try rw [he]
      try simp only
      split at hr
      · rename_i q hq
        try rw [hq]
        exact hr
      · rename_i hq
        try rw [hq]
        try simp only
        split at hr
        · rename_i c na kd hc
          try rw [hc]
          try simp only
          split at hr
          · cases hr
          · rename_i dp'
            obtain ⟨hok, hr⟩ := inv_if hr
            try simp only
            rw [if_pos hok]
            split at hr
            · rename_i rv h1 h1e
              rw [run_mono n _ _ _ _ _ _ _ h1e]
              exact run_mono n _ _ _ _ _ _ _ hr
            · cases hr
        · rename_i hc
          try rw [hc]
          try simp only
          split at hr
          · rename_i pc' L' st' h1 h1e
            try rw [h1e]
            exact run_mono n _ _ _ _ _ _ _ hr
          · cases hr
theorem run_le {X : Scr} {n m dp y pc : Nat} {L st : List Value} {h : Hp} {r : Option Value × Hp} (hnm : n ≤ m) (hr : run X n dp y pc L st h = some r) : run X m dp y pc L st h = some r := by
  induction hnm with
  | refl => exact hr
  | step _ ih => exact run_mono _ _ _ _ _ _ _ _ ih
def Ends (X : Scr) (dp y pc : Nat) (L st : List Value) (h : Hp) (Q : Option Value → Hp → Prop) : Prop := ∃ (n : Nat) (v : Option Value) (h' : Hp), run X n dp y pc L st h = some (v, h') ∧ Q v h'
theorem Ends.mono {X : Scr} {dp y pc : Nat} {L st : List Value} {h : Hp} {Q Q' : Option Value → Hp → Prop} (e : Ends X dp y pc L st h Q) (hq : ∀ v h', Q v h' → Q' v h') : Ends X dp y pc L st h Q' := by
  obtain ⟨n, v, h', hr, h1⟩ := e
  exact ⟨n, v, h', hr, hq v h' h1⟩
theorem Ends.ret {X : Scr} {dp y pc pc0 len : Nat} {i : Instr} {o : List Nat} {L st : List Value} {h : Hp} {Q : Option Value → Hp → Prop} {v : Option Value} (he : pAt y pc = some (pc0, i, len, o)) (hr : retO y i st h = some (some (v, h))) (hq : Q v h) : Ends X dp y pc L st h Q := by
  refine ⟨1, v, h, ?_, hq⟩
  rw [run, he]
  simp only
  rw [hr]
theorem Ends.step {X : Scr} {dp y pc pc0 len pc' : Nat} {i : Instr} {o : List Nat} {L st L' st' : List Value} {h h' : Hp} {Q : Option Value → Hp → Prop} (he : pAt y pc = some (pc0, i, len, o)) (hr : retO y i st h = none) (hc : callO i o = none) (hs : hstep X i o pc L st h = some (pc', L', st', h')) (e : Ends X dp y pc' L' st' h' Q) : Ends X dp y pc L st h Q := by
  obtain ⟨n, v, h2, h1, hq⟩ := e
  refine ⟨n + 1, v, h2, ?_, hq⟩
  rw [run, he]
  simp only
  rw [hr]
  simp only
  rw [hc]
  simp only
  rw [hs]
  exact h1
theorem Ends.call {X : Scr} {dp y pc pc0 len c na kd : Nat} {i : Instr} {o : List Nat} {L st : List Value} {h : Hp} {Q : Option Value → Hp → Prop} (he : pAt y pc = some (pc0, i, len, o)) (hr : retO y i st h = none) (hc : callO i o = some (c, na, kd)) (hok : callOK c na kd st h = true)
    (e : Ends X dp c 0 (entL (mMaxL c) (st.take na).reverse) [] h (fun rv h1 => Ends X (dp + 1) y (pc + 3) L (rv.toList ++ st.drop na) h1 Q)) : Ends X (dp + 1) y pc L st h Q := by
  obtain ⟨n, v, h2, h1, m, w, h3, h4, hq⟩ := e
  refine ⟨max n m + 1, w, h3, ?_, hq⟩
  rw [run, he]
  simp only
  rw [hr]
  simp only
  rw [hc]
  simp only
  rw [if_pos hok, run_le (Nat.le_max_left n m) h1]
  exact run_le (Nat.le_max_right n m) h4
/-- induction over lists of numbers of one length, the first place first -/
def lxl : List Nat → List Nat → Prop
  | a :: l, b :: m => (b < a ∧ m.length = l.length) ∨ (b = a ∧ lxl l m)
  | _, _ => False
theorem lx_ind {P : List Nat → Prop} (n : Nat) : ∀ (l : List Nat), l.length = n → (∀ l, l.length = n → (∀ m, m.length = n → lxl l m → P m) → P l) → P l := by
  induction n generalizing P with
  | zero =>
    intro l hl hP
    refine hP l hl (fun m _ hm => ?_)
    cases l with
    | nil => exact hm.elim
    | cons a l => simp at hl
  | succ n ih =>
    intro l hl hP
    have key : ∀ (a : Nat) (l : List Nat), l.length = n → P (a :: l) := by
      intro a
      induction a using Nat.strongRecOn with
      | ind a iha =>
        intro l hl
        refine ih (P := fun l => P (a :: l)) l hl (fun l hl hm => ?_)
        refine hP (a :: l) (by simp [hl]) (fun m hml hlx => ?_)
        cases m with
        | nil => exact hlx.elim
        | cons b m =>
          rcases hlx with ⟨h1, h2⟩ | ⟨rfl, h2⟩
          · exact iha b h1 m (h2.trans hl)
          · exact hm m (by simpa using hml) h2
    cases l with
    | nil => simp at hl
    | cons a l => exact key a l (by simpa using hl)
/-! patterns -/
theorem sub_ok {n : Nat} {ρ ρ' : Nat → Int} {σ : List Tm} (hσ : ∀ v, v < σ.length → tOK n ρ (σ.getD v (0, 0)) (ρ' v)) {t : Tm} {x : Int} (ht : t.1 ≤ σ.length) (h : tOK n ρ (sub σ t) x) : tOK σ.length ρ' t x := by
  obtain ⟨k, c⟩ := t
  refine ⟨ht, ?_⟩
  cases k with
  | zero => exact h.2
  | succ v =>
    have h1 := (hσ v ht).2
    have h2 := h.2
    show x = ρ' v + c
    rw [h1]
    have h3 : x = rv ρ (σ.getD v (0, 0)).1 + ((σ.getD v (0, 0)).2 + c) := h2
    show x = rv ρ (σ.getD v (0, 0)).1 + (σ.getD v (0, 0)).2 + c
    omega
theorem sub_ok2 {n : Nat} {ρ ρ' : Nat → Int} {σ : List Tm} (hσ : ∀ v, v < σ.length → tOK n ρ (σ.getD v (0, 0)) (ρ' v)) {t : Tm} {x : Int} (h : tOK σ.length ρ' t x) : tOK n ρ (sub σ t) x := by
  obtain ⟨k, c⟩ := t
  cases k with
  | zero => exact ⟨Nat.zero_le _, h.2⟩
  | succ v =>
    have h1 := hσ v h.1
    have h2 : x = ρ' v + c := h.2
    have h3 : ρ' v = rv ρ (σ.getD v (0, 0)).1 + (σ.getD v (0, 0)).2 := h1.2
    refine ⟨h1.1, ?_⟩
    show x = rv ρ (σ.getD v (0, 0)).1 + ((σ.getD v (0, 0)).2 + c)
    omega
theorem bdLe_len {B : Bd} : ∀ {σ : List Tm} {C : Bd}, bdLe B σ C = true → σ.length = C.length
  | [], [], _ => rfl
  | t :: σ, q :: C, h => by
    have := bdLe_len ((Bool.and_eq_true _ _).mp h).2
    simp [this]
  | [], _ :: _, h => by cases h
  | _ :: _, [], h => by cases h
theorem bdLe_ok {B : Bd} : ∀ {σ : List Tm} {C : Bd}, bdLe B σ C = true → ∀ v, v < σ.length → ∃ q, C[v]? = some q ∧ rngOK (trg B (σ.getD v (0, 0))) q = true
  | t :: σ, q :: C, h, 0, _ => ⟨q, rfl, ((Bool.and_eq_true _ _).mp h).1⟩
  | t :: σ, q :: C, h, v + 1, hv => by
    obtain ⟨p, h1, h2⟩ := bdLe_ok ((Bool.and_eq_true _ _).mp h).2 v (by simpa using hv)
    exact ⟨p, by simpa using h1, by simpa using h2⟩
  | [], _, _, _, hv => absurd hv (by simp)
  | _ :: _, [], h, _, _ => by cases h
/-- terms give numbers to the pattern's variables -/
theorem bd_of {B : Bd} {ρ ρ' : Nat → Int} {σ : List Tm} {C : Bd} (hb : bOK ρ B) (hσ : ∀ v, v < σ.length → tOK B.length ρ (σ.getD v (0, 0)) (ρ' v)) (h : bdLe B σ C = true) : bOK ρ' C := by
  intro v q hq
  have hv : v < σ.length := by rw [bdLe_len h]; exact (List.getElem?_eq_some_iff.mp hq).1
  obtain ⟨p, h1, h2⟩ := bdLe_ok h v hv
  cases hq.symm.trans h1
  have := tOK_rg hb (hσ v hv)
  exact rng_ok h2 this.1 this.2
end
section
/-! What fits a pattern is of it. -/
theorem avLe_ok {n : Nat} {ρ ρ' : Nat → Int} {σ : List Tm} (hσ : ∀ v, v < σ.length → tOK n ρ (σ.getD v (0, 0)) (ρ' v)) {a s : AV} {v : Value} (h : avLe σ a s = true) (hv : vm n ρ s v) : vm σ.length ρ' a v := by
  obtain ⟨k, t, u, l⟩ := a
  match k, h with
  | 0, h => exact vm_cat h hv
  | 1, h =>
    simp only [avLe, Bool.and_eq_true, beq_iff_eq, decide_eq_true_eq] at h
    obtain ⟨⟨h1, h2⟩, h3⟩ := h
    obtain ⟨x, rfl, hx⟩ := vm1 h1 hv
    rw [h2] at hx
    exact ⟨x, rfl, sub_ok hσ h3 hx⟩
  | 2, h =>
    simp only [avLe, Bool.and_eq_true, beq_iff_eq, decide_eq_true_eq] at h
    obtain ⟨⟨h1, h2⟩, h3⟩ := h
    obtain ⟨x, rfl, hx⟩ := vm2 h1 hv
    rw [h2] at hx
    exact ⟨x, rfl, sub_ok hσ h3 hx⟩
  | 3, h =>
    simp only [avLe, Bool.and_eq_true, beq_iff_eq, List.all_eq_true] at h
    obtain ⟨h1, h2⟩ := h
    obtain ⟨b, rfl, hb⟩ := vm3 h1 hv
    exact ⟨b, rfl, by simpa using h2 b hb⟩
  | 4, h => cases h
  | _ + 5, _ => trivial
theorem avsLe_ok {n : Nat} {ρ ρ' : Nat → Int} {σ : List Tm} (hσ : ∀ v, v < σ.length → tOK n ρ (σ.getD v (0, 0)) (ρ' v)) : ∀ {A S : List AV} {L : List Value}, avsLe σ A S = true → al2 (vm n ρ) S L → al2 (vm σ.length ρ') A L
  | [], [], [], _, _ => trivial
  | a :: A, s :: S, v :: L, h, g => ⟨avLe_ok hσ ((Bool.and_eq_true _ _).mp h).1 g.1, avsLe_ok hσ ((Bool.and_eq_true _ _).mp h).2 g.2⟩
  | [], _ :: _, _, h, _ => by cases h
  | _ :: _, [], _, h, _ => by cases h
  | [], [], _ :: _, _, g => g.elim
  | _ :: _, _ :: _, [], _, g => g.elim
theorem num_t {n : Nat} {ρ : Nat → Int} {a : AV} {v : Value} (ha : numA a = true) (h : vm n ρ a v) : a.2.1.1 ≤ n := by
  rcases (Bool.or_eq_true _ _).mp ha with h1 | h1
  · obtain ⟨x, -, hx⟩ := vm1 (by simpa using h1) h
    exact hx.1
  · obtain ⟨x, -, hx⟩ := vm2 (by simpa using h1) h
    exact hx.1
theorem num_at {n : Nat} {ρ : Nat → Int} {A : List AV} {L : List Value} (g : al2 (vm n ρ) A L) {k : Nat} (h : numA (A.getD k jT) = true) : (A.getD k jT).2.1.1 ≤ n ∧ ∃ v, L[k]? = some v ∧ vm n ρ (A.getD k jT) v := by
  cases e : A[k]? with
  | none =>
    rw [List.getD_eq_getElem?_getD, e] at h
    cases h
  | some a =>
    obtain ⟨v, h1, h2⟩ := al2_get g e
    have e2 : A.getD k jT = a := by rw [List.getD_eq_getElem?_getD, e]; rfl
    rw [e2] at h ⊢
    exact ⟨num_t h h2, v, h1, h2⟩
theorem ids_at {n v : Nat} {l : List Tm} (hv : v < n) : (ids n ++ l).getD v (0, 0) = (v + 1, 0) := by
  unfold ids
  rw [List.getD_eq_getElem?_getD, List.getElem?_append_left (by simpa using hv), List.getElem?_map, List.getElem?_range hv]
  rfl
theorem ids_len {n : Nat} {l : List Tm} : (ids n ++ l).length = n + l.length := by simp [ids]
theorem sig_ok {n nv : Nat} {ρ : Nat → Int} {rest : List Tm} (hn : nv ≤ n) (hr : ∀ t ∈ rest, t.1 ≤ n) : (∀ v, v < (ids nv ++ rest).length → tOK n ρ ((ids nv ++ rest).getD v (0, 0)) (ev ρ ((ids nv ++ rest).getD v (0, 0)))) ∧ ext nv ρ (fun v => ev ρ ((ids nv ++ rest).getD v (0, 0))) := by
  constructor
  · intro v hv
    refine ⟨?_, rfl⟩
    by_cases h : v < nv
    · rw [ids_at h]
      show v + 1 ≤ n
      omega
    · have hl : (ids nv).length = nv := by simp [ids]
      have h2 : v - nv < rest.length := by rw [ids_len] at hv; omega
      have e : (ids nv ++ rest).getD v (0, 0) = rest[v - nv] := by
        rw [List.getD_eq_getElem?_getD, List.getElem?_append_right (by omega), hl, List.getElem?_eq_getElem h2]
        rfl
      rw [e]
      exact hr _ (List.getElem_mem h2)
  · intro v hv
    show ev ρ ((ids nv ++ rest).getD v (0, 0)) = ρ v
    rw [ids_at hv]
    show ρ v + 0 = ρ v
    omega
theorem vS_ok {ρ : Nat → Int} {S : AS} {L M st : List Value} {h : Hp} {l : List AV} {F : List (Nat × Nat × Tm)} {j : Nat} {t : Tm} (g : gam ρ S L st h) (gl : al2 (vm S.1.length ρ) l M) (ht : vS S l F j = some t) : t.1 ≤ S.1.length := by
  unfold vS at ht
  split at ht
  · obtain ⟨h1, ht⟩ := inv_if ht
    cases ht
    exact (num_at gl h1).1
  · split at ht
    · exact (g.2.2.2 _ (fGet_in ht)).1.1
    · cases ht
theorem fFit_ok {ρ ρ' : Nat → Int} {S : AS} {L st : List Value} {h : Hp} {σ : List Tm} {n : Nat} {F : List (Nat × Nat × Tm)} (g : gam ρ S L st h) (hσ : ∀ v, v < σ.length → tOK S.1.length ρ (σ.getD v (0, 0)) (ρ' v)) (hn : σ.length = n) (hf : fFit S σ n F = true) :
    ∀ q ∈ F, tOK n ρ' q.2.2 (h.2.1 q.1 q.2.1).toInt ∧ ∃ ci, SHl[q.1]? = some (.inr ci) := by
  intro q hq
  have h5 := List.all_eq_true.mp hf q hq
  simp only [Bool.and_eq_true, decide_eq_true_eq] at h5
  have h6 := g.2.2.2 _ (fGet_in h5.1)
  refine ⟨?_, h6.2⟩
  rw [← hn]
  exact sub_ok hσ (by rw [hn]; exact h5.2) h6.1
theorem cutFit_ok {nv : Nat} {ρ : Nat → Int} {S : AS} {L st : List Value} {h : Hp} {C : Cut} (g : gam ρ S L st h) (hn : nv ≤ S.1.length) (hf : cutFit nv S C = true) :
    ∃ ρ', ext nv ρ ρ' ∧ gam ρ' (C.2.1, C.2.2.1, [], kF C) L [] h ∧ st = [] ∧ nv ≤ C.2.1.length := by
  unfold cutFit at hf
  obtain ⟨h1234, h5⟩ := (Bool.and_eq_true _ _).mp hf
  obtain ⟨h123, h4⟩ := (Bool.and_eq_true _ _).mp h1234
  obtain ⟨h12, h3⟩ := (Bool.and_eq_true _ _).mp h123
  obtain ⟨h1, h2⟩ := (Bool.and_eq_true _ _).mp h12
  have hst : st = [] := by
    have e : S.2.2.1 = [] := by simpa using h1
    have := al2_len g.2.2.1
    rw [e] at this
    exact List.length_eq_zero_iff.mp this.symm
  obtain ⟨k1, k2⟩ := sig_ok (ρ := ρ) (rest := C.2.2.2.1.map (fun k => (vS S S.2.1 (kF C) k).getD (0, 0))) hn (fun t ht => by
    obtain ⟨k, hk, rfl⟩ := List.mem_map.mp ht
    obtain ⟨t, ht⟩ := Option.isSome_iff_exists.mp (List.all_eq_true.mp h2 k hk)
    rw [ht]
    exact vS_ok g g.2.1 ht)
  have hl := bdLe_len h3
  refine ⟨_, k2, ⟨bd_of g.1 k1 h3, ?_, trivial, fFit_ok g k1 hl h5⟩, hst, ?_⟩
  · show al2 (vm C.2.1.length _) C.2.2.1 L
    rw [← hl]
    exact avsLe_ok k1 h4 g.2.1
  · rw [← hl]
    unfold cutSg
    rw [ids_len]
    omega
def Qpost (nv : Nat) (ρ0 : Nat → Int) (posts : List Post) (v : Option Value) (h' : Hp) : Prop :=
  ∃ P ∈ posts, ∃ ρ', ext nv ρ0 ρ' ∧ bOK ρ' P.1 ∧ nv ≤ P.1.length ∧ al2 (vm P.1.length ρ') P.2.1 v.toList ∧ ∀ q ∈ P.2.2.1, tOK P.1.length ρ' q.2.2 (h'.2.1 q.1 q.2.1).toInt ∧ ∃ ci, SHl[q.1]? = some (.inr ci)
theorem postFit_ok {nv : Nat} {ρ0 ρ : Nat → Int} {S : AS} {L : List Value} {h : Hp} {v : Option Value} {posts : List Post} (g : gam ρ S L v.toList h) (hn : nv ≤ S.1.length) (he : ext nv ρ0 ρ) (hf : posts.any (postFit nv S) = true) : Qpost nv ρ0 posts v h := by
  obtain ⟨P, hP, hf⟩ := List.any_eq_true.mp hf
  unfold postFit at hf
  obtain ⟨h123, h4⟩ := (Bool.and_eq_true _ _).mp hf
  obtain ⟨h12, h3⟩ := (Bool.and_eq_true _ _).mp h123
  obtain ⟨h1, h2⟩ := (Bool.and_eq_true _ _).mp h12
  obtain ⟨k1, k2⟩ := sig_ok (ρ := ρ) (rest := P.2.2.2.map (fun q => (srcT S q).getD (0, 0))) hn (fun t ht => by
    obtain ⟨q, hq, rfl⟩ := List.mem_map.mp ht
    obtain ⟨t, ht⟩ := Option.isSome_iff_exists.mp (List.all_eq_true.mp h1 q hq)
    rw [ht]
    show t.1 ≤ _
    unfold srcT at ht
    split at ht
    · split at ht
      · rename_i a A hA
        obtain ⟨ha, ht⟩ := inv_if ht
        cases ht
        have g3 := g.2.2.1
        rw [hA] at g3
        obtain ⟨w, _, -, hw, -⟩ := al2_cons g3
        exact num_t ha hw
      · cases ht
    · exact (g.2.2.2 _ (fGet_in ht)).1.1)
  have hl := bdLe_len h2
  refine ⟨P, hP, _, ext_trans (Nat.le_refl _) he k2, bd_of g.1 k1 h2, ?_, ?_, fun q hq => ?_⟩
  · rw [← hl, ids_len]
    omega
  · rw [← hl]
    exact avsLe_ok k1 h3 g.2.2.1
  · have h5 := List.all_eq_true.mp h4 q hq
    simp only [Bool.and_eq_true, decide_eq_true_eq] at h5
    have h6 := g.2.2.2 _ (fGet_in h5.1)
    refine ⟨?_, h6.2⟩
    rw [← hl]
    exact sub_ok k1 (by rw [hl]; exact h5.2) h6.1
/-- a measure's numbers -/
def intV (v : Value) : Int := match v with
  | .int x => x.toInt
  | .long x => x.toInt
  | _ => 0
def mOne (L : List Value) (x : Nat × Nat × Int) : Nat := match x.1 with
  | 0 => x.2.2.toNat
  | 1 => (x.2.2 - intV (L.getD x.2.1 (.retAddr 0))).toNat
  | _ => (intV (L.getD x.2.1 (.retAddr 0)) - x.2.2).toNat
theorem num_val {n : Nat} {ρ : Nat → Int} {A : List AV} {L : List Value} (g : al2 (vm n ρ) A L) {k : Nat} (h : numA (A.getD k jT) = true) : tOK n ρ (A.getD k jT).2.1 (intV (L.getD k (.retAddr 0))) := by
  obtain ⟨-, v, e, hv⟩ := num_at g h
  have e2 : L.getD k (.retAddr 0) = v := by rw [List.getD_eq_getElem?_getD, e]; rfl
  rw [e2]
  rcases (Bool.or_eq_true _ _).mp h with h1 | h1
  · obtain ⟨x, rfl, hx⟩ := vm1 (by simpa using h1) hv
    exact hx
  · obtain ⟨x, rfl, hx⟩ := vm2 (by simpa using h1) hv
    exact hx
end
section
/-! The measure goes down. -/
theorem mcmp_ok {n : Nat} {B : Bd} {ρ : Nat → Int} {L0 L1 : List Value} {A0 A1 : List AV} {x y : Nat × Nat × Int} (hn : n = B.length) (hb : bOK ρ B) (g0 : x.1 = 0 ∨ tOK n ρ (A0.getD x.2.1 jT).2.1 (intV (L0.getD x.2.1 (.retAddr 0)))) (g1 : y.1 = 0 ∨ tOK n ρ (A1.getD y.2.1 jT).2.1 (intV (L1.getD y.2.1 (.retAddr 0)))) :
    (mcmp B x.1 x.2.2 (A0.getD x.2.1 jT).2.1 y.1 y.2.2 (A1.getD y.2.1 jT).2.1 = 0 → mOne L1 y = mOne L0 x) ∧ (mcmp B x.1 x.2.2 (A0.getD x.2.1 jT).2.1 y.1 y.2.2 (A1.getD y.2.1 jT).2.1 = 1 → mOne L1 y < mOne L0 x) := by
  subst hn
  obtain ⟨k0, a0, c0⟩ := x
  obtain ⟨k1, a1, c1⟩ := y
  simp only at g0 g1 ⊢
  generalize (A0.getD a0 jT).2.1 = t0 at g0 ⊢
  generalize (A1.getD a1 jT).2.1 = t1 at g1 ⊢
  generalize e0 : intV (L0.getD a0 (.retAddr 0)) = x0 at g0
  generalize e1 : intV (L1.getD a1 (.retAddr 0)) = x1 at g1
  match k0, k1 with
  | 0, 0 =>
    show ((if c0.toNat = c1.toNat then 0 else if c1.toNat < c0.toNat then 1 else 2) = 0 → c1.toNat = c0.toNat) ∧ ((if c0.toNat = c1.toNat then 0 else if c1.toNat < c0.toNat then 1 else 2) = 1 → c1.toNat < c0.toNat)
    constructor <;> intro h <;> split at h <;> first | omega | (split at h <;> omega)
  | 1, 1 =>
    have g0 : tOK B.length ρ t0 x0 := g0.resolve_left (by decide)
    have g1 : tOK B.length ρ t1 x1 := g1.resolve_left (by decide)
    have r1 := tOK_rg hb g1
    have v0 : x0 = rv ρ t0.1 + t0.2 := g0.2
    have v1 : x1 = rv ρ t1.1 + t1.2 := g1.2
    show ((if t0.1 = t1.1 then (if c0 - t0.2 = c1 - t1.2 then 0 else if c1 - t1.2 < c0 - t0.2 ∧ thi B t1 ≤ c1 then 1 else 2) else 2) = 0 → (c1 - intV (L1.getD a1 (.retAddr 0))).toNat = (c0 - intV (L0.getD a0 (.retAddr 0))).toNat) ∧
      ((if t0.1 = t1.1 then (if c0 - t0.2 = c1 - t1.2 then 0 else if c1 - t1.2 < c0 - t0.2 ∧ thi B t1 ≤ c1 then 1 else 2) else 2) = 1 → (c1 - intV (L1.getD a1 (.retAddr 0))).toNat < (c0 - intV (L0.getD a0 (.retAddr 0))).toNat)
    rw [e0, e1]
    by_cases hv : t0.1 = t1.1
    · rw [if_pos hv]
      rw [hv] at v0
      constructor <;> intro h <;> split at h <;> first | omega | (split at h <;> omega)
    · rw [if_neg hv]
      constructor <;> intro h <;> omega
  | 2, 2 =>
    have g0 : tOK B.length ρ t0 x0 := g0.resolve_left (by decide)
    have g1 : tOK B.length ρ t1 x1 := g1.resolve_left (by decide)
    have r1 := tOK_rg hb g1
    have v0 : x0 = rv ρ t0.1 + t0.2 := g0.2
    have v1 : x1 = rv ρ t1.1 + t1.2 := g1.2
    show ((if t0.1 = t1.1 then (if t0.2 - c0 = t1.2 - c1 then 0 else if t1.2 - c1 < t0.2 - c0 ∧ c1 ≤ tlo B t1 then 1 else 2) else 2) = 0 → (intV (L1.getD a1 (.retAddr 0)) - c1).toNat = (intV (L0.getD a0 (.retAddr 0)) - c0).toNat) ∧
      ((if t0.1 = t1.1 then (if t0.2 - c0 = t1.2 - c1 then 0 else if t1.2 - c1 < t0.2 - c0 ∧ c1 ≤ tlo B t1 then 1 else 2) else 2) = 1 → (intV (L1.getD a1 (.retAddr 0)) - c1).toNat < (intV (L0.getD a0 (.retAddr 0)) - c0).toNat)
    rw [e0, e1]
    by_cases hv : t0.1 = t1.1
    · rw [if_pos hv]
      rw [hv] at v0
      constructor <;> intro h <;> split at h <;> first | omega | (split at h <;> omega)
    · rw [if_neg hv]
      constructor <;> intro h <;> omega
  | 0, 1 => exact ⟨fun h => (by cases h), fun h => (by cases h)⟩
  | 0, k + 2 => exact ⟨fun h => (by cases h), fun h => (by cases h)⟩
  | 1, 0 => exact ⟨fun h => (by cases h), fun h => (by cases h)⟩
  | 1, k + 2 => exact ⟨fun h => (by cases h), fun h => (by cases h)⟩
  | 2, 0 => exact ⟨fun h => (by cases h), fun h => (by cases h)⟩
  | 2, 1 => exact ⟨fun h => (by cases h), fun h => (by cases h)⟩
  | 2, k + 3 => exact ⟨fun h => (by cases h), fun h => (by cases h)⟩
  | k + 3, 0 => exact ⟨fun h => (by cases h), fun h => (by cases h)⟩
  | k + 3, 1 => exact ⟨fun h => (by cases h), fun h => (by cases h)⟩
  | k + 3, 2 => exact ⟨fun h => (by cases h), fun h => (by cases h)⟩
  | k + 3, j + 3 => exact ⟨fun h => (by cases h), fun h => (by cases h)⟩
theorem mlt_ok {n0 : Nat} {B : Bd} {ρ0 ρ : Nat → Int} {L0 L1 : List Value} {A0 A1 : List AV} (hb : bOK ρ B) (h0 : al2 (vm n0 ρ0) A0 L0) (h1 : al2 (vm B.length ρ) A1 L1) (hn : n0 ≤ B.length) (he : ext n0 ρ0 ρ) :
    ∀ {l m : List (Nat × Nat × Int)}, mlt B A0 A1 l m = true → lxl (l.map (mOne L0)) (m.map (mOne L1))
  | x :: l, y :: m, h => by
    unfold mlt at h
    obtain ⟨h12, h3⟩ := (Bool.and_eq_true _ _).mp h
    obtain ⟨ha, hc⟩ := (Bool.and_eq_true _ _).mp h12
    have g0 : x.1 = 0 ∨ tOK B.length ρ (A0.getD x.2.1 jT).2.1 (intV (L0.getD x.2.1 (.retAddr 0))) := by
      rcases (Bool.or_eq_true _ _).mp ha with q | q
      · exact Or.inl (by simpa using q)
      · exact Or.inr (tOK_ext hn he (num_val h0 q))
    have g1 : y.1 = 0 ∨ tOK B.length ρ (A1.getD y.2.1 jT).2.1 (intV (L1.getD y.2.1 (.retAddr 0))) := by
      rcases (Bool.or_eq_true _ _).mp hc with q | q
      · exact Or.inl (by simpa using q)
      · exact Or.inr (num_val h1 q)
    obtain ⟨c0, c1⟩ := mcmp_ok (L0 := L0) (L1 := L1) (A0 := A0) (A1 := A1) (x := x) (y := y) rfl hb g0 g1
    split at h3
    · rename_i e
      exact Or.inr ⟨c0 e, mlt_ok hb h0 h1 hn he h3⟩
    · rename_i e
      refine Or.inl ⟨c1 e, ?_⟩
      have : l.length = m.length := by simpa using h3
      simp [this]
    · cases h3
  | [], _, h => by cases h
  | _ :: _, [], h => by cases h
end
section
/-! A call under a contract. -/
def Good (J : JV) (T : Ctr) : Prop := ∀ (X : Scr) (dp : Nat) (ρ : Nat → Int) (h : Hp) (as : List Value), cD T ≤ dp → HI h → (cK T = true → J.1 h) → bOK ρ (cB T) → al2 (vm (cB T).length ρ) (cA T) as → (∀ q ∈ cF T, tOK (cB T).length ρ q.2.2 (h.2.1 q.1 q.2.1).toInt ∧ ∃ ci, SHl[q.1]? = some (.inr ci)) →
  Ends X dp (cY T) 0 (entL (mMaxL (cY T)) as) [] h (fun v h' => HI h' ∧ frm (cW T) h h' ∧ Qpost (cB T).length ρ (cP T) v h')
theorem al2_app {P : AV → Value → Prop} : ∀ {A C : List AV} {L M : List Value}, al2 P A L → al2 P C M → al2 P (A ++ C) (L ++ M)
  | [], _, [], _, _, h2 => h2
  | a :: A, C, v :: L, M, h1, h2 => ⟨h1.1, al2_app h1.2 h2⟩
  | [], _, _ :: _, _, h, _ => h.elim
  | _ :: _, _, [], _, h, _ => h.elim
theorem al2_take {P : AV → Value → Prop} : ∀ {A : List AV} {L : List Value} (n : Nat), al2 P A L → al2 P (A.take n) (L.take n)
  | _, _, 0, _ => by simp [al2]
  | [], [], n + 1, _ => by simp [al2]
  | a :: A, v :: L, n + 1, h => ⟨h.1, al2_take n h.2⟩
  | [], _ :: _, _ + 1, h => h.elim
  | _ :: _, [], _ + 1, h => h.elim
theorem al2_drop {P : AV → Value → Prop} : ∀ {A : List AV} {L : List Value} (n : Nat), al2 P A L → al2 P (A.drop n) (L.drop n)
  | _, _, 0, h => h
  | [], [], n + 1, _ => by simp [al2]
  | a :: A, v :: L, n + 1, h => al2_drop (A := A) (L := L) n h.2
  | [], _ :: _, _ + 1, h => h.elim
  | _ :: _, [], _ + 1, h => h.elim
theorem al2_rev {P : AV → Value → Prop} : ∀ {A : List AV} {L : List Value}, al2 P A L → al2 P A.reverse L.reverse
  | [], [], _ => trivial
  | a :: A, v :: L, h => by
    rw [List.reverse_cons, List.reverse_cons]
    exact al2_app (al2_rev h.2) ⟨h.1, trivial⟩
  | [], _ :: _, h => h.elim
  | _ :: _, [], h => h.elim
theorem cat_le {n : Nat} {ρ : Nat → Int} {a : AV} {v : Value} (h : vm n ρ a v) : v.category ≤ catA a := by
  unfold catA
  by_cases h2 : a.1 = 2
  · rw [if_pos h2]
    obtain ⟨x, rfl, -⟩ := vm2 h2 h
    exact Nat.le_refl _
  · rw [if_neg h2]
    by_cases h1 : cat1 a = true
    · rw [if_pos h1, vm_cat h1 h]
      exact Nat.le_refl _
    · rw [if_neg h1]
      cases v <;> simp [Value.category]
theorem catSum_le {n : Nat} {ρ : Nat → Int} : ∀ {A : List AV} {L : List Value}, al2 (vm n ρ) A L → catSum L ≤ (A.map catA).sum
  | [], [], _ => Nat.le_refl _
  | a :: A, v :: L, h => by
    have h1 := cat_le h.1
    have h2 := catSum_le h.2
    have e : catSum (v :: L) = v.category + catSum L := by simp [catSum]
    rw [e, List.map_cons, List.sum_cons]
    omega
  | [], _ :: _, h => h.elim
  | _ :: _, [], h => h.elim
def tg3 (a : AV) : Bool := a.1 == 1 || a.1 == 2 || a.1 == 3
theorem tg3_of {n : Nat} {ρ : Nat → Int} {a : AV} {v : Value} (ha : tg3 a = true) (h : vm n ρ a v) : argOK v = true ∧ (v.category = 2 ↔ a.1 = 2) := by
  unfold tg3 at ha
  simp only [Bool.or_eq_true, beq_iff_eq] at ha
  rcases ha with (h1 | h1) | h1
  · obtain ⟨x, rfl, -⟩ := vm1 h1 h
    exact ⟨rfl, by rw [h1]; exact ⟨fun e => (by cases e), fun e => (by cases e)⟩⟩
  · obtain ⟨x, rfl, -⟩ := vm2 h1 h
    exact ⟨rfl, by rw [h1]; exact ⟨fun _ => rfl, fun _ => rfl⟩⟩
  · obtain ⟨x, rfl, -⟩ := vm3 h1 h
    exact ⟨rfl, by rw [h1]; exact ⟨fun e => (by cases e), fun e => (by cases e)⟩⟩
theorem args_ok {n : Nat} {ρ : Nat → Int} : ∀ {A : List AV} {L : List Value}, al2 (vm n ρ) A L → A.all tg3 = true → L.all argOK = true ∧ (entL0 L).length = slotsA A
  | [], [], _, _ => ⟨rfl, rfl⟩
  | a :: A, v :: L, h, ha => by
    obtain ⟨h1, h2⟩ := (Bool.and_eq_true _ _).mp ha
    obtain ⟨e1, e2⟩ := tg3_of h1 h.1
    obtain ⟨i1, i2⟩ := args_ok h.2 h2
    refine ⟨Bool.and_eq_true _ _ |>.mpr ⟨e1, i1⟩, ?_⟩
    unfold entL0 slotsA
    by_cases hc : v.category = 2
    · rw [if_pos hc, if_pos (e2.mp hc)]
      simp only [List.length_cons]
      omega
    · rw [if_neg hc, if_neg (fun q => hc (e2.mpr q))]
      simp only [List.length_cons]
      omega
  | [], _ :: _, h, _ => h.elim
  | _ :: _, [], h, _ => h.elim
theorem recv_ok {n : Nat} {ρ : Nat → Int} {h : Hp} {c kd : Nat} {A : List AV} {L : List Value} (hh : HI h) (g : al2 (vm n ρ) A L) (hr : recvA c kd A = true) : (if kd = 2 then true else match (generalizing := false) L with
    | v :: _ => if kd = 0 then recvOK c h v else (match (generalizing := false) v with | .ref a => decide (a < OLDB) | _ => false)
    | [] => false) = true := by
  unfold recvA at hr
  by_cases h2 : kd = 2
  · rw [if_pos h2]
  · rw [if_neg h2] at hr ⊢
    match A, L, g, hr with
    | a :: A, v :: L, g, hr =>
      obtain ⟨h3, hr⟩ := (Bool.and_eq_true _ _).mp hr
      obtain ⟨b, rfl, hb⟩ := vm3 (by simpa using h3) g.1
      by_cases h0 : kd = 0
      · rw [if_pos h0] at hr
        show (if kd = 0 then recvOK c h (.ref b) else _) = true
        rw [if_pos h0]
        unfold recvOK
        rcases (Bool.or_eq_true _ _).mp hr with hr | hr
        · obtain ⟨r1, r2⟩ := (Bool.and_eq_true _ _).mp hr
          have r3 := List.all_eq_true.mp r1 b hb
          obtain ⟨r4, r5⟩ := (Bool.and_eq_true _ _).mp r3
          simp only
          rw [if_pos (of_decide_eq_true r4), hh.1]
          exact Bool.and_eq_true _ _ |>.mpr ⟨r5, r2⟩
        · obtain ⟨r1, r2⟩ := (Bool.and_eq_true _ _).mp hr
          have r3 := List.all_eq_true.mp r2 b hb
          obtain ⟨r4, r5⟩ := (Bool.and_eq_true _ _).mp r3
          have r6 : ¬ b < OLDB := fun q => by
            have := of_decide_eq_true r4
            omega
          simp only
          rw [if_neg r6, r1, r4, r5]
          rfl
      · rw [if_neg h0] at hr
        show (if kd = 0 then _ else decide (b < OLDB)) = true
        rw [if_neg h0]
        exact List.all_eq_true.mp hr b hb
    | [], _, _, hr => cases hr
    | _ :: _, [], g, _ => exact g.elim
theorem refs_ok {ρ : Nat → Int} {x : Nat → Int} : ∀ {σ : List Tm} {B C : Bd} (k : Nat), bOK ρ B → (∀ v, v < σ.length → tOK B.length ρ (σ.getD v (0, 0)) (x (k + v))) → (∀ v q, v < σ.length → C[v]? = some q → q.1 ≤ x (k + v) ∧ x (k + v) ≤ q.2) → ∃ B', refs B σ C = some B' ∧ bOK ρ B' ∧ B'.length = B.length
  | [], B, C, k, hb, _, _ => ⟨B, by unfold refs; rfl, hb, rfl⟩
  | t :: σ, B, [], k, hb, _, _ => ⟨B, by unfold refs; rfl, hb, rfl⟩
  | t :: σ, B, q :: C, k, hb, h1, h2 => by
    have a1 := h1 0 (by simp)
    have a2 := h2 0 q (by simp) rfl
    obtain ⟨B1, e1, b1, n1⟩ := refn_ok hb a1 a2.1 a2.2
    obtain ⟨B2, e2, b2, n2⟩ := refs_ok (σ := σ) (C := C) (k + 1) b1 (fun v hv => by
      have := h1 (v + 1) (by simpa using hv)
      rw [n1, show k + 1 + v = k + (v + 1) by omega]
      simpa using this) (fun v p hv hp => by
      have := h2 (v + 1) p (by simpa using hv) (by simpa using hp)
      rw [show k + 1 + v = k + (v + 1) by omega]
      exact this)
    refine ⟨B2, ?_, b2, n2.trans n1⟩
    unfold refs
    have e1 : refn B t q.1 q.2 = some B1 := e1
    rw [e1]
    exact e2
theorem subA_ok {n : Nat} {ρ ρ' : Nat → Int} {σ : List Tm} (hσ : ∀ v, v < σ.length → tOK n ρ (σ.getD v (0, 0)) (ρ' v)) {a : AV} {v : Value} (h : vm σ.length ρ' a v) : vm n ρ (subA σ a) v := by
  obtain ⟨k, t, u, l⟩ := a
  match k, h with
  | 0, h => exact h
  | 1, ⟨x, e, h⟩ => exact ⟨x, e, sub_ok2 hσ h⟩
  | 2, ⟨x, e, h⟩ => exact ⟨x, e, sub_ok2 hσ h⟩
  | 3, h => exact h
  | 4, ⟨x, y, e, h, h'⟩ => exact ⟨x, y, e, sub_ok2 hσ h, sub_ok2 hσ h'⟩
  | _ + 5, _ => trivial
theorem subAs_ok {n : Nat} {ρ ρ' : Nat → Int} {σ : List Tm} (hσ : ∀ v, v < σ.length → tOK n ρ (σ.getD v (0, 0)) (ρ' v)) : ∀ {A : List AV} {L : List Value}, al2 (vm σ.length ρ') A L → al2 (vm n ρ) (A.map (subA σ)) L
  | [], [], _ => trivial
  | a :: A, v :: L, h => ⟨subA_ok hσ h.1, subAs_ok hσ h.2⟩
  | [], _ :: _, h => h.elim
  | _ :: _, [], h => h.elim
theorem subW_ok {V W : List (Nat × Nat)} (h : subW V W = true) {a k : Nat} (hk : inW W a k = false) : inW V a k = false := by
  cases e : inW V a k with
  | false => rfl
  | true =>
    obtain ⟨q, hq, hm⟩ := List.any_eq_true.mp e
    obtain ⟨w, hw, hm2⟩ := List.any_eq_true.mp (List.all_eq_true.mp h q hq)
    have : inW W a k = true := by
      refine List.any_eq_true.mpr ⟨w, hw, ?_⟩
      simp only [Bool.and_eq_true, Bool.or_eq_true, beq_iff_eq] at hm hm2 ⊢
      omega
    rw [this] at hk
    cases hk
theorem frm_sub {V W : List (Nat × Nat)} {h h' : Hp} (hs : subW V W = true) (hf : frm V h h') : frm W h h' := fun a k hk => hf a k (subW_ok hs hk)
theorem frm_trans {W : List (Nat × Nat)} {h h' h'' : Hp} (h1 : frm W h h') (h2 : frm W h' h'') : frm W h h'' := fun a k hk => ⟨(h2 a k hk).1.trans (h1 a k hk).1, (h2 a k hk).2.1.trans (h1 a k hk).2.1, (h2 a k hk).2.2.trans (h1 a k hk).2.2⟩
end
section
theorem getD_map_A {l : List Nat} {f : Nat → Tm} {v : Nat} (hv : v < l.length) : (l.map f).getD v (0, 0) = f (l.getD v 0) := by
  rw [List.getD_eq_getElem?_getD, List.getElem?_map, List.getElem?_eq_getElem hv, List.getD_eq_getElem?_getD, List.getElem?_eq_getElem hv]
  rfl
set_option maxHeartbeats 1000000 in
/-- a call that the check lets pass can be made, and what comes behind is of one of its states -/
theorem call_ok {J : JV} {X : Scr} {D dp c na kd : Nat} {W : List (Nat × Nat)} {K : Bool} {S : AS} {L st : List Value} {h : Hp} {ρ : Nat → Int} {T : Ctr} {l : List AS} (hT : Good J T) (g : gam ρ S L st h) (hh : HI h) (hK : K = true → J.1 h) (hD : D ≤ dp + 1) (ha : acall D W K S c na kd T = some l) :
    callOK c na kd st h = true ∧ Ends X dp c 0 (entL (mMaxL c) (st.take na).reverse) [] h (fun rv h1 => HI h1 ∧ frm W h h1 ∧ ∃ S' ∈ l, ∃ ρ', ext S.1.length ρ ρ' ∧ S.1.length ≤ S'.1.length ∧ gam ρ' S' L (rv.toList ++ st.drop na) h1) := by
  unfold acall at ha
  obtain ⟨⟨q1, q2, q3, q4, q5, q6, q7, q8, q9, q10, q11, q12, q13⟩, ha⟩ := inv_if ha
  cases ha
  subst q1
  have gA : al2 (vm S.1.length ρ) (argsA S na) (st.take na).reverse := al2_rev (al2_take na g.2.2.1)
  have gR : al2 (vm S.1.length ρ) (S.2.2.1.drop na) (st.drop na) := al2_drop na g.2.2.1
  have hlen := al2_len g.2.2.1
  have h7 : (argsA S na).all tg3 = true := by
    unfold argsA
    rw [List.all_reverse]
    exact q7
  have hargs := args_ok gA h7
  have hcall : callOK (cY T) na kd st h = true := by
    unfold callOK
    have r5 := recv_ok hh gA q9
    have r1 : decide (na ≤ st.length) = true := decide_eq_true (by omega)
    have r2 : decide (catSum (st.drop na) ≤ 8) = true := decide_eq_true (Nat.le_trans (catSum_le gR) q6)
    have r3 : (st.take na).all argOK = true := by have := hargs.1; rwa [List.all_reverse] at this
    have r4 : decide ((entL0 (st.take na).reverse).length ≤ mMaxL (cY T)) = true := decide_eq_true (by rw [hargs.2]; exact q8)
    rw [r1, r2, r3, r4]
    simp only [Bool.true_and]
    exact r5
  refine ⟨hcall, ?_⟩
  have hsl : (sgA T S na).length = (cV T).length := by simp [sgA]
  have hbl := bdLe_len q11
  have hσ : ∀ v, v < (sgA T S na).length → tOK S.1.length ρ ((sgA T S na).getD v (0, 0)) (ev ρ ((sgA T S na).getD v (0, 0))) := by
    intro v hv
    refine ⟨?_, rfl⟩
    unfold sgA
    rw [hsl] at hv
    rw [getD_map_A hv]
    have hm : (cV T).getD v 0 ∈ cV T := by
      rw [List.getD_eq_getElem?_getD, List.getElem?_eq_getElem hv]
      exact List.getElem_mem hv
    obtain ⟨t, ht⟩ := Option.isSome_iff_exists.mp (List.all_eq_true.mp q10 _ hm)
    rw [ht]
    exact vS_ok g gA ht
  have gC : al2 (vm (cB T).length (fun v => ev ρ ((sgA T S na).getD v (0, 0)))) (cA T) (st.take na).reverse := by
    rw [← hbl]
    exact avsLe_ok hσ q12 gA
  refine (hT X dp (fun v => ev ρ ((sgA T S na).getD v (0, 0))) h (st.take na).reverse (by omega) hh (fun e => hK (by rcases q4 with q | q; · rw [q] at e; cases e
                                                                                                                     · exact q)) (bd_of g.1 hσ q11) gC (fFit_ok g hσ hbl q13)).mono ?_
  rintro rv h1 ⟨hh1, hf, P, hP, ρP, eP, bP, nP, vP, fP⟩
  refine ⟨hh1, frm_sub q3 hf, ?_⟩
  have hnv : (cB T).length = (cV T).length := hbl.symm.trans hsl
  rw [hnv] at eP nP
  obtain ⟨B1, e1, b1, n1⟩ := refs_ok (x := ρP) (σ := sgA T S na) (B := S.1) (C := P.1) 0 g.1 (fun v hv => by
    rw [Nat.zero_add, eP v (by rw [← hsl]; exact hv)]
    exact hσ v hv) (fun v q hv hq => by rw [Nat.zero_add]; exact bP v q hq)
  have hmem : (B1 ++ P.1.drop (cV T).length, S.2.1, P.2.1.map (subA (sgP T S na P)) ++ S.2.2.1.drop na, P.2.2.1.map (fun q => (q.1, q.2.1, sub (sgP T S na P) q.2.2)) ++ S.2.2.2.filter (fun q => !inW (cW T) q.1 q.2.1)) ∈ ((cP T).map (postS T S na)).flatten := by
    refine List.mem_flatten.mpr ⟨_, List.mem_map.mpr ⟨P, hP, rfl⟩, ?_⟩
    unfold postS
    rw [e1]
    exact List.mem_map.mpr ⟨B1, by simp, rfl⟩
  refine ⟨_, hmem, fun v => if v < S.1.length then ρ v else ρP ((cV T).length + (v - S.1.length)), fun v hv => if_pos hv, by simp [n1], ?_⟩
  have hn2 : (B1 ++ P.1.drop (cV T).length).length = S.1.length + (P.1.length - (cV T).length) := by simp [n1]
  have he2 : ext S.1.length ρ (fun v => if v < S.1.length then ρ v else ρP ((cV T).length + (v - S.1.length))) := fun v hv => if_pos hv
  have hspl : (sgP T S na P).length = P.1.length := by
    unfold sgP
    rw [List.length_append, hsl]
    simp
    omega
  have hσ2 : ∀ v, v < (sgP T S na P).length → tOK (B1 ++ P.1.drop (cV T).length).length (fun v => if v < S.1.length then ρ v else ρP ((cV T).length + (v - S.1.length))) ((sgP T S na P).getD v (0, 0)) (ρP v) := by
    intro v hv
    rw [hspl] at hv
    by_cases hc : v < (cV T).length
    · have e : (sgP T S na P).getD v (0, 0) = (sgA T S na).getD v (0, 0) := by
        unfold sgP
        rw [List.getD_eq_getElem?_getD, List.getElem?_append_left (by rw [hsl]; exact hc), List.getD_eq_getElem?_getD]
      rw [e, eP v hc, hn2]
      exact tOK_ext (Nat.le_add_right _ _) he2 (hσ v (by rw [hsl]; exact hc))
    · have e : (sgP T S na P).getD v (0, 0) = (S.1.length + 1 + (v - (cV T).length), 0) := by
        unfold sgP
        rw [List.getD_eq_getElem?_getD, List.getElem?_append_right (by rw [hsl]; omega), hsl, List.getElem?_map, List.getElem?_range (by omega)]
        rfl
      rw [e, hn2]
      refine ⟨by show S.1.length + 1 + (v - (cV T).length) ≤ _; omega, ?_⟩
      rw [show S.1.length + 1 + (v - (cV T).length) = (S.1.length + (v - (cV T).length)) + 1 by omega]
      show ρP v = (if S.1.length + (v - (cV T).length) < S.1.length then ρ (S.1.length + (v - (cV T).length)) else ρP ((cV T).length + (S.1.length + (v - (cV T).length) - S.1.length))) + 0
      rw [if_neg (by omega), show (cV T).length + (S.1.length + (v - (cV T).length) - S.1.length) = v by omega]
      omega
  refine ⟨?_, ?_, ?_, ?_⟩
  · intro v q hq
    by_cases hv : v < S.1.length
    · show q.1 ≤ (if v < S.1.length then ρ v else ρP ((cV T).length + (v - S.1.length))) ∧ (if v < S.1.length then ρ v else ρP ((cV T).length + (v - S.1.length))) ≤ q.2
      rw [if_pos hv]
      have hq : (B1 ++ P.1.drop (cV T).length)[v]? = some q := hq
      rw [List.getElem?_append_left (by rw [n1]; exact hv)] at hq
      exact b1 v q hq
    · show q.1 ≤ (if v < S.1.length then ρ v else ρP ((cV T).length + (v - S.1.length))) ∧ (if v < S.1.length then ρ v else ρP ((cV T).length + (v - S.1.length))) ≤ q.2
      rw [if_neg hv]
      have hq : (B1 ++ P.1.drop (cV T).length)[v]? = some q := hq
      rw [List.getElem?_append_right (by rw [n1]; omega), n1, List.getElem?_drop] at hq
      exact bP _ q hq
  · show al2 (vm (B1 ++ P.1.drop (cV T).length).length _) S.2.1 L
    rw [hn2]
    exact al2_mono (fun _ _ => vm_ext (Nat.le_add_right _ _) he2) g.2.1
  · show al2 (vm (B1 ++ P.1.drop (cV T).length).length _) (P.2.1.map (subA (sgP T S na P)) ++ S.2.2.1.drop na) _
    refine al2_app (subAs_ok hσ2 (by rw [hspl]; exact vP)) ?_
    rw [hn2]
    exact al2_mono (fun _ _ => vm_ext (Nat.le_add_right _ _) he2) gR
  · intro q hq
    show tOK (B1 ++ P.1.drop (cV T).length).length _ _ _ ∧ _
    rcases List.mem_append.mp hq with hq | hq
    · obtain ⟨p, hp, rfl⟩ := List.mem_map.mp hq
      refine ⟨sub_ok2 hσ2 (by rw [hspl]; exact (fP p hp).1), (fP p hp).2⟩
    · obtain ⟨r1, r2⟩ := List.mem_filter.mp hq
      have r3 : inW (cW T) q.1 q.2.1 = false := by simpa using r2
      have r4 := g.2.2.2 q r1
      refine ⟨?_, r4.2⟩
      rw [(hf _ _ r3).1, hn2]
      exact tOK_ext (Nat.le_add_right _ _) he2 r4.1
end
section
/-! The check of a method against its contract, and that it is sound. -/
def cutM (C0 : Option Cut) (S : AS) (C : Cut) : Bool := match C0 with
  | some C' => mlt S.1 C'.2.2.1 S.2.1 (kM C') (kM C)
  | none => true
def ay (code : List En) (TB : List Ctr) (T : Ctr) (cal : List (Nat × Nat)) (cuts : List Cut) (C0 : Option Cut) : Nat → Bool → Nat → AS → Bool
  | 0, _, _, _ => false
  | n + 1, fresh, pc, S =>
    if (!fresh && cuts.any (fun C => C.1 == pc)) = true then cuts.any (fun C => (C.1 == pc) && (cutFit (cB T).length S C && cutM C0 S C))
    else match code.find? (fun q => q.1 == pc) with
      | none => false
      | some q => if isRet q.2.1 = true then okRet (cY T) (cB T).length (cP T) q.2.1 S
        else match callO q.2.1 q.2.2.2 with
        | some (c, na, kd) => cal.any (fun p => (p.1 == pc) && (match TB[p.2]? with
          | some T' => (match acall (cD T) (cW T) (cK T) S c na kd T' with
            | some l => l.all (fun S' => ay code TB T cal cuts C0 n false (pc + 3) S')
            | none => false)
          | none => false))
        | none => match asuc (cW T) q.2.1 q.2.2.2 pc S with
          | some l => l.all (fun p => ay code TB T cal cuts C0 n false p.1 p.2)
          | none => false
def Qend (T : Ctr) (h0 : Hp) (ρ0 : Nat → Int) (v : Option Value) (h' : Hp) : Prop := HI h' ∧ frm (cW T) h0 h' ∧ Qpost (cB T).length ρ0 (cP T) v h'
theorem dis_in {SUP W : List (Nat × Nat)} (hd : disW SUP W = true) {a k : Nat} (hs : inW SUP a k = true) : inW W a k = false := by
  cases e : inW W a k with
  | false => rfl
  | true =>
    obtain ⟨q, hq, hm⟩ := List.any_eq_true.mp e
    obtain ⟨s, hs, hm2⟩ := List.any_eq_true.mp hs
    have h1 := List.all_eq_true.mp (List.all_eq_true.mp hd q hq) s hs
    simp only [Bool.and_eq_true, Bool.or_eq_true, beq_iff_eq] at hm hm2
    have h2 : (s.1 == q.1 && (s.2 == q.2 || s.2 == 999 || q.2 == 999)) = true := by
      simp only [Bool.and_eq_true, Bool.or_eq_true, beq_iff_eq]
      omega
    rw [h2] at h1
    cases h1
/-- the invariant hangs on its places alone -/
def JS (J : JV) : Prop := ∀ h h' : Hp, (∀ a k, inW J.2 a k = true → h'.2.1 a k = h.2.1 a k) → J.1 h → J.1 h'
theorem KI_dis {J : JV} (hJ : JS J) {W : List (Nat × Nat)} {h h' : Hp} (hd : disW J.2 W = true) (hf : frm W h h') (hk : J.1 h) : J.1 h' :=
  hJ h h' (fun a k hs => (hf a k (dis_in hd hs)).1) hk
theorem nar_byte {x : Int32} (h1 : -128 ≤ x.toInt) (h2 : x.toInt ≤ 127) : narrow .byte (.int x) = .int x := by
  show Value.int x.toInt8.toInt32 = Value.int x
  have e : x.toInt8.toInt32 = x := by
    apply Int32.toInt.inj
    rw [Int8.toInt_toInt32, Int32.toInt_toInt8, Int.bmod_def]
    split <;> omega
  rw [e]
theorem nar_char {x : Int32} (h1 : 0 ≤ x.toInt) (h2 : x.toInt ≤ 65535) : narrow .char (.int x) = .int x := by
  show Value.int x.toUInt32.toUInt16.toUInt32.toInt32 = Value.int x
  have e : x.toUInt32.toUInt16.toUInt32.toInt32 = x := by
    apply Int32.toBitVec_inj.mp
    apply BitVec.eq_of_toNat_eq
    have h3 : x.toBitVec.toInt = x.toInt := rfl
    rw [BitVec.toInt_eq_toNat_cond] at h3
    have h4 := x.toBitVec.isLt
    have h5 : x.toUInt32.toUInt16.toUInt32.toInt32.toBitVec.toNat = x.toBitVec.toNat % 65536 := by simp
    rw [h5]
    split at h3 <;> omega
  rw [e]
theorem ret_ok {y : Nat} {i : Instr} {S : AS} {L st : List Value} {h : Hp} {ρ : Nat → Int} (g : gam ρ S L st h) (hr : (match i with
  | .ireturn => (match S.2.2.1 with | [a] => a.1 == 1 && retTy y (trg S.1 a.2.1) | _ => false)
  | .lreturn => (match S.2.2.1 with | [a] => a.1 == 2 && decide (mRet y = some .long) | _ => false)
  | .return_ => S.2.2.1.isEmpty && decide (mRet y = none)
  | _ => false) = true) : ∃ v : Option Value, st = v.toList ∧ retO y i st h = some (some (v, h)) := by
  obtain ⟨B, AL, Ast, F⟩ := S
  have g3 : al2 (vm B.length ρ) Ast st := g.2.2.1
  split at hr
  · split at hr
    · rename_i a hA
      have hA : Ast = [a] := hA
      subst hA
      match st, g3 with
      | [v], ⟨g3, _⟩ =>
        obtain ⟨h1, h2⟩ := (Bool.and_eq_true _ _).mp hr
        obtain ⟨x, rfl, hx⟩ := vm1 (by simpa using h1) g3
        refine ⟨some (.int x), rfl, ?_⟩
        show some (retI y [.int x] h) = _
        have hb := tOK_rg g.1 hx
        unfold retTy at h2
        unfold retI
        cases hm : mRet y with
        | none => rw [hm] at h2; cases h2
        | some ty =>
          rw [hm] at h2
          have hn : isRefTy ty = false ∧ narrow ty (.int x) = .int x := by
            cases ty with
            | int => exact ⟨rfl, rfl⟩
            | boolean =>
              refine ⟨rfl, ?_⟩
              have h3 := rng_ok h2 hb.1 hb.2
              have h4 : x = 0 ∨ x = 1 := by
                rcases (show x.toInt = 0 ∨ x.toInt = 1 by omega) with e | e
                · exact Or.inl (Int32.toInt.inj e)
                · exact Or.inr (Int32.toInt.inj e)
              rcases h4 with rfl | rfl <;> rfl
            | char =>
              refine ⟨rfl, ?_⟩
              have h3 := rng_ok h2 hb.1 hb.2
              exact nar_char h3.1 h3.2
            | byte =>
              refine ⟨rfl, ?_⟩
              have h3 := rng_ok h2 hb.1 hb.2
              exact nar_byte h3.1 h3.2
            | _ => cases h2
          simp only
          rw [if_pos hn]
    · cases hr
  · split at hr
    · rename_i a hA
      have hA : Ast = [a] := hA
      subst hA
      match st, g3 with
      | [v], ⟨g3, _⟩ =>
        obtain ⟨h1, h2⟩ := (Bool.and_eq_true _ _).mp hr
        obtain ⟨x, rfl, hx⟩ := vm2 (by simpa using h1) g3
        refine ⟨some (.long x), rfl, ?_⟩
        show some (retL y [.long x] h) = _
        unfold retL
        simp only
        rw [if_pos (of_decide_eq_true h2)]
    · cases hr
  · obtain ⟨h1, h2⟩ := (Bool.and_eq_true _ _).mp hr
    have hA : Ast = [] := by simpa using h1
    subst hA
    match st, g3 with
    | [], _ =>
      refine ⟨none, rfl, ?_⟩
      show some (retV y [] h) = _
      unfold retV
      simp only
      rw [if_pos (of_decide_eq_true h2)]
  · cases hr
theorem isRet_none {y : Nat} {i : Instr} {st : List Value} {h : Hp} (hi : isRet i = false) : retO y i st h = none := by
  cases i <;> first | rfl | cases hi
set_option maxHeartbeats 1000000 in
theorem ay_sound {J : JV} {X : Scr} {TB : List Ctr} {T : Ctr} {cal : List (Nat × Nat)} {cuts : List Cut} {C0 : Option Cut} {dp : Nat} {h0 : Hp} {ρ0 ρC : Nat → Int} {n0 : Nat} {LC : List Value}
    (hJ : JS J) (hG : ∀ T' ∈ TB, Good J T') (hD : cD T ≤ dp) (hKW : cK T = false ∨ disW J.2 (cW T) = true) (hK0 : cK T = true → J.1 h0)
    (hC : ∀ C', C0 = some C' → al2 (vm n0 ρC) C'.2.2.1 LC)
    (hnv : (cB T).length ≤ n0) (he0 : ext (cB T).length ρ0 ρC)
    (rec : ∀ C ∈ cuts, ∀ ρ L h, ext (cB T).length ρ0 ρ → (cB T).length ≤ C.2.1.length → gam ρ (C.2.1, C.2.2.1, [], kF C) L [] h → HI h → frm (cW T) h0 h → (∀ C', C0 = some C' → lxl ((kM C').map (mOne LC)) ((kM C).map (mOne L))) → Ends X dp (cY T) C.1 L [] h (Qend T h0 ρ0)) :
    ∀ (n : Nat) (fresh : Bool) (pc : Nat) (S : AS) (ρ : Nat → Int) (L st : List Value) (h : Hp), ay (progs.getD (cY T) []) TB T cal cuts C0 n fresh pc S = true → gam ρ S L st h → HI h → frm (cW T) h0 h → n0 ≤ S.1.length → ext n0 ρC ρ → Ends X dp (cY T) pc L st h (Qend T h0 ρ0)
  | 0, _, _, _, _, _, _, _, hu, _, _, _, _, _ => by cases hu
  | n + 1, fresh, pc, S, ρ, L, st, h, hu, g, hh, hf, hn, he => by
    have ihn := ay_sound (cal := cal) (cuts := cuts) (C0 := C0) hJ hG hD hKW hK0 hC hnv he0 rec n
    rw [ay] at hu
    by_cases hcut : (!fresh && cuts.any (fun C => C.1 == pc)) = true
    · rw [if_pos hcut] at hu
      obtain ⟨C, hCm, hu⟩ := List.any_eq_true.mp hu
      obtain ⟨h1, hu⟩ := (Bool.and_eq_true _ _).mp hu
      obtain ⟨h2, h3⟩ := (Bool.and_eq_true _ _).mp hu
      have h1 : C.1 = pc := by simpa using h1
      subst h1
      obtain ⟨ρ', e1, g1, rfl, n1⟩ := cutFit_ok g (Nat.le_trans hnv hn) h2
      refine rec C hCm ρ' L h (ext_trans (Nat.le_refl _) (ext_trans hnv he0 he) e1) n1 g1 hh hf ?_
      intro C' hC'
      subst hC'
      exact mlt_ok g.1 (hC C' rfl) g.2.1 hn he h3
    · rw [if_neg hcut] at hu
      split at hu
      · cases hu
      · rename_i q hq
        obtain ⟨pc0, i, len, o⟩ := q
        have hp : pAt (cY T) pc = some (pc0, i, len, o) := hq
        by_cases hret : isRet i = true
        · rw [if_pos hret] at hu
          unfold okRet at hu
          obtain ⟨h1, h2⟩ := (Bool.and_eq_true _ _).mp hu
          obtain ⟨v, rfl, hr⟩ := ret_ok g h1
          exact Ends.ret hp hr ⟨hh, hf, postFit_ok g (Nat.le_trans hnv hn) (ext_trans hnv he0 he) h2⟩
        · rw [if_neg hret] at hu
          have hret : isRet i = false := by cases e : isRet i with
            | false => rfl
            | true => exact absurd e hret
          split at hu
          · rename_i c na kd hc
            obtain ⟨p, -, hu⟩ := List.any_eq_true.mp hu
            obtain ⟨-, hu⟩ := (Bool.and_eq_true _ _).mp hu
            split at hu
            · rename_i T' hT'
              split at hu
              · rename_i l hl
                have hGT := hG T' (List.mem_of_getElem? hT')
                have hKh : cK T = true → J.1 h := fun e => KI_dis hJ (hKW.resolve_left (by rw [e]; decide)) hf (hK0 e)
                cases dp with
                | zero =>
                  exfalso
                  unfold acall at hl
                  obtain ⟨⟨-, q2, -⟩, -⟩ := inv_if hl
                  omega
                | succ dp =>
                  obtain ⟨hok, hE⟩ := call_ok (X := X) (dp := dp) hGT g hh hKh hD hl
                  refine Ends.call hp (isRet_none hret) hc hok (hE.mono ?_)
                  rintro rv h1 ⟨hh1, hf1, S', hS', ρ', e1, n1, g1⟩
                  exact ihn false (pc + 3) S' ρ' L _ h1 (List.all_eq_true.mp hu S' hS') g1 hh1 (frm_trans hf hf1) (Nat.le_trans hn n1) (ext_trans hn he e1)
              · cases hu
            · cases hu
          · rename_i hc
            split at hu
            · rename_i l hl
              obtain ⟨pc', S', ρ', L', st', h', hm, hs, g1, hh1, hf1, e1, n1, -⟩ := asuc_sound (X := X) g hh hl
              exact Ends.step hp (isRet_none hret) hc hs (ihn false pc' S' ρ' L' st' h' (List.all_eq_true.mp hu (pc', S') hm) g1 hh1 (frm_trans hf hf1) (Nat.le_trans hn n1) (ext_trans hn he e1))
            · cases hu
/-- the locals with which a checked method begins -/
def entA : List AV → List AV
  | [] => []
  | a :: l => if a.1 = 2 then a :: jT :: entA l else a :: entA l
def entP (n : Nat) (l : List AV) : List AV := entA l ++ List.replicate (n - (entA l).length) jT
def FU : Nat := 3000
/-- the whole check of a method -/
def chk (TB : List Ctr) (T : Ctr) (cal : List (Nat × Nat)) (cuts : List Cut) (ml : Nat) : Bool :=
  (cA T).all tg3 && cuts.all (fun C => (kM C).length == ml) &&
  ay (progs.getD (cY T) []) TB T cal cuts none FU false 0 (cB T, entP (mMaxL (cY T)) (cA T), [], cF T) &&
  cuts.all (fun C => ay (progs.getD (cY T) []) TB T cal cuts (some C) FU true C.1 (C.2.1, C.2.2.1, [], kF C))
theorem ent_ok {n : Nat} {ρ : Nat → Int} : ∀ {A : List AV} {L : List Value}, al2 (vm n ρ) A L → A.all tg3 = true → al2 (vm n ρ) (entA A) (entL0 L)
  | [], [], _, _ => trivial
  | a :: A, v :: L, h, ha => by
    obtain ⟨h1, h2⟩ := (Bool.and_eq_true _ _).mp ha
    obtain ⟨-, e2⟩ := tg3_of h1 h.1
    have ih := ent_ok h.2 h2
    unfold entA entL0
    by_cases hc : v.category = 2
    · rw [if_pos hc, if_pos (e2.mp hc)]
      exact ⟨h.1, rfl, ih⟩
    · rw [if_neg hc, if_neg (fun q => hc (e2.mpr q))]
      exact ⟨h.1, ih⟩
  | [], _ :: _, h, _ => h.elim
  | _ :: _, [], h, _ => h.elim
theorem rep_ok {n : Nat} {ρ : Nat → Int} : ∀ k : Nat, al2 (vm n ρ) (List.replicate k jT) (List.replicate k (.retAddr 0))
  | 0 => trivial
  | k + 1 => ⟨rfl, rep_ok k⟩
theorem entP_ok {n k : Nat} {ρ : Nat → Int} {A : List AV} {L : List Value} (h : al2 (vm n ρ) A L) (ha : A.all tg3 = true) : al2 (vm n ρ) (entP k A) (entL k L) := by
  have h1 := ent_ok h ha
  unfold entP entL
  rw [al2_len h1]
  exact al2_app h1 (rep_ok _)
theorem chk_good {J : JV} (hJ : JS J) {TB : List Ctr} {T : Ctr} {cal : List (Nat × Nat)} {cuts : List Cut} {ml : Nat} (hG : ∀ T' ∈ TB, Good J T') (hKW : cK T = false ∨ disW J.2 (cW T) = true) (hc : chk TB T cal cuts ml = true) : Good J T := by
  unfold chk at hc
  obtain ⟨h123, h5⟩ := (Bool.and_eq_true _ _).mp hc
  obtain ⟨h12, h4⟩ := (Bool.and_eq_true _ _).mp h123
  obtain ⟨h2, h3⟩ := (Bool.and_eq_true _ _).mp h12
  intro X dp ρ0 h0 as hD hh hK hb ha hF
  have loop : ∀ l : List Nat, l.length = ml → ∀ C ∈ cuts, ∀ ρ L h, (kM C).map (mOne L) = l → ext (cB T).length ρ0 ρ → (cB T).length ≤ C.2.1.length → gam ρ (C.2.1, C.2.2.1, [], kF C) L [] h → HI h → frm (cW T) h0 h → Ends X dp (cY T) C.1 L [] h (Qend T h0 ρ0) := by
    intro l hl
    refine lx_ind (P := fun l => ∀ C ∈ cuts, ∀ ρ L h, (kM C).map (mOne L) = l → ext (cB T).length ρ0 ρ → (cB T).length ≤ C.2.1.length → gam ρ (C.2.1, C.2.2.1, [], kF C) L [] h → HI h → frm (cW T) h0 h → Ends X dp (cY T) C.1 L [] h (Qend T h0 ρ0)) ml l hl ?_
    intro l hl ih C hC ρ L h hm he hn g hh hf
    refine ay_sound (C0 := some C) (n0 := C.2.1.length) (ρC := ρ) (LC := L) hJ hG hD hKW hK ?_ hn he ?_ FU true C.1 _ ρ L [] h (List.all_eq_true.mp h5 C hC) g hh hf (Nat.le_refl _) ext_refl
    · intro C' hC'
      cases hC'
      exact g.2.1
    · intro C1 hC1 ρ1 L1 k1 e1 n1 g1 hh1 hf1 hlx
      have hlx := hlx C rfl
      rw [hm] at hlx
      have hml : ((kM C1).map (mOne L1)).length = ml := by
        rw [List.length_map]
        simpa using List.all_eq_true.mp h3 C1 hC1
      exact ih _ hml hlx C1 hC1 ρ1 L1 k1 rfl e1 n1 g1 hh1 hf1
  refine ay_sound (C0 := none) (n0 := (cB T).length) (ρC := ρ0) (LC := []) hJ hG hD hKW hK (fun C' hC' => by cases hC') (Nat.le_refl _) ext_refl ?_ FU false 0 (cB T, entP (mMaxL (cY T)) (cA T), [], cF T) ρ0 _ [] h0 h4 ⟨hb, entP_ok ha h2, trivial, hF⟩ hh frm_refl (Nat.le_refl _) ext_refl
  intro C hC ρ L h he hn g hh1 hf _
  have hml : ((kM C).map (mOne L)).length = ml := by
    rw [List.length_map]
    simpa using List.all_eq_true.mp h3 C hC
  exact loop _ hml C hC ρ L h rfl he hn g hh1 hf
/-- a method whose j-th argument may be one of several objects: by its contracts for each of them -/
def chkJ (TB : List Ctr) (T : Ctr) (j : Nat) : Bool := match (cA T)[j]? with
  | some a => a.1 == 3 && a.2.2.2.all (fun b => TB.any (fun T' => decide (cY T' = cY T) && decide (cD T' ≤ cD T) && decide (cB T' = cB T) && decide (cA T' = (cA T).set j (rT [b])) && decide (cF T' = cF T) && (cP T').all (fun P => (cP T).contains P) && subW (cW T') (cW T) && (cK T' == false || cK T)))
  | none => false
theorem chkJ_good {J : JV} {TB : List Ctr} {T : Ctr} {j : Nat} (hG : ∀ T' ∈ TB, Good J T') (hc : chkJ TB T j = true) : Good J T := by
  unfold chkJ at hc
  split at hc
  · rename_i a ha
    obtain ⟨h3, hc⟩ := (Bool.and_eq_true _ _).mp hc
    intro X dp ρ h as hD hh hK hb hA hF
    obtain ⟨v, hv, hva⟩ := al2_get hA ha
    obtain ⟨b, rfl, hbm⟩ := vm3 (by simpa using h3) hva
    obtain ⟨T', hT', hc⟩ := List.any_eq_true.mp (List.all_eq_true.mp hc b hbm)
    simp only [Bool.and_eq_true, decide_eq_true_eq, Bool.or_eq_true, beq_iff_eq] at hc
    obtain ⟨⟨⟨⟨⟨⟨⟨c1, c2⟩, c3⟩, c4⟩, c8⟩, c5⟩, c6⟩, c7⟩ := hc
    have hs : as.set j (.ref b) = as := by
      obtain ⟨hj, e⟩ := List.getElem?_eq_some_iff.mp hv
      rw [← e]
      exact List.set_getElem_self hj
    have hA' : al2 (vm (cB T').length ρ) (cA T') as := by
      rw [c3, c4, ← hs]
      exact al2_set hA ⟨b, rfl, List.mem_singleton.mpr rfl⟩
    have := hG T' hT' X dp ρ h as (Nat.le_trans c2 hD) hh (fun e => hK (by
      rcases c7 with q | q
      · rw [q] at e; cases e
      · exact q)) (by rw [c3]; exact hb) hA' (by rw [c8, c3]; exact hF)
    rw [c1] at this
    refine this.mono ?_
    rintro v h' ⟨q1, q2, P, hP, q3⟩
    rw [c3] at q3
    exact ⟨q1, frm_sub c6 q2, P, by simpa using List.all_eq_true.mp c5 P hP, q3⟩
  · cases hc
/-- a method's row: its contract, the contracts of its calls, its cuts, the measure's length; or an argument's place -/
abbrev Row : Type := Ctr × List (Nat × Nat) × List Cut × Nat × Option Nat
end
section
/-! The interval machine's step in small pieces, for the kernel's sake. -/
abbrev ZF : Type := List (Nat × Nat) → AS → Option (List (Nat × AS))
def z_iconst (k : Int) (o : List Nat) (pc : Nat) : ZF := fun W S => some [(pc + 1, S.1, S.2.1, iT (0, (Int32.ofInt k).toInt) :: S.2.2.1, S.2.2.2)]
def z_bipush (k : Int) (o : List Nat) (pc : Nat) : ZF := fun W S => some [(pc + 2, S.1, S.2.1, iT (0, (Int8.ofInt k).toInt32.toInt) :: S.2.2.1, S.2.2.2)]
def z_sipush (k : Int) (o : List Nat) (pc : Nat) : ZF := fun W S => some [(pc + 3, S.1, S.2.1, iT (0, (Int16.ofInt k).toInt32.toInt) :: S.2.2.1, S.2.2.2)]
def z_lconst (k : Fin 2) (o : List Nat) (pc : Nat) : ZF := fun W S => some [(pc + 1, S.1, S.2.1, lT (0, (Int64.ofNat (k : Nat)).toInt) :: S.2.2.1, S.2.2.2)]
def z_ldc (o : List Nat) (pc : Nat) : ZF := fun W S => (match o with
    | [0, v, _] => some [(pc + 2, S.1, S.2.1, iT (0, (Int32.ofNat v).toInt) :: S.2.2.1, S.2.2.2)]
    | [1, j, _] => if j < 5 then some [(pc + 2, S.1, S.2.1, rT [OLDB + 3 + j] :: S.2.2.1, S.2.2.2)] else none
    | _ => none)
def z_ldc_w (o : List Nat) (pc : Nat) : ZF := fun W S => (match o with
    | [0, v, _] => some [(pc + 3, S.1, S.2.1, iT (0, (Int32.ofNat v).toInt) :: S.2.2.1, S.2.2.2)]
    | _ => none)
def z_ldc2_w (o : List Nat) (pc : Nat) : ZF := fun W S => (match o with
    | [v, _] => some [(pc + 3, S.1, S.2.1, lT (0, (Int64.ofNat v).toInt) :: S.2.2.1, S.2.2.2)]
    | _ => none)
def z_iload (k : Nat) (o : List Nat) (pc : Nat) : ZF := fun W S => (match S.2.1[k]? with | some a => if a.1 = 1 then some [(pc + 2, S.1, S.2.1, a :: S.2.2.1, S.2.2.2)] else none | none => none)
def z_iload_n (k : Fin 4) (o : List Nat) (pc : Nat) : ZF := fun W S => (match S.2.1[(k : Nat)]? with | some a => if a.1 = 1 then some [(pc + 1, S.1, S.2.1, a :: S.2.2.1, S.2.2.2)] else none | none => none)
def z_lload (k : Nat) (o : List Nat) (pc : Nat) : ZF := fun W S => (match S.2.1[k]? with | some a => if a.1 = 2 then some [(pc + 2, S.1, S.2.1, a :: S.2.2.1, S.2.2.2)] else none | none => none)
def z_lload_n (k : Fin 4) (o : List Nat) (pc : Nat) : ZF := fun W S => (match S.2.1[(k : Nat)]? with | some a => if a.1 = 2 then some [(pc + 1, S.1, S.2.1, a :: S.2.2.1, S.2.2.2)] else none | none => none)
def z_aload (k : Nat) (o : List Nat) (pc : Nat) : ZF := fun W S => (match S.2.1[k]? with | some a => if a.1 = 3 ∧ a.2.2.2.contains (OLDB + 13) = false then some [(pc + 2, S.1, S.2.1, a :: S.2.2.1, S.2.2.2)] else none | none => none)
def z_aload_n (k : Fin 4) (o : List Nat) (pc : Nat) : ZF := fun W S => (match S.2.1[(k : Nat)]? with | some a => if a.1 = 3 ∧ a.2.2.2.contains (OLDB + 13) = false then some [(pc + 1, S.1, S.2.1, a :: S.2.2.1, S.2.2.2)] else none | none => none)
def z_istore (k : Nat) (o : List Nat) (pc : Nat) : ZF := fun W S => (match S.2.2.1 with | a :: st => if a.1 = 1 ∧ k < S.2.1.length ∧ aOkSt S.2.1 k = true then some [(pc + 2, S.1, S.2.1.set k a, st, S.2.2.2)] else none | _ => none)
def z_istore_n (k : Fin 4) (o : List Nat) (pc : Nat) : ZF := fun W S => (match S.2.2.1 with | a :: st => if a.1 = 1 ∧ (k : Nat) < S.2.1.length ∧ aOkSt S.2.1 k = true then some [(pc + 1, S.1, S.2.1.set k a, st, S.2.2.2)] else none | _ => none)
def z_lstore (k : Nat) (o : List Nat) (pc : Nat) : ZF := fun W S => (match S.2.2.1 with | a :: st => if a.1 = 2 ∧ k + 1 < S.2.1.length ∧ aOkSt S.2.1 k = true then some [(pc + 2, S.1, (S.2.1.set k a).set (k + 1) jT, st, S.2.2.2)] else none | _ => none)
def z_lstore_n (k : Fin 4) (o : List Nat) (pc : Nat) : ZF := fun W S => (match S.2.2.1 with | a :: st => if a.1 = 2 ∧ (k : Nat) + 1 < S.2.1.length ∧ aOkSt S.2.1 k = true then some [(pc + 1, S.1, (S.2.1.set k a).set (k + 1) jT, st, S.2.2.2)] else none | _ => none)
def z_astore_n (k : Fin 4) (o : List Nat) (pc : Nat) : ZF := fun W S => (match S.2.2.1 with | a :: st => if a.1 = 3 ∧ a.2.2.2.contains (OLDB + 13) = false ∧ (k : Nat) < S.2.1.length ∧ aOkSt S.2.1 k = true then some [(pc + 1, S.1, S.2.1.set k a, st, S.2.2.2)] else none | _ => none)
def z_iinc (k : Nat) (n : Int) (o : List Nat) (pc : Nat) : ZF := fun W S => (match S.2.1[k]? with | some a => if a.1 = 1 ∧ aOkSt S.2.1 k = true then some [(pc + 3, (tAdd S.1 a.2.1 (0, (Int32.ofInt n).toInt) clampI).1, S.2.1.set k (iT (tAdd S.1 a.2.1 (0, (Int32.ofInt n).toInt) clampI).2), S.2.2.1, S.2.2.2)] else none | none => none)
def z_iadd (o : List Nat) (pc : Nat) : ZF := fun W S => (match S.2.2.1 with | b :: a :: st => if a.1 = 1 ∧ b.1 = 1 then some [(pc + 1, (tAdd S.1 a.2.1 b.2.1 clampI).1, S.2.1, iT (tAdd S.1 a.2.1 b.2.1 clampI).2 :: st, S.2.2.2)] else none | _ => none)
def z_isub (o : List Nat) (pc : Nat) : ZF := fun W S => (match S.2.2.1 with | b :: a :: st => if a.1 = 1 ∧ b.1 = 1 then some [(pc + 1, (tSub S.1 a.2.1 b.2.1 clampI).1, S.2.1, iT (tSub S.1 a.2.1 b.2.1 clampI).2 :: st, S.2.2.2)] else none | _ => none)
def z_ladd (o : List Nat) (pc : Nat) : ZF := fun W S => (match S.2.2.1 with | b :: a :: st => if a.1 = 2 ∧ b.1 = 2 then some [(pc + 1, (tAdd S.1 a.2.1 b.2.1 clampL).1, S.2.1, lT (tAdd S.1 a.2.1 b.2.1 clampL).2 :: st, S.2.2.2)] else none | _ => none)
def z_lsub (o : List Nat) (pc : Nat) : ZF := fun W S => (match S.2.2.1 with | b :: a :: st => if a.1 = 2 ∧ b.1 = 2 then some [(pc + 1, (tSub S.1 a.2.1 b.2.1 clampL).1, S.2.1, lT (tSub S.1 a.2.1 b.2.1 clampL).2 :: st, S.2.2.2)] else none | _ => none)
def z_lcmp (o : List Nat) (pc : Nat) : ZF := fun W S => (match S.2.2.1 with | b :: a :: st => if a.1 = 2 ∧ b.1 = 2 then some [(pc + 1, S.1, S.2.1, cT a.2.1 b.2.1 :: st, S.2.2.2)] else none | _ => none)
def z_i2l (o : List Nat) (pc : Nat) : ZF := fun W S => (match S.2.2.1 with | a :: st => if a.1 = 1 then some [(pc + 1, S.1, S.2.1, lT a.2.1 :: st, S.2.2.2)] else none | _ => none)
def z_l2i (o : List Nat) (pc : Nat) : ZF := fun W S => (match S.2.2.1 with | a :: st => if a.1 = 2 then (if rngOK (trg S.1 a.2.1) fI = true then some [(pc + 1, S.1, S.2.1, iT a.2.1 :: st, S.2.2.2)] else some [(pc + 1, pushI S st fI)]) else none | _ => none)
def z_dup (o : List Nat) (pc : Nat) : ZF := fun W S => (match S.2.2.1 with | a :: st => if cat1 a = true then some [(pc + 1, S.1, S.2.1, a :: a :: st, S.2.2.2)] else none | _ => none)
def z_pop (o : List Nat) (pc : Nat) : ZF := fun W S => (match S.2.2.1 with | a :: st => if cat1 a = true then some [(pc + 1, S.1, S.2.1, st, S.2.2.2)] else none | _ => none)
def z_dup2 (o : List Nat) (pc : Nat) : ZF := fun W S => (match S.2.2.1 with | a :: b :: st => if cat1 a = true ∧ cat1 b = true then some [(pc + 1, S.1, S.2.1, a :: b :: a :: b :: st, S.2.2.2)] else none | _ => none)
def z_pop2 (o : List Nat) (pc : Nat) : ZF := fun W S => (match S.2.2.1 with | a :: st => if a.1 = 2 then some [(pc + 1, S.1, S.2.1, st, S.2.2.2)] else none | _ => none)
def z_ifCond (q : Jvm.ClassFile.Cond) (off : Int) (o : List Nat) (pc : Nat) : ZF := fun W S => (match S.2.2.1 with
    | a :: st => (match jump pc off with
      | some t => if a.1 = 1 then some (brs q S.1 a.2.1 (0, 0) t (pc + 3) S.2.1 st S.2.2.2) else if a.1 = 4 then some (brs q S.1 a.2.1 a.2.2.1 t (pc + 3) S.2.1 st S.2.2.2) else none
      | none => none)
    | _ => none)
def z_if_icmp (q : Jvm.ClassFile.Cond) (off : Int) (o : List Nat) (pc : Nat) : ZF := fun W S => (match S.2.2.1 with
    | b :: a :: st => (match jump pc off with
      | some t => if a.1 = 1 ∧ b.1 = 1 then some (brs q S.1 a.2.1 b.2.1 t (pc + 3) S.2.1 st S.2.2.2) else none
      | none => none)
    | _ => none)
def z_goto (off : Int) (o : List Nat) (pc : Nat) : ZF := fun W S => aJump pc off S
def z_tableswitch (dflt : Int) (lo : Int) (hi : Int) (offs : Array Int) (o : List Nat) (pc : Nat) : ZF := fun W S => (match S.2.2.1 with
    | a :: st => if a.1 = 1 then (match jump pc dflt with
      | some d => if (List.range offs.size).all (fun j => (jump pc (offs.getD j 0)).isSome) = true ∧ hi + 1 - lo ≤ (offs.size : Int) then
          some ((refn S.1 a.2.1 (-BIGI) (lo - 1)).toList.map (fun B => (d, B, S.2.1, st, S.2.2.2)) ++ ((refn S.1 a.2.1 (hi + 1) BIGI).toList.map (fun B => (d, B, S.2.1, st, S.2.2.2)) ++
            ((List.range offs.size).map (fun (j : Nat) => (refn S.1 a.2.1 (lo + (j : Int)) (lo + (j : Int))).toList.map (fun B => ((jump pc (offs.getD j 0)).getD 0, B, S.2.1, st, S.2.2.2)))).flatten))
        else none
      | none => none) else none
    | _ => none)
def z_lookupswitch (dflt : Int) (ps : Array (Int × Int)) (o : List Nat) (pc : Nat) : ZF := fun W S => (match S.2.2.1 with
    | a :: st => if a.1 = 1 ∧ (ps.toList.zip (ps.toList.drop 1)).all (fun (a, next) => a.1 < next.1) = true then (match jump pc dflt with
      | some d => if ps.toList.all (fun q => (jump pc q.2).isSome) = true then
          some ((if (tlo S.1 a.2.1 = thi S.1 a.2.1 ∧ ps.toList.any (fun q => decide (q.1 = tlo S.1 a.2.1)) = true) then [] else [(d, S.1, S.2.1, st, S.2.2.2)]) ++
            (ps.toList.map (fun q => (refn S.1 a.2.1 q.1 q.1).toList.map (fun B => ((jump pc q.2).getD 0, B, S.2.1, st, S.2.2.2)))).flatten)
        else none
      | none => none) else none
    | _ => none)
def z_getfield (o : List Nat) (pc : Nat) : ZF := fun W S => (aGetF o S).map (fun S' => [(pc + 3, S')])
def z_putfield (o : List Nat) (pc : Nat) : ZF := fun W S => (aPutF W o S).map (fun S' => [(pc + 3, S')])
def z_getstatic (o : List Nat) (pc : Nat) : ZF := fun W S => (match o with
    | [0, _, _] => some [(pc + 3, S.1, S.2.1, rT [OLDB + 1] :: S.2.2.1, S.2.2.2)]
    | [1, _, _] => some [(pc + 3, S.1, S.2.1, rT [OLDB + 2] :: S.2.2.1, S.2.2.2)]
    | [2, _, _] => some [(pc + 3, S.1, S.2.1, iT (0, 1) :: S.2.2.1, S.2.2.2)]
    | [3, _, _] => some [(pc + 3, S.1, S.2.1, rT [OLDB + 13] :: S.2.2.1, S.2.2.2)]
    | _ => none)
def z_arraylength (o : List Nat) (pc : Nat) : ZF := fun W S => (match S.2.2.1 with
    | a :: st => if a.1 = 3 ∧ a.2.2.2.isEmpty = false ∧ a.2.2.2.all (fun b => match aLen b with | some q => (decide (q.1 < 5) || decide (OLDB ≤ b)) && decide (q.2 ≤ 1000) | none => false) = true then
        some [(pc + 1, pushI S st (uni (a.2.2.2.map (fun b => match aLen b with | some q => ((q.2 : Int), (q.2 : Int)) | none => fI))))] else none
    | _ => none)
def z_iaload (o : List Nat) (pc : Nat) : ZF := fun W S => (match S.2.2.1 with
    | j :: a :: st => if j.1 = 1 ∧ a.1 = 3 ∧ arrOK a.2.2.2 0 (trg S.1 j.2.1) = true then some [(pc + 1, pushI S st (uni (a.2.2.2.map aIv)))] else none
    | _ => none)
def z_baload (o : List Nat) (pc : Nat) : ZF := fun W S => (match S.2.2.1 with
    | j :: a :: st => if j.1 = 1 ∧ a.1 = 3 ∧ (arrOK a.2.2.2 2 (trg S.1 j.2.1) = true ∧ a.2.2.2.all (fun b => decide (b < OLDB)) = true ∨ arrOK a.2.2.2 5 (trg S.1 j.2.1) = true ∧ a.2.2.2.all (fun b => decide (OLDB ≤ b)) = true) then some [(pc + 1, pushI S st (uni (a.2.2.2.map aIv)))] else none
    | _ => none)
def z_laload (o : List Nat) (pc : Nat) : ZF := fun W S => (match S.2.2.1 with
    | j :: a :: st => if j.1 = 1 ∧ a.1 = 3 ∧ arrOK a.2.2.2 1 (trg S.1 j.2.1) = true ∧ a.2.2.2.all (fun b => decide (b < OLDB)) = true then some [(pc + 1, pushL S st fL)] else none
    | _ => none)
def z_aaload (o : List Nat) (pc : Nat) : ZF := fun W S => (match S.2.2.1 with
    | j :: a :: st => if j.1 = 1 ∧ a.1 = 3 ∧ (arrOK a.2.2.2 3 (trg S.1 j.2.1) = true ∨ arrOK a.2.2.2 4 (trg S.1 j.2.1) = true) ∧ a.2.2.2.all (fun b => decide (b < OLDB) && (!(rst b 0).isEmpty && (rst b 0).all (fun z => decide (z < OLDB)))) = true then
        some [(pc + 1, S.1, S.2.1, rT ((a.2.2.2.map (fun b => rst b 0)).flatten) :: st, S.2.2.2)] else none
    | _ => none)
def z_iastore (o : List Nat) (pc : Nat) : ZF := fun W S => (match S.2.2.1 with
    | x :: j :: a :: st => if x.1 = 1 ∧ j.1 = 1 ∧ a.1 = 3 ∧ arrOK a.2.2.2 0 (trg S.1 j.2.1) = true ∧ a.2.2.2.all (fun b => decide (b < OLDB) && inW W b 999 && rngOK (trg S.1 x.2.1) (ivl b 0)) = true then some [(pc + 1, S.1, S.2.1, st, S.2.2.2)] else none
    | _ => none)
def z_bastore (o : List Nat) (pc : Nat) : ZF := fun W S => (match S.2.2.1 with
    | x :: j :: a :: st => if x.1 = 1 ∧ j.1 = 1 ∧ a.1 = 3 ∧ rngOK (trg S.1 x.2.1) (0, 1) = true ∧ arrOK a.2.2.2 2 (trg S.1 j.2.1) = true ∧ a.2.2.2.all (fun b => decide (b < OLDB) && inW W b 999 && rngOK (trg S.1 x.2.1) (ivl b 0)) = true then some [(pc + 1, S.1, S.2.1, st, S.2.2.2)] else none
    | _ => none)
def z_lastore (o : List Nat) (pc : Nat) : ZF := fun W S => (match S.2.2.1 with
    | x :: j :: a :: st => if x.1 = 2 ∧ j.1 = 1 ∧ a.1 = 3 ∧ arrOK a.2.2.2 1 (trg S.1 j.2.1) = true ∧ a.2.2.2.all (fun b => decide (b < OLDB) && inW W b 999) = true then some [(pc + 1, S.1, S.2.1, st, S.2.2.2)] else none
    | _ => none)
def z_invokestatic (o : List Nat) (pc : Nat) : ZF := fun W S => (match o with
    | [9998, _, _, _, _] => (aCopy W S).map (fun S' => [(pc + 3, S')])
    | _ => none)
def z_b_imul (p q : Int × Int) : Option (Int × Int) := some (if 0 ≤ p.1 ∧ 0 ≤ q.1 then clampI (p.1 * q.1, p.2 * q.2) else fI)
def z_b_idiv (p q : Int × Int) : Option (Int × Int) := if 0 < q.1 ∨ q.2 < 0 then some (if 0 ≤ p.1 ∧ 0 < q.1 then (0, p.2) else fI) else none
def z_b_irem (p q : Int × Int) : Option (Int × Int) := if 0 < q.1 then some (if 0 ≤ p.1 then (0, min p.2 (q.2 - 1)) else (-(q.2 - 1), q.2 - 1)) else if q.2 < 0 then some fI else none
def z_b_iand (p q : Int × Int) : Option (Int × Int) := some (if 0 ≤ p.1 then (if 0 ≤ q.1 then (0, min p.2 q.2) else (0, p.2)) else if 0 ≤ q.1 then (0, q.2) else fI)
def z_b_ior (p q : Int × Int) : Option (Int × Int) := some (if 0 ≤ p.1 ∧ 0 ≤ q.1 then clampI (0, 2 ^ ((max p.2 q.2).toNat.log2 + 1) - 1) else fI)
def z_b_ixor (p q : Int × Int) : Option (Int × Int) := some fI
def z_b_ishl (p q : Int × Int) : Option (Int × Int) := some (if p = (1, 1) ∧ 0 ≤ q.1 ∧ q.2 ≤ 30 then (1, 2 ^ q.2.toNat) else fI)
def z_b_ishr (p q : Int × Int) : Option (Int × Int) := some (if 0 ≤ p.1 then (0, p.2) else fI)
def z_b_iushr (p q : Int × Int) : Option (Int × Int) := some fI
def z_def (fb : Int × Int → Int × Int → Option (Int × Int)) (fu : Option (Int × Int)) (bl bs : Bool) (pc : Nat) : ZF := fun W S => (match S.2.2.1 with
    | b :: a :: st => if a.1 = 1 ∧ b.1 = 1 then (match fb (trg S.1 a.2.1) (trg S.1 b.2.1) with
        | some r => some [(pc + 1, pushI S st r)]
        | none => (match fu with | some r => some [(pc + 1, pushI S (a :: st) r)] | none => none))
      else if a.1 = 2 ∧ b.1 = 2 ∧ bl = true then some [(pc + 1, pushL S st fL)]
      else if a.1 = 2 ∧ b.1 = 1 ∧ bs = true then some [(pc + 1, pushL S st fL)]
      else if b.1 = 1 then (match fu with | some r => some [(pc + 1, pushI S (a :: st) r)] | none => none) else none
    | b :: st => if b.1 = 1 then (match fu with | some r => some [(pc + 1, pushI S st r)] | none => none) else none
    | _ => none)
def z_nb (_ _ : Int × Int) : Option (Int × Int) := none
abbrev PR : Type := Nat × (Nat × Nat × Nat) × ZF
def z_no : ZF := fun _ _ => none
def z_call (o : List Nat) (f : ZF) : PR := match o with
  | [c, na, kd, _, _, _, _] => (1, (c, na, kd), f)
  | _ => (0, (0, 0, 0), f)
def pr (i : Instr) (o : List Nat) (pc : Nat) : PR := match i with
  | .ireturn => (2, (0, 0, 0), z_no)
  | .lreturn => (2, (0, 0, 0), z_no)
  | .return_ => (2, (0, 0, 0), z_no)
  | .invokevirtual _ => z_call o (z_def z_nb none false false pc)
  | .invokespecial _ => z_call o (z_def z_nb none false false pc)
  | .iconst k => (0, (0, 0, 0), z_iconst k o pc)
  | .bipush k => (0, (0, 0, 0), z_bipush k o pc)
  | .sipush k => (0, (0, 0, 0), z_sipush k o pc)
  | .lconst k => (0, (0, 0, 0), z_lconst k o pc)
  | .ldc _ => (0, (0, 0, 0), z_ldc o pc)
  | .ldc_w _ => (0, (0, 0, 0), z_ldc_w o pc)
  | .ldc2_w _ => (0, (0, 0, 0), z_ldc2_w o pc)
  | .iload k => (0, (0, 0, 0), z_iload k o pc)
  | .iload_n k => (0, (0, 0, 0), z_iload_n k o pc)
  | .lload k => (0, (0, 0, 0), z_lload k o pc)
  | .lload_n k => (0, (0, 0, 0), z_lload_n k o pc)
  | .aload k => (0, (0, 0, 0), z_aload k o pc)
  | .aload_n k => (0, (0, 0, 0), z_aload_n k o pc)
  | .istore k => (0, (0, 0, 0), z_istore k o pc)
  | .istore_n k => (0, (0, 0, 0), z_istore_n k o pc)
  | .lstore k => (0, (0, 0, 0), z_lstore k o pc)
  | .lstore_n k => (0, (0, 0, 0), z_lstore_n k o pc)
  | .astore_n k => (0, (0, 0, 0), z_astore_n k o pc)
  | .iinc k n => (0, (0, 0, 0), z_iinc k n o pc)
  | .iadd => (0, (0, 0, 0), z_iadd o pc)
  | .isub => (0, (0, 0, 0), z_isub o pc)
  | .ladd => (0, (0, 0, 0), z_ladd o pc)
  | .lsub => (0, (0, 0, 0), z_lsub o pc)
  | .lcmp => (0, (0, 0, 0), z_lcmp o pc)
  | .i2l => (0, (0, 0, 0), z_i2l o pc)
  | .l2i => (0, (0, 0, 0), z_l2i o pc)
  | .dup => (0, (0, 0, 0), z_dup o pc)
  | .pop => (0, (0, 0, 0), z_pop o pc)
  | .dup2 => (0, (0, 0, 0), z_dup2 o pc)
  | .pop2 => (0, (0, 0, 0), z_pop2 o pc)
  | .ifCond q off => (0, (0, 0, 0), z_ifCond q off o pc)
  | .if_icmp q off => (0, (0, 0, 0), z_if_icmp q off o pc)
  | .goto off => (0, (0, 0, 0), z_goto off o pc)
  | .tableswitch dflt lo hi offs => (0, (0, 0, 0), z_tableswitch dflt lo hi offs o pc)
  | .lookupswitch dflt ps => (0, (0, 0, 0), z_lookupswitch dflt ps o pc)
  | .getfield _ => (0, (0, 0, 0), z_getfield o pc)
  | .putfield _ => (0, (0, 0, 0), z_putfield o pc)
  | .getstatic _ => (0, (0, 0, 0), z_getstatic o pc)
  | .arraylength => (0, (0, 0, 0), z_arraylength o pc)
  | .iaload => (0, (0, 0, 0), z_iaload o pc)
  | .baload => (0, (0, 0, 0), z_baload o pc)
  | .laload => (0, (0, 0, 0), z_laload o pc)
  | .aaload => (0, (0, 0, 0), z_aaload o pc)
  | .iastore => (0, (0, 0, 0), z_iastore o pc)
  | .bastore => (0, (0, 0, 0), z_bastore o pc)
  | .lastore => (0, (0, 0, 0), z_lastore o pc)
  | .invokestatic _ => z_call o (z_invokestatic o pc)
  | .imul => (0, (0, 0, 0), z_def z_b_imul none false false pc)
  | .idiv => (0, (0, 0, 0), z_def z_b_idiv none false false pc)
  | .irem => (0, (0, 0, 0), z_def z_b_irem none false false pc)
  | .iand => (0, (0, 0, 0), z_def z_b_iand none false false pc)
  | .ior => (0, (0, 0, 0), z_def z_b_ior none false false pc)
  | .ixor => (0, (0, 0, 0), z_def z_b_ixor none false false pc)
  | .ishl => (0, (0, 0, 0), z_def z_b_ishl none false false pc)
  | .ishr => (0, (0, 0, 0), z_def z_b_ishr none false false pc)
  | .iushr => (0, (0, 0, 0), z_def z_b_iushr none false false pc)
  | .ineg => (0, (0, 0, 0), z_def z_nb (some fI) false false pc)
  | .i2b => (0, (0, 0, 0), z_def z_nb (some (-128, 127)) false false pc)
  | .i2s => (0, (0, 0, 0), z_def z_nb (some (-32768, 32767)) false false pc)
  | .i2c => (0, (0, 0, 0), z_def z_nb (some (0, 65535)) false false pc)
  | .land => (0, (0, 0, 0), z_def z_nb none true false pc)
  | .lor => (0, (0, 0, 0), z_def z_nb none true false pc)
  | .lxor => (0, (0, 0, 0), z_def z_nb none true false pc)
  | .lshl => (0, (0, 0, 0), z_def z_nb none false true pc)
  | .lshr => (0, (0, 0, 0), z_def z_nb none false true pc)
  | _ => (0, (0, 0, 0), z_def z_nb none false false pc)
theorem z_call_ok {i : Instr} {o : List Nat} {f : ZF} (h : callO i o = (match o with | [c, na, kd, _, _, _, _] => some (c, na, kd) | _ => none)) : (z_call o f).2.2 = f ∧ (match callO i o with | some q => (z_call o f).1 = 1 ∧ (z_call o f).2.1 = q | none => (z_call o f).1 = 0) := by
  rw [h]
  unfold z_call
  split <;> exact ⟨rfl, by simp⟩
theorem pr_ok (i : Instr) (o : List Nat) (pc : Nat) : (isRet i = true → (pr i o pc).1 = 2) ∧ (isRet i = false → (match callO i o with | some q => (pr i o pc).1 = 1 ∧ (pr i o pc).2.1 = q | none => (pr i o pc).1 = 0 ∧ ∀ W S, (pr i o pc).2.2 W S = asuc W i o pc S)) := by
  have k : ∀ {j : Instr} {f : ZF}, (callO j o = (match o with | [c, na, kd, _, _, _, _] => some (c, na, kd) | _ => none)) → (∀ W S, f W S = asuc W j o pc S) → (match callO j o with | some q => (z_call o f).1 = 1 ∧ (z_call o f).2.1 = q | none => (z_call o f).1 = 0 ∧ ∀ W S, (z_call o f).2.2 W S = asuc W j o pc S) := by
    intro j f hj hf
    obtain ⟨h1, h2⟩ := z_call_ok (f := f) hj
    cases e : callO j o with
    | some q =>
      rw [e] at h2
      exact h2
    | none =>
      rw [e] at h2
      exact ⟨h2, fun W S => by rw [h1]; exact hf W S⟩
  cases i <;> first
    | exact ⟨fun _ => rfl, fun h => (by cases h)⟩
    | exact ⟨fun h => (by cases h), fun _ => ⟨rfl, fun _ _ => rfl⟩⟩
    | exact ⟨fun h => (by cases h), fun _ => k rfl (fun _ _ => rfl)⟩
/-- the check, in small pieces -/
def az (code : List En) (TB : List Ctr) (T : Ctr) (cal : List (Nat × Nat)) (cuts : List Cut) (C0 : Option Cut) : Nat → Bool → Nat → AS → Bool
  | 0, _, _, _ => false
  | n + 1, fresh, pc, S =>
    if (!fresh && cuts.any (fun C => C.1 == pc)) = true then cuts.any (fun C => (C.1 == pc) && (cutFit (cB T).length S C && cutM C0 S C))
    else match code.find? (fun q => q.1 == pc) with
      | none => false
      | some q => match (pr q.2.1 q.2.2.2 q.1).1 with
        | 2 => okRet (cY T) (cB T).length (cP T) q.2.1 S
        | 1 => cal.any (fun p => (p.1 == q.1) && (match TB[p.2]? with
          | some T' => (match acall (cD T) (cW T) (cK T) S (pr q.2.1 q.2.2.2 q.1).2.1.1 (pr q.2.1 q.2.2.2 q.1).2.1.2.1 (pr q.2.1 q.2.2.2 q.1).2.1.2.2 T' with
            | some l => l.all (fun S' => az code TB T cal cuts C0 n false (q.1 + 3) S')
            | none => false)
          | none => false))
        | _ => match (pr q.2.1 q.2.2.2 q.1).2.2 (cW T) S with
          | some l => l.all (fun p => az code TB T cal cuts C0 n false p.1 p.2)
          | none => false
theorem az_ay {code : List En} {TB : List Ctr} {T : Ctr} {cal : List (Nat × Nat)} {cuts : List Cut} {C0 : Option Cut} : ∀ (n : Nat) (fresh : Bool) (pc : Nat) (S : AS), az code TB T cal cuts C0 n fresh pc S = ay code TB T cal cuts C0 n fresh pc S
  | 0, _, _, _ => rfl
  | n + 1, fresh, pc, S => by
    have ih : az code TB T cal cuts C0 n = ay code TB T cal cuts C0 n := by
      funext a b c
      exact az_ay n a b c
    rw [az, ay, ih]
    split
    · rfl
    · cases hf : code.find? (fun q => q.1 == pc) with
      | none => rfl
      | some q =>
        have hq : q.1 = pc := by simpa using List.find?_some hf
        subst hq
        obtain ⟨p1, p2⟩ := pr_ok q.2.1 q.2.2.2 q.1
        simp only
        cases hr : isRet q.2.1 with
        | true =>
          rw [p1 hr, if_pos rfl]
          rfl
        | false =>
          have p2 := p2 hr
          rw [if_neg (by decide)]
          cases hc : callO q.2.1 q.2.2.2 with
          | some c =>
            rw [hc] at p2
            obtain ⟨e1, e2⟩ := p2
            rw [e1, e2]
            rfl
          | none =>
            rw [hc] at p2
            obtain ⟨e1, e2⟩ := p2
            rw [e1, e2]
            rfl
def chz (TB : List Ctr) (T : Ctr) (cal : List (Nat × Nat)) (cuts : List Cut) (ml : Nat) : Bool :=
  (cA T).all tg3 && cuts.all (fun C => (kM C).length == ml) &&
  az (progs.getD (cY T) []) TB T cal cuts none FU false 0 (cB T, entP (mMaxL (cY T)) (cA T), [], cF T) &&
  cuts.all (fun C => az (progs.getD (cY T) []) TB T cal cuts (some C) FU true C.1 (C.2.1, C.2.2.1, [], kF C))
theorem chz_chk {TB : List Ctr} {T : Ctr} {cal : List (Nat × Nat)} {cuts : List Cut} {ml : Nat} : chz TB T cal cuts ml = chk TB T cal cuts ml := by
  unfold chz chk
  rw [az_ay]
  congr 1
  congr 1
  funext C
  exact az_ay _ _ _ _
def rowOK (TB : List Ctr) (r : Row) : Bool := match r.2.2.2.2 with
  | none => chz TB r.1 r.2.1 r.2.2.1 r.2.2.2.1
  | some j => chkJ TB r.1 j
theorem rowOK_good {J : JV} (hJ : JS J) {TB : List Ctr} {r : Row} (hG : ∀ T' ∈ TB, Good J T') (hKW : (cK r.1 == false || disW J.2 (cW r.1)) = true) (hc : rowOK TB r = true) : Good J r.1 := by
  have hKW : cK r.1 = false ∨ disW J.2 (cW r.1) = true := by
    rcases (Bool.or_eq_true _ _).mp hKW with q | q
    · exact Or.inl (by simpa using q)
    · exact Or.inr q
  unfold rowOK at hc
  split at hc
  · rw [chz_chk] at hc
    exact chk_good hJ hG hKW hc
  · exact chkJ_good hG hc
theorem tab_good {J : JV} {TB : List Ctr} : ∀ {n : Nat}, n ≤ TB.length → (∀ i (hi : i < TB.length), i < n → (∀ T' ∈ TB.take i, Good J T') → Good J TB[i]) → ∀ T ∈ TB.take n, Good J T
  | 0, _, _, T, hT => by simp at hT
  | n + 1, hn, h, T, hT => by
    have ih := tab_good (n := n) (by omega) (fun i hi hin hG => h i hi (by omega) hG)
    rw [List.take_succ_eq_append_getElem (by omega)] at hT
    rcases List.mem_append.mp hT with q | q
    · exact ih T q
    · rw [List.mem_singleton.mp q]
      exact h n (by omega) (by omega) ih
end
section
/-! The contracts and the rows of their checks: printed by wip/gen/emit.py. -/
def w_0 : List (Nat × Nat) := [(1, 0), (2, 999), (3, 999), (4, 999), (5, 999), (6, 999)]
def w_1 : List (Nat × Nat) := [(18, 0), (18, 7), (18, 8), (18, 9), (18, 11), (18, 12), (19, 999), (20, 999), (21, 999), (22, 999), (23, 999), (24, 999), (25, 999)]
def w_2 : List (Nat × Nat) := [(17, 1), (17, 9), (17, 12), (17, 13), (17, 15), (18, 0), (18, 7), (18, 8), (18, 9), (18, 11), (18, 12), (19, 999), (20, 999), (21, 999), (22, 999), (23, 999), (24, 999), (25, 999)]
def w_3 : List (Nat × Nat) := [(46, 0), (46, 5), (63, 0), (63, 5), (68, 0), (68, 5), (73, 0), (73, 5), (78, 0), (78, 5), (83, 0), (83, 5), (88, 0), (88, 5)]
def w_4 : List (Nat × Nat) := [(46, 5), (50, 999), (63, 5), (67, 999), (68, 5), (72, 999), (73, 5), (77, 999), (78, 5), (82, 999), (83, 5), (87, 999), (88, 5), (92, 999)]
def w_5 : List (Nat × Nat) := [(44, 2), (46, 5), (50, 999), (63, 5), (67, 999), (68, 5), (72, 999), (73, 5), (77, 999), (78, 5), (82, 999), (83, 5), (87, 999), (88, 5), (92, 999)]
def w_6 : List (Nat × Nat) := [(46, 0), (47, 999), (48, 999), (49, 999), (63, 0), (64, 999), (65, 999), (66, 999), (68, 0), (69, 999), (70, 999), (71, 999), (73, 0), (74, 999), (75, 999), (76, 999), (78, 0), (79, 999), (80, 999), (81, 999), (83, 0), (84, 999), (85, 999), (86, 999), (88, 0), (89, 999), (90, 999), (91, 999)]
def w_7 : List (Nat × Nat) := [(44, 2), (46, 0), (46, 5), (47, 999), (48, 999), (49, 999), (50, 999), (63, 0), (63, 5), (64, 999), (65, 999), (66, 999), (67, 999), (68, 0), (68, 5), (69, 999), (70, 999), (71, 999), (72, 999), (73, 0), (73, 5), (74, 999), (75, 999), (76, 999), (77, 999), (78, 0), (78, 5), (79, 999), (80, 999), (81, 999), (82, 999), (83, 0), (83, 5), (84, 999), (85, 999), (86, 999), (87, 999), (88, 0), (88, 5), (89, 999), (90, 999), (91, 999), (92, 999)]
def w_8 : List (Nat × Nat) := [(44, 2), (44, 3), (46, 0), (46, 5), (47, 999), (48, 999), (49, 999), (50, 999), (63, 0), (63, 5), (64, 999), (65, 999), (66, 999), (67, 999), (68, 0), (68, 5), (69, 999), (70, 999), (71, 999), (72, 999), (73, 0), (73, 5), (74, 999), (75, 999), (76, 999), (77, 999), (78, 0), (78, 5), (79, 999), (80, 999), (81, 999), (82, 999), (83, 0), (83, 5), (84, 999), (85, 999), (86, 999), (87, 999), (88, 0), (88, 5), (89, 999), (90, 999), (91, 999), (92, 999)]
def w_9 : List (Nat × Nat) := [(0, 6), (1, 12), (44, 1), (44, 2), (44, 3), (46, 0), (46, 5), (47, 999), (48, 999), (49, 999), (50, 999), (63, 0), (63, 5), (64, 999), (65, 999), (66, 999), (67, 999), (68, 0), (68, 5), (69, 999), (70, 999), (71, 999), (72, 999), (73, 0), (73, 5), (74, 999), (75, 999), (76, 999), (77, 999), (78, 0), (78, 5), (79, 999), (80, 999), (81, 999), (82, 999), (83, 0), (83, 5), (84, 999), (85, 999), (86, 999), (87, 999), (88, 0), (88, 5), (89, 999), (90, 999), (91, 999), (92, 999)]
def w_10 : List (Nat × Nat) := [(9, 0), (9, 7), (9, 8), (9, 9), (9, 11), (9, 12), (10, 999), (11, 999), (12, 999), (13, 999), (14, 999), (15, 999), (16, 999)]
def w_11 : List (Nat × Nat) := [(0, 2), (9, 0), (9, 7), (9, 8), (9, 9), (9, 11), (9, 12), (10, 999), (11, 999), (12, 999), (13, 999), (14, 999), (15, 999), (16, 999)]
def w_12 : List (Nat × Nat) := [(1, 0), (1, 7), (1, 8), (1, 9), (1, 11), (1, 12), (2, 999), (3, 999), (4, 999), (5, 999), (6, 999), (7, 999), (8, 999)]
def w_13 : List (Nat × Nat) := [(57, 999), (58, 999), (59, 999), (60, 999), (61, 999), (62, 999)]
def w_14 : List (Nat × Nat) := [(54, 999), (55, 999), (57, 999), (58, 999), (59, 999), (60, 999), (61, 999), (62, 999)]
def w_15 : List (Nat × Nat) := [(93, 0), (93, 2), (94, 999), (95, 999), (96, 999), (97, 999), (98, 999), (99, 999)]
def w_16 : List (Nat × Nat) := [(93, 44), (93, 45), (93, 46), (93, 47), (93, 48), (93, 49), (93, 50), (115, 999), (116, 999), (117, 999), (118, 999), (119, 999), (120, 999), (121, 999)]
def w_17 : List (Nat × Nat) := [(93, 0), (93, 1), (93, 2), (93, 10), (93, 41), (93, 42), (94, 999), (95, 999), (96, 999), (97, 999), (98, 999), (99, 999), (114, 999)]
def w_18 : List (Nat × Nat) := [(17, 10), (17, 11), (31, 999), (32, 999), (33, 999), (34, 999), (35, 999), (36, 999), (37, 999)]
def w_19 : List (Nat × Nat) := [(17, 1), (17, 9), (17, 10), (17, 11), (17, 12), (17, 13), (17, 15), (18, 0), (18, 7), (18, 8), (18, 9), (18, 11), (18, 12), (19, 999), (20, 999), (21, 999), (22, 999), (23, 999), (24, 999), (25, 999), (31, 999), (32, 999), (33, 999), (34, 999), (35, 999), (36, 999), (37, 999)]
def w_20 : List (Nat × Nat) := [(1, 7), (1, 8), (17, 1), (17, 9), (17, 10), (17, 11), (17, 12), (17, 13), (17, 15), (18, 0), (18, 7), (18, 8), (18, 9), (18, 11), (18, 12), (19, 999), (20, 999), (21, 999), (22, 999), (23, 999), (24, 999), (25, 999), (31, 999), (32, 999), (33, 999), (34, 999), (35, 999), (36, 999), (37, 999)]
def w_21 : List (Nat × Nat) := [(17, 10), (17, 11), (18, 7), (18, 8), (31, 999), (32, 999), (33, 999), (34, 999), (35, 999), (36, 999), (37, 999)]
def w_22 : List (Nat × Nat) := [(17, 1), (17, 9), (17, 10), (17, 11), (17, 12), (17, 13), (17, 14), (17, 15), (18, 0), (18, 7), (18, 8), (18, 9), (18, 11), (18, 12), (19, 999), (20, 999), (21, 999), (22, 999), (23, 999), (24, 999), (25, 999), (31, 999), (32, 999), (33, 999), (34, 999), (35, 999), (36, 999), (37, 999)]
def w_23 : List (Nat × Nat) := [(17, 1), (17, 9), (17, 10), (17, 11), (17, 12), (17, 13), (17, 15), (17, 16), (18, 0), (18, 7), (18, 8), (18, 9), (18, 11), (18, 12), (19, 999), (20, 999), (21, 999), (22, 999), (23, 999), (24, 999), (25, 999), (31, 999), (32, 999), (33, 999), (34, 999), (35, 999), (36, 999), (37, 999)]
def w_24 : List (Nat × Nat) := [(93, 1), (93, 2), (93, 34), (93, 35), (109, 999), (110, 999)]
def w_25 : List (Nat × Nat) := [(93, 1), (93, 2), (93, 34), (93, 35), (93, 36), (93, 37), (109, 999), (110, 999)]
def w_26 : List (Nat × Nat) := [(93, 28), (93, 29), (93, 34), (93, 35), (109, 999), (110, 999)]
def w_27 : List (Nat × Nat) := [(93, 2), (93, 32), (93, 34), (93, 35), (109, 999), (110, 999)]
def k_0 : Ctr := (102, 0, [fI], [iT (1, 0)], [0], [([fI], [iT (0, 0)], [], []), ([(0, 9)], [iT (0, 1)], [], [])], [], false, [])
def k_1 : Ctr := (103, 0, [fI], [iT (1, 0)], [0], [([fI], [iT (0, 0)], [], []), ([(0, 6)], [iT (0, 1)], [], [])], [], false, [])
def k_2 : Ctr := (31, 0, [(0, 6), (0, 9), (0, 6), (0, 9), (0, 9)], [rT [1], iT (1, 0), iT (2, 0), iT (3, 0), iT (4, 0), iT (5, 0)], [1, 2, 3, 4, 5], [([(0, 6), (0, 9), (0, 6), (0, 9), (0, 9)], [iT (0, (-4))], [], []), ([(0, 6), (0, 9), (0, 6), (0, 9), (0, 9), (0, 6)], [iT (6, 0)], [], [(999999, 0)])], w_0, false, [])
def k_3 : Ctr := (63, 1, [fI, fI, fI, fI, fI], [rT [0], iT (1, 0), iT (2, 0), iT (3, 0), iT (4, 0), iT (5, 0)], [1, 2, 3, 4, 5], [([fI, fI, fI, fI, fI, ((-4), 6)], [iT (6, 0)], [], [(999999, 0)])], w_0, false, [])
def k_4 : Ctr := (26, 0, [fI], [rT [1], iT (1, 0)], [1], [([fI], [iT (0, 0)], [], []), ([(0, 6)], [iT (0, 1)], [], [])], [], false, [])
def k_5 : Ctr := (33, 0, [], [rT [18], rT [1]], [], [([], [], [], [])], w_1, false, [])
def k_6 : Ctr := (6, 1, [], [rT [17], rT [1], rT [63, 68, 73, 78, 83, 88]], [], [([], [], [], [])], w_2, false, [])
def k_7 : Ctr := (6, 1, [], [rT [17], rT [1], rT [39]], [], [([], [], [], [])], w_2, false, [])
def k_8 : Ctr := (100, 2, [], [rT [0]], [], [([], [], [], [])], w_2, false, [])
def k_9 : Ctr := (28, 0, [], [rT [18]], [], [([(0, 127)], [iT (1, 0)], [], [(999999, 0)])], [], false, [])
def k_10 : Ctr := (29, 1, [], [rT [18]], [], [([(0, 127)], [iT (1, 0)], [], [(999999, 0)])], [], false, [])
def k_11 : Ctr := (221, 0, [fI], [rT [32], iT (1, 0)], [1], [([fI], [], [], [])], [(32, 999)], false, [])
def k_12 : Ctr := (104, 0, [fI, (0, 6)], [iT (1, 0), iT (2, 0)], [0, 1], [([fI, (0, 6)], [iT (0, 0)], [], []), ([fI, (0, 6)], [iT (0, 1)], [], [])], [], false, [])
def k_13 : Ctr := (57, 0, [(0, 0)], [rT [26], iT (1, 0)], [1], [([(0, 0)], [iT (0, 0)], [], []), ([(0, 0)], [iT (0, 1)], [], [])], [], false, [])
def k_14 : Ctr := (57, 0, [(0, 0)], [rT [39], iT (1, 0)], [1], [([(0, 0)], [iT (0, 0)], [], []), ([(0, 0)], [iT (0, 1)], [], [])], [], false, [])
def k_15 : Ctr := (57, 0, [(0, 0)], [rT [63], iT (1, 0)], [1], [([(0, 0)], [iT (0, 0)], [], []), ([(0, 0)], [iT (0, 1)], [], [])], [], false, [])
def k_16 : Ctr := (57, 0, [(0, 0)], [rT [68], iT (1, 0)], [1], [([(0, 0)], [iT (0, 0)], [], []), ([(0, 0)], [iT (0, 1)], [], [])], [], false, [])
def k_17 : Ctr := (57, 0, [(0, 0)], [rT [73], iT (1, 0)], [1], [([(0, 0)], [iT (0, 0)], [], []), ([(0, 0)], [iT (0, 1)], [], [])], [], false, [])
def k_18 : Ctr := (57, 0, [(0, 0)], [rT [78], iT (1, 0)], [1], [([(0, 0)], [iT (0, 0)], [], []), ([(0, 0)], [iT (0, 1)], [], [])], [], false, [])
def k_19 : Ctr := (57, 0, [(0, 0)], [rT [83], iT (1, 0)], [1], [([(0, 0)], [iT (0, 0)], [], []), ([(0, 0)], [iT (0, 1)], [], [])], [], false, [])
def k_20 : Ctr := (57, 0, [(0, 0)], [rT [88], iT (1, 0)], [1], [([(0, 0)], [iT (0, 0)], [], []), ([(0, 0)], [iT (0, 1)], [], [])], [], false, [])
def k_21 : Ctr := (57, 0, [(0, 0)], [rT [26, 39, 63, 68, 73, 78, 83, 88], iT (1, 0)], [1], [([(0, 0)], [iT (0, 0)], [], []), ([(0, 0)], [iT (0, 1)], [], [])], [], false, [])
def k_22 : Ctr := (207, 0, [fI, (0, 0)], [iT (1, 0), iT (2, 0)], [0, 1], [([(0, 2147483647), (0, 0)], [iT (1, 0)], [], []), ([((-2147483648), (-1)), (0, 0)], [iT (2, 0)], [], [])], [], false, [])
def k_23 : Ctr := (61, 0, [fI], [iT (1, 0), rT [31]], [0], [([fI], [iT (0, 0)], [], []), ([fI], [iT (0, 1)], [], [])], [], false, [])
def k_24 : Ctr := (59, 1, [fI, fI], [rT [26], iT (1, 0), iT (2, 0), rT [31]], [1, 2], [([fI, fI], [iT (0, 0)], [], []), ([fI, fI], [iT (0, 1)], [], [])], [], false, [])
def k_25 : Ctr := (58, 2, [(0, 2)], [rT [26], iT (1, 0), rT [31]], [1], [([(0, 2), fI], [iT (2, 0)], [], [(999999, 0)])], [], false, [])
def k_26 : Ctr := (59, 1, [fI, fI], [rT [39], iT (1, 0), iT (2, 0), rT [31]], [1, 2], [([fI, fI], [iT (0, 0)], [], []), ([fI, fI], [iT (0, 1)], [], [])], [], false, [])
def k_27 : Ctr := (58, 2, [(0, 2)], [rT [39], iT (1, 0), rT [31]], [1], [([(0, 2), fI], [iT (2, 0)], [], [(999999, 0)])], [], false, [])
def k_28 : Ctr := (59, 1, [fI, fI], [rT [63], iT (1, 0), iT (2, 0), rT [31]], [1, 2], [([fI, fI], [iT (0, 0)], [], []), ([fI, fI], [iT (0, 1)], [], [])], [], false, [])
def k_29 : Ctr := (58, 2, [(0, 2)], [rT [63], iT (1, 0), rT [31]], [1], [([(0, 2), fI], [iT (2, 0)], [], [(999999, 0)])], [], false, [])
def k_30 : Ctr := (59, 1, [fI, fI], [rT [68], iT (1, 0), iT (2, 0), rT [31]], [1, 2], [([fI, fI], [iT (0, 0)], [], []), ([fI, fI], [iT (0, 1)], [], [])], [], false, [])
def k_31 : Ctr := (58, 2, [(0, 2)], [rT [68], iT (1, 0), rT [31]], [1], [([(0, 2), fI], [iT (2, 0)], [], [(999999, 0)])], [], false, [])
def k_32 : Ctr := (59, 1, [fI, fI], [rT [73], iT (1, 0), iT (2, 0), rT [31]], [1, 2], [([fI, fI], [iT (0, 0)], [], []), ([fI, fI], [iT (0, 1)], [], [])], [], false, [])
def k_33 : Ctr := (58, 2, [(0, 2)], [rT [73], iT (1, 0), rT [31]], [1], [([(0, 2), fI], [iT (2, 0)], [], [(999999, 0)])], [], false, [])
def k_34 : Ctr := (59, 1, [fI, fI], [rT [78], iT (1, 0), iT (2, 0), rT [31]], [1, 2], [([fI, fI], [iT (0, 0)], [], []), ([fI, fI], [iT (0, 1)], [], [])], [], false, [])
def k_35 : Ctr := (58, 2, [(0, 2)], [rT [78], iT (1, 0), rT [31]], [1], [([(0, 2), fI], [iT (2, 0)], [], [(999999, 0)])], [], false, [])
def k_36 : Ctr := (59, 1, [fI, fI], [rT [83], iT (1, 0), iT (2, 0), rT [31]], [1, 2], [([fI, fI], [iT (0, 0)], [], []), ([fI, fI], [iT (0, 1)], [], [])], [], false, [])
def k_37 : Ctr := (58, 2, [(0, 2)], [rT [83], iT (1, 0), rT [31]], [1], [([(0, 2), fI], [iT (2, 0)], [], [(999999, 0)])], [], false, [])
def k_38 : Ctr := (59, 1, [fI, fI], [rT [88], iT (1, 0), iT (2, 0), rT [31]], [1, 2], [([fI, fI], [iT (0, 0)], [], []), ([fI, fI], [iT (0, 1)], [], [])], [], false, [])
def k_39 : Ctr := (58, 2, [(0, 2)], [rT [88], iT (1, 0), rT [31]], [1], [([(0, 2), fI], [iT (2, 0)], [], [(999999, 0)])], [], false, [])
def k_40 : Ctr := (58, 2, [(0, 2)], [rT [26, 39, 63, 68, 73, 78, 83, 88], iT (1, 0), rT [31]], [1], [([(0, 2), fI], [iT (2, 0)], [], [(999999, 0)])], [], false, [])
def k_41 : Ctr := (206, 0, [((-6), 6)], [iT (1, 0)], [0], [([((-6), (-1)), fI], [iT (2, 0)], [], [(999999, 0)]), ([(0, 6)], [iT (1, 0)], [], [])], [], false, [])
def k_42 : Ctr := (12, 1, [(0, 6)], [rT [17], iT (1, 0)], [1], [([(0, 6)], [], [], [])], [(32, 999)], false, [])
def k_43 : Ctr := (204, 0, [fI], [iT (1, 0)], [0], [([fI, (0, 63)], [iT (2, 0)], [], [(999999, 0)])], [], false, [])
def k_44 : Ctr := (17, 1, [(0, 6)], [rT [17], iT (1, 0)], [1], [([(0, 6), (0, 6)], [iT (2, 0)], [], [(999999, 0)])], [], false, [])
def k_45 : Ctr := (16, 1, [(0, 6)], [rT [17], iT (1, 0)], [1], [([(0, 6), (0, 6)], [iT (2, 0)], [], [(999999, 0)])], [], false, [])
def k_46 : Ctr := (26, 0, [fI], [rT [18], iT (1, 0)], [1], [([fI], [iT (0, 0)], [], []), ([(0, 6)], [iT (0, 1)], [], [])], [], false, [])
def k_47 : Ctr := (208, 0, [(0, 7), (3, 6)], [iT (1, 0), iT (2, 0)], [0, 1], [([(0, 6), (3, 6)], [iT (1, 0)], [], []), ([(4, 7), (3, 6)], [iT (2, 0)], [], [])], [], false, [])
def k_48 : Ctr := (23, 0, [(0, 6)], [rT [17], iT (1, 0)], [1], [([(0, 6), (0, 19)], [iT (2, 0)], [], [(999999, 0)])], [], false, [])
def k_49 : Ctr := (21, 1, [(0, 6), (0, 6)], [rT [17], iT (1, 0), iT (2, 0)], [1, 2], [([(0, 6), (0, 6)], [iT (2, 1)], [], [])], [(37, 999)], false, [])
def k_50 : Ctr := (22, 1, [(0, 7), (0, 6)], [rT [17], iT (1, 0)], [1, 100], [([(0, 7), (0, 6)], [iT (1, 1)], [], [])], [(37, 999)], false, [(17, 15, (2, 0))])
def k_51 : Ctr := (20, 2, [], [rT [17]], [], [([(0, 8)], [iT (1, 0)], [], [(999999, 0)])], [(37, 999)], false, [])
def k_52 : Ctr := (18, 1, [(0, 6)], [rT [17], iT (1, 0)], [1], [([(0, 6)], [iT (0, 0)], [], []), ([(0, 6), fI], [iT (2, 0)], [], [(999999, 0)])], [], false, [])
def k_53 : Ctr := (19, 1, [fI], [rT [17], iT (1, 0)], [1], [([fI, fI], [iT (2, 0)], [], [(999999, 0)])], [], false, [])
def k_54 : Ctr := (27, 1, [(0, 6)], [rT [1], iT (1, 0)], [1], [([(0, 6)], [iT (0, 0)], [], []), ([(0, 6)], [iT (0, 1)], [], [])], [], false, [])
def k_55 : Ctr := (65, 1, [fI, fI, fI], [rT [0], iT (1, 0), iT (2, 0), iT (3, 0)], [1, 2, 3], [([fI, fI, fI], [iT (0, (-1))], [], []), ([(0, 6), (0, 1), fI], [iT (0, (-2))], [], []), ([(0, 6), (0, 1), (0, 9), (0, 9)], [iT (4, 0)], [], [(999999, 0)])], [(4, 999), (6, 999)], false, [])
def k_56 : Ctr := (66, 2, [fI, (0, 1)], [rT [0], iT (1, 0), iT (2, 0)], [1, 2], [([fI, (0, 1)], [iT (0, (-1))], [], []), ([(0, 6), (0, 1)], [iT (0, 0)], [], []), ([(0, 6), (0, 1)], [iT (0, 1)], [], [])], [(1, 7)], false, [])
def k_57 : Ctr := (67, 1, [fI, fI, fI], [rT [0], iT (1, 0), iT (2, 0), iT (3, 0)], [1, 2, 3], [([fI, fI, fI, ((-3), 6)], [iT (4, 0)], [], [(999999, 0)])], [(7, 999)], false, [])
def k_58 : Ctr := (41, 0, [(0, 127)], [rT [44], iT (1, 0)], [1], [([(0, 127)], [iT (0, 0)], [], []), ([(0, 127)], [iT (0, 1)], [], [])], [(44, 1), (45, 999)], false, [])
def k_59 : Ctr := (68, 1, [fI], [rT [0], iT (1, 0)], [1], [([fI], [iT (0, (-2))], [], []), ([(0, 127)], [iT (0, (-4))], [], []), ([(0, 127), (0, 100)], [iT (2, 0)], [], [(999999, 0)])], [(44, 1), (45, 999)], false, [])
def k_60 : Ctr := (54, 0, [], [rT [46]], [], [([], [], [], [])], [(46, 0), (46, 5)], false, [])
def k_61 : Ctr := (54, 0, [], [rT [63]], [], [([], [], [], [])], [(63, 0), (63, 5)], false, [])
def k_62 : Ctr := (54, 0, [], [rT [68]], [], [([], [], [], [])], [(68, 0), (68, 5)], false, [])
def k_63 : Ctr := (54, 0, [], [rT [73]], [], [([], [], [], [])], [(73, 0), (73, 5)], false, [])
def k_64 : Ctr := (54, 0, [], [rT [78]], [], [([], [], [], [])], [(78, 0), (78, 5)], false, [])
def k_65 : Ctr := (54, 0, [], [rT [83]], [], [([], [], [], [])], [(83, 0), (83, 5)], false, [])
def k_66 : Ctr := (54, 0, [], [rT [88]], [], [([], [], [], [])], [(88, 0), (88, 5)], false, [])
def k_67 : Ctr := (54, 0, [], [rT [46, 63, 68, 73, 78, 83, 88]], [], [([], [], [], [])], w_3, false, [])
def k_68 : Ctr := (49, 0, [], [rT [44]], [], [([(0, 100)], [iT (0, 0)], [(44, 2, (1, 0))], [(44, 2)]), ([(0, 99)], [iT (0, 1)], [(44, 2, (1, 0))], [(44, 2)])], [], false, [])
def k_69 : Ctr := (50, 1, [(0, 65535)], [rT [44], iT (1, 0)], [1], [([(0, 65535), (0, 100)], [iT (0, 0)], [(44, 2, (2, 0))], [(44, 2)]), ([(0, 127), (1, 100)], [iT (0, 1)], [(44, 2, (2, 0))], [(44, 2)])], [(44, 2)], false, [])
def k_70 : Ctr := (213, 0, [], [rT [1000003]], [], [([], [iT (0, 0)], [], [])], [], false, [])
def k_71 : Ctr := (209, 1, [], [rT [1000003]], [], [([(0, 4)], [iT (1, 0)], [], [(999999, 0)])], [], false, [])
def k_72 : Ctr := (214, 0, [], [rT [1000003]], [], [([], [iT (0, 1)], [], [])], [], false, [])
def k_73 : Ctr := (222, 0, [(0, 3), (4, 4)], [iT (1, 0), iT (2, 0), rT [1000013]], [0, 1], [([(0, 3), (4, 4)], [iT (1, 0)], [], [])], [], false, [])
def k_74 : Ctr := (215, 1, [(0, 3), (4, 4)], [iT (1, 0), iT (2, 0)], [0, 1], [([(0, 3), (4, 4)], [], [], [])], [], false, [])
def k_75 : Ctr := (216, 2, [(0, 3)], [rT [1000008], iT (1, 0)], [1], [([(0, 3), (0, 65535)], [iT (2, 0)], [], [(999999, 0)])], [], false, [])
def k_76 : Ctr := (210, 3, [(0, 3)], [rT [1000003], iT (1, 0)], [1], [([(0, 3), (0, 65535)], [iT (2, 0)], [], [(999999, 0)])], [], false, [])
def k_77 : Ctr := (51, 4, [], [rT [44], rT [1000003]], [], [([(0, 100)], [iT (0, 0)], [(44, 2, (1, 0))], [(44, 2)]), ([], [iT (0, 1)], [], [])], [(44, 2)], false, [])
def k_78 : Ctr := (213, 0, [], [rT [1000004]], [], [([], [iT (0, 0)], [], [])], [], false, [])
def k_79 : Ctr := (209, 1, [], [rT [1000004]], [], [([(0, 3)], [iT (1, 0)], [], [(999999, 0)])], [], false, [])
def k_80 : Ctr := (214, 0, [], [rT [1000004]], [], [([], [iT (0, 1)], [], [])], [], false, [])
def k_81 : Ctr := (222, 0, [(0, 2), (3, 3)], [iT (1, 0), iT (2, 0), rT [1000013]], [0, 1], [([(0, 2), (3, 3)], [iT (1, 0)], [], [])], [], false, [])
def k_82 : Ctr := (215, 1, [(0, 2), (3, 3)], [iT (1, 0), iT (2, 0)], [0, 1], [([(0, 2), (3, 3)], [], [], [])], [], false, [])
def k_83 : Ctr := (216, 2, [(0, 2)], [rT [1000009], iT (1, 0)], [1], [([(0, 2), (0, 65535)], [iT (2, 0)], [], [(999999, 0)])], [], false, [])
def k_84 : Ctr := (210, 3, [(0, 2)], [rT [1000004], iT (1, 0)], [1], [([(0, 2), (0, 65535)], [iT (2, 0)], [], [(999999, 0)])], [], false, [])
def k_85 : Ctr := (51, 4, [], [rT [44], rT [1000004]], [], [([(0, 100)], [iT (0, 0)], [(44, 2, (1, 0))], [(44, 2)]), ([], [iT (0, 1)], [], [])], [(44, 2)], false, [])
def k_86 : Ctr := (213, 0, [], [rT [1000005]], [], [([], [iT (0, 0)], [], [])], [], false, [])
def k_87 : Ctr := (209, 1, [], [rT [1000005]], [], [([(0, 4)], [iT (1, 0)], [], [(999999, 0)])], [], false, [])
def k_88 : Ctr := (214, 0, [], [rT [1000005]], [], [([], [iT (0, 1)], [], [])], [], false, [])
def k_89 : Ctr := (216, 2, [(0, 3)], [rT [1000010], iT (1, 0)], [1], [([(0, 3), (0, 65535)], [iT (2, 0)], [], [(999999, 0)])], [], false, [])
def k_90 : Ctr := (210, 3, [(0, 3)], [rT [1000005], iT (1, 0)], [1], [([(0, 3), (0, 65535)], [iT (2, 0)], [], [(999999, 0)])], [], false, [])
def k_91 : Ctr := (51, 4, [], [rT [44], rT [1000005]], [], [([(0, 100)], [iT (0, 0)], [(44, 2, (1, 0))], [(44, 2)]), ([], [iT (0, 1)], [], [])], [(44, 2)], false, [])
def k_92 : Ctr := (44, 5, [], [rT [44]], [], [([(0, 100)], [iT (0, (-1))], [(44, 2, (1, 0))], [(44, 2)]), ([], [iT (0, 0)], [], []), ([], [iT (0, 1)], [], []), ([], [iT (0, 2)], [], [])], [(44, 2)], false, [])
def k_93 : Ctr := (45, 1, [], [rT [44]], [], [([(0, 100)], [iT (0, (-1))], [(44, 2, (1, 0))], [(44, 2)]), ([fI], [iT (1, 0)], [], [(999999, 0)])], [(44, 2)], false, [])
def k_94 : Ctr := (214, 0, [], [rT [1000006]], [], [([], [iT (0, 1)], [], [])], [], false, [])
def k_95 : Ctr := (213, 0, [], [rT [1000006]], [], [([], [iT (0, 0)], [], [])], [], false, [])
def k_96 : Ctr := (209, 1, [], [rT [1000006]], [], [([(0, 6)], [iT (1, 0)], [], [(999999, 0)])], [], false, [])
def k_97 : Ctr := (217, 0, [(0, 65535)], [iT (1, 0)], [0], [([(256, 65535)], [iT (0, 0)], [], []), ([(0, 255)], [iT (0, 1)], [], [])], [], false, [])
def k_98 : Ctr := (219, 0, [(0, 255), (0, 0), (1, 6)], [rT [1000011], iT (1, 0), iT (2, 0), iT (3, 0)], [1, 2, 3], [([(0, 255), (0, 0), (1, 6)], [iT (0, (-1))], [], []), ([(0, 255), (0, 0), (1, 6), (0, 5)], [iT (4, 0)], [], [(999999, 0)])], [], false, [])
def k_99 : Ctr := (218, 1, [(0, 65535), (0, 0), (0, 6)], [rT [1000011], iT (1, 0), iT (2, 0), iT (3, 0)], [1, 2, 3], [([(0, 65535), (0, 0), (0, 6)], [iT (0, (-1))], [], []), ([(0, 255), (0, 0), (1, 6), (0, 5)], [iT (4, 0)], [], [(999999, 0)])], [], false, [])
def k_100 : Ctr := (212, 2, [(0, 65535), (0, 0)], [rT [1000006], iT (1, 0), iT (2, 0)], [1, 2], [([(0, 65535), (0, 0)], [iT (0, (-1))], [], []), ([(0, 255), (0, 0), (0, 5)], [iT (3, 0)], [], [(999999, 0)])], [], false, [])
def k_101 : Ctr := (211, 3, [(0, 65535)], [rT [1000006], iT (1, 0)], [1], [([(0, 65535)], [iT (0, (-1))], [], []), ([(0, 255), (0, 5)], [iT (2, 0)], [], [(999999, 0)])], [], false, [])
def k_102 : Ctr := (52, 4, [], [rT [44], rT [1000006]], [], [([(0, 100)], [iT (0, (-1))], [(44, 2, (1, 0))], [(44, 2)]), ([(0, 5), (1, 100)], [iT (1, 0)], [(44, 2, (2, 0))], [(999999, 0), (44, 2)])], [(44, 2)], false, [])
def k_103 : Ctr := (214, 0, [], [rT [1000007]], [], [([], [iT (0, 1)], [], [])], [], false, [])
def k_104 : Ctr := (213, 0, [], [rT [1000007]], [], [([], [iT (0, 0)], [], [])], [], false, [])
def k_105 : Ctr := (209, 1, [], [rT [1000007]], [], [([(0, 3)], [iT (1, 0)], [], [(999999, 0)])], [], false, [])
def k_106 : Ctr := (219, 0, [(0, 255), (0, 0), (1, 3)], [rT [1000012], iT (1, 0), iT (2, 0), iT (3, 0)], [1, 2, 3], [([(0, 255), (0, 0), (1, 3)], [iT (0, (-1))], [], []), ([(0, 255), (0, 0), (1, 3), (0, 2)], [iT (4, 0)], [], [(999999, 0)])], [], false, [])
def k_107 : Ctr := (218, 1, [(0, 65535), (0, 0), (0, 3)], [rT [1000012], iT (1, 0), iT (2, 0), iT (3, 0)], [1, 2, 3], [([(0, 65535), (0, 0), (0, 3)], [iT (0, (-1))], [], []), ([(0, 255), (0, 0), (1, 3), (0, 2)], [iT (4, 0)], [], [(999999, 0)])], [], false, [])
def k_108 : Ctr := (212, 2, [(0, 65535), (0, 0)], [rT [1000007], iT (1, 0), iT (2, 0)], [1, 2], [([(0, 65535), (0, 0)], [iT (0, (-1))], [], []), ([(0, 255), (0, 0), (0, 2)], [iT (3, 0)], [], [(999999, 0)])], [], false, [])
def k_109 : Ctr := (211, 3, [(0, 65535)], [rT [1000007], iT (1, 0)], [1], [([(0, 65535)], [iT (0, (-1))], [], []), ([(0, 255), (0, 2)], [iT (2, 0)], [], [(999999, 0)])], [], false, [])
def k_110 : Ctr := (52, 4, [], [rT [44], rT [1000007]], [], [([(0, 100)], [iT (0, (-1))], [(44, 2, (1, 0))], [(44, 2)]), ([(0, 2), (1, 100)], [iT (1, 0)], [(44, 2, (2, 0))], [(999999, 0), (44, 2)])], [(44, 2)], false, [])
def k_111 : Ctr := (60, 0, [(0, 5), (0, 2), (0, 2147483647)], [iT (1, 0), iT (2, 0), iT (3, 0)], [0, 1, 2], [([(0, 5), (0, 2), (0, 2147483647), fI], [iT (4, 0)], [], [(999999, 0)])], [], false, [])
def k_112 : Ctr := (55, 0, [fI], [rT [46], iT (1, 0)], [1], [([fI], [], [], [])], [(46, 5), (50, 999)], false, [])
def k_113 : Ctr := (55, 0, [fI], [rT [63], iT (1, 0)], [1], [([fI], [], [], [])], [(63, 5), (67, 999)], false, [])
def k_114 : Ctr := (55, 0, [fI], [rT [68], iT (1, 0)], [1], [([fI], [], [], [])], [(68, 5), (72, 999)], false, [])
def k_115 : Ctr := (55, 0, [fI], [rT [73], iT (1, 0)], [1], [([fI], [], [], [])], [(73, 5), (77, 999)], false, [])
def k_116 : Ctr := (55, 0, [fI], [rT [78], iT (1, 0)], [1], [([fI], [], [], [])], [(78, 5), (82, 999)], false, [])
def k_117 : Ctr := (55, 0, [fI], [rT [83], iT (1, 0)], [1], [([fI], [], [], [])], [(83, 5), (87, 999)], false, [])
def k_118 : Ctr := (55, 0, [fI], [rT [88], iT (1, 0)], [1], [([fI], [], [], [])], [(88, 5), (92, 999)], false, [])
def k_119 : Ctr := (55, 0, [fI], [rT [46, 63, 68, 73, 78, 83, 88], iT (1, 0)], [1], [([fI], [], [], [])], w_4, false, [])
def k_120 : Ctr := (48, 5, [], [rT [44], iT (0, 4)], [], [([], [iT (0, 0)], [], []), ([], [iT (0, 1)], [], [])], w_5, false, [])
def k_121 : Ctr := (47, 6, [], [rT [44], iT (0, 4)], [], [([(0, 1)], [iT (1, 0)], [], [(999999, 0)])], w_5, false, [])
def k_122 : Ctr := (46, 7, [], [rT [44], iT (0, 4)], [], [([(0, 1)], [iT (1, 0)], [], [(999999, 0)])], w_5, false, [])
def k_123 : Ctr := (48, 8, [], [rT [44], iT (0, 3)], [], [([], [iT (0, 0)], [], []), ([], [iT (0, 1)], [], [])], w_5, false, [])
def k_124 : Ctr := (47, 9, [], [rT [44], iT (0, 3)], [], [([(0, 1)], [iT (1, 0)], [], [(999999, 0)])], w_5, false, [])
def k_125 : Ctr := (46, 10, [], [rT [44], iT (0, 3)], [], [([(0, 1)], [iT (1, 0)], [], [(999999, 0)])], w_5, false, [])
def k_126 : Ctr := (48, 11, [], [rT [44], iT (0, 2)], [], [([], [iT (0, 0)], [], []), ([], [iT (0, 1)], [], [])], w_5, false, [])
def k_127 : Ctr := (47, 12, [], [rT [44], iT (0, 2)], [], [([(0, 1)], [iT (1, 0)], [], [(999999, 0)])], w_5, false, [])
def k_128 : Ctr := (46, 13, [], [rT [44], iT (0, 2)], [], [([(0, 1)], [iT (1, 0)], [], [(999999, 0)])], w_5, false, [])
def k_129 : Ctr := (48, 14, [], [rT [44], iT (0, 1)], [], [([], [iT (0, 0)], [], []), ([], [iT (0, 1)], [], [])], w_5, false, [])
def k_130 : Ctr := (47, 15, [], [rT [44], iT (0, 1)], [], [([(0, 1)], [iT (1, 0)], [], [(999999, 0)])], w_5, false, [])
def k_131 : Ctr := (46, 16, [], [rT [44], iT (0, 1)], [], [([(0, 1)], [iT (1, 0)], [], [(999999, 0)])], w_5, false, [])
def k_132 : Ctr := (48, 17, [], [rT [44], iT (0, 0)], [], [([], [iT (0, 0)], [], []), ([], [iT (0, 1)], [], [])], w_5, false, [])
def k_133 : Ctr := (47, 18, [], [rT [44], iT (0, 0)], [], [([(0, 1)], [iT (1, 0)], [], [(999999, 0)])], w_5, false, [])
def k_134 : Ctr := (46, 19, [], [rT [44], iT (0, 0)], [], [([(0, 1)], [iT (1, 0)], [], [(999999, 0)])], w_5, false, [])
def k_135 : Ctr := (56, 0, [(0, 2), (0, 2147483647)], [rT [46], iT (1, 0), iT (2, 0)], [1, 2], [([(0, 2), (0, 2147483647)], [], [], [])], [(46, 0), (47, 999), (48, 999), (49, 999)], false, [])
def k_136 : Ctr := (56, 0, [(0, 2), (0, 2147483647)], [rT [63], iT (1, 0), iT (2, 0)], [1, 2], [([(0, 2), (0, 2147483647)], [], [], [])], [(63, 0), (64, 999), (65, 999), (66, 999)], false, [])
def k_137 : Ctr := (56, 0, [(0, 2), (0, 2147483647)], [rT [68], iT (1, 0), iT (2, 0)], [1, 2], [([(0, 2), (0, 2147483647)], [], [], [])], [(68, 0), (69, 999), (70, 999), (71, 999)], false, [])
def k_138 : Ctr := (56, 0, [(0, 2), (0, 2147483647)], [rT [73], iT (1, 0), iT (2, 0)], [1, 2], [([(0, 2), (0, 2147483647)], [], [], [])], [(73, 0), (74, 999), (75, 999), (76, 999)], false, [])
def k_139 : Ctr := (56, 0, [(0, 2), (0, 2147483647)], [rT [78], iT (1, 0), iT (2, 0)], [1, 2], [([(0, 2), (0, 2147483647)], [], [], [])], [(78, 0), (79, 999), (80, 999), (81, 999)], false, [])
def k_140 : Ctr := (56, 0, [(0, 2), (0, 2147483647)], [rT [83], iT (1, 0), iT (2, 0)], [1, 2], [([(0, 2), (0, 2147483647)], [], [], [])], [(83, 0), (84, 999), (85, 999), (86, 999)], false, [])
def k_141 : Ctr := (56, 0, [(0, 2), (0, 2147483647)], [rT [88], iT (1, 0), iT (2, 0)], [1, 2], [([(0, 2), (0, 2147483647)], [], [], [])], [(88, 0), (89, 999), (90, 999), (91, 999)], false, [])
def k_142 : Ctr := (56, 0, [(0, 2), (0, 2147483647)], [rT [46, 63, 68, 73, 78, 83, 88], iT (1, 0), iT (2, 0)], [1, 2], [([(0, 2), (0, 2147483647)], [], [], [])], w_6, false, [])
def k_143 : Ctr := (43, 20, [], [rT [44]], [], [([], [iT (0, 0)], [], []), ([], [iT (0, 1)], [], [])], w_7, false, [])
def k_144 : Ctr := (42, 21, [], [rT [44], rT [63, 68, 73, 78, 83, 88]], [], [([(0, 100)], [iT (0, (-1))], [(44, 2, (1, 0))], [(44, 2)]), ([(0, 100), (0, 100)], [iT (1, 0)], [(44, 2, (2, 0))], [(999999, 0), (44, 2)])], w_8, false, [])
def k_145 : Ctr := (69, 22, [], [rT [0]], [], [([], [iT (0, (-4))], [], []), ([((-110), 5), (0, 100)], [iT (1, 0)], [(44, 2, (2, 0))], [(999999, 0), (44, 2)])], w_9, false, [])
def k_146 : Ctr := (28, 0, [], [rT [1]], [], [([(0, 127)], [iT (1, 0)], [], [(999999, 0)])], [], false, [])
def k_147 : Ctr := (29, 1, [], [rT [1]], [], [([(0, 127)], [iT (1, 0)], [], [(999999, 0)])], [], false, [])
def k_148 : Ctr := (70, 2, [fI], [rT [0], iT (1, 0)], [1], [([fI], [iT (0, (-1))], [], []), ([(0, 2), fI], [iT (2, 0)], [], [(999999, 0)])], [], false, [])
def k_149 : Ctr := (105, 1, [(0, 127)], [iT (1, 0)], [0], [([(0, 127)], [iT (0, (-5))], [], []), ([(0, 127), (0, 6)], [iT (2, 0)], [], [(999999, 0)])], [], false, [])
def k_150 : Ctr := (7, 0, [(0, 6), (0, 6)], [rT [17], iT (1, 0), iT (2, 0)], [1, 2], [([(0, 6), (0, 6)], [], [], [])], [(17, 13), (17, 14)], false, [])
def k_151 : Ctr := (106, 0, [((-2), 3)], [iT (1, 0)], [0], [([((-2), 0)], [iT (0, 1)], [], []), ([(3, 3)], [iT (0, 343)], [], []), ([(2, 2)], [iT (0, 49)], [], []), ([(1, 1)], [iT (0, 7)], [], [])], [], false, [])
def k_152 : Ctr := (8, 0, [(0, 6), (0, 6)], [rT [17], iT (1, 0), iT (2, 0)], [1, 2], [([(0, 6), (0, 6)], [], [], [])], [(17, 15), (17, 16)], false, [])
def k_153 : Ctr := (30, 1, [fI], [rT [1], iT (1, 0)], [1], [([fI], [iT (0, 0)], [], []), ([fI], [iT (0, 1)], [], [])], [], false, [])
def k_154 : Ctr := (82, 2, [fI], [rT [0], iT (1, 0)], [1], [([fI], [iT (0, (-2))], [], []), ([fI, fI], [iT (2, 0)], [], [(999999, 0)])], [(1, 9)], false, [])
def k_155 : Ctr := (107, 0, [fI, (1, 30), (0, 1)], [iT (1, 0), iT (2, 0), iT (3, 0)], [0, 1, 2], [([fI, (1, 30), (0, 1)], [lT (0, (-9223372036854775808))], [], []), ([fI, (1, 30), (0, 1), fI], [lT (4, 0)], [], [(999999, 0)])], [], false, [])
def k_156 : Ctr := (86, 2, [fI], [rT [0], iT (1, 0)], [1], [([fI, ((-4), 12)], [iT (2, 0)], [], [(999999, 0)])], [(1, 11), (8, 999)], false, [])
def k_157 : Ctr := (35, 0, [fI], [rT [53], iT (1, 0)], [1], [([fI], [iT (0, 0)], [], []), ([(0, 5)], [iT (0, 1)], [], [])], [], false, [])
def k_158 : Ctr := (36, 1, [(0, 5), fI], [rT [53], iT (1, 0), lT (2, 0)], [1, 2], [([(0, 5), fI], [iT (0, 0)], [], []), ([(0, 5), (0, 59)], [iT (0, 1)], [], [])], [], false, [])
def k_159 : Ctr := (88, 2, [fI, fI], [rT [0], iT (1, 0), iT (2, 0)], [1, 2], [([fI, fI, ((-12), 106)], [iT (3, 0)], [], [(999999, 0)])], [], false, [])
def k_160 : Ctr := (33, 0, [], [rT [9], rT [1]], [], [([], [], [], [])], w_10, false, [])
def k_161 : Ctr := (89, 1, [], [rT [0]], [], [([(0, 7)], [iT (1, 0)], [], [(999999, 0)])], w_11, false, [])
def k_162 : Ctr := (33, 0, [], [rT [1], rT [9]], [], [([], [], [], [])], w_12, false, [])
def k_163 : Ctr := (90, 1, [], [rT [0]], [], [([], [iT (0, (-3))], [], []), ([(0, 7)], [iT (1, 0)], [], [(999999, 0)])], w_12, false, [])
def k_164 : Ctr := (3, 0, [(0, 2), fI], [iT (1, 0), iT (2, 0)], [0, 1], [([(0, 2), fI], [iT (0, (-1))], [], []), ([(0, 2), fI, (0, 6)], [iT (3, 0)], [], [(999999, 0)])], [], false, [])
def k_165 : Ctr := (4, 0, [(0, 71)], [rT [51], iT (1, 0)], [1], [([(0, 71)], [], [], [])], [(51, 4), (52, 999)], false, [])
def k_166 : Ctr := (2, 1, [(0, 2), fI, fI], [rT [51], iT (1, 0), iT (2, 0), iT (3, 0), iT (0, 41)], [1, 2, 3], [([(0, 2), fI, fI], [iT (0, 0)], [], [])], [], false, [])
def k_167 : Ctr := (2, 2, [(0, 2), fI, fI], [rT [51], iT (1, 0), iT (2, 0), iT (3, 0), iT (0, 40)], [1, 2, 3], [([(0, 2), fI, fI], [iT (0, 0)], [], []), ([(0, 2), fI, fI, fI], [iT (4, 0)], [], [(999999, 0)])], [(51, 4), (52, 999)], false, [])
def k_168 : Ctr := (2, 3, [(0, 2), fI, fI], [rT [51], iT (1, 0), iT (2, 0), iT (3, 0), iT (0, 39)], [1, 2, 3], [([(0, 2), fI, fI], [iT (0, 0)], [], []), ([(0, 2), fI, fI, fI], [iT (4, 0)], [], [(999999, 0)])], [(51, 4), (52, 999)], false, [])
def k_169 : Ctr := (2, 4, [(0, 2), fI, fI], [rT [51], iT (1, 0), iT (2, 0), iT (3, 0), iT (0, 38)], [1, 2, 3], [([(0, 2), fI, fI], [iT (0, 0)], [], []), ([(0, 2), fI, fI, fI], [iT (4, 0)], [], [(999999, 0)])], [(51, 4), (52, 999)], false, [])
def k_170 : Ctr := (2, 5, [(0, 2), fI, fI], [rT [51], iT (1, 0), iT (2, 0), iT (3, 0), iT (0, 37)], [1, 2, 3], [([(0, 2), fI, fI], [iT (0, 0)], [], []), ([(0, 2), fI, fI, fI], [iT (4, 0)], [], [(999999, 0)])], [(51, 4), (52, 999)], false, [])
def k_171 : Ctr := (2, 6, [(0, 2), fI, fI], [rT [51], iT (1, 0), iT (2, 0), iT (3, 0), iT (0, 36)], [1, 2, 3], [([(0, 2), fI, fI], [iT (0, 0)], [], []), ([(0, 2), fI, fI, fI], [iT (4, 0)], [], [(999999, 0)])], [(51, 4), (52, 999)], false, [])
def k_172 : Ctr := (2, 7, [(0, 2), fI, fI], [rT [51], iT (1, 0), iT (2, 0), iT (3, 0), iT (0, 35)], [1, 2, 3], [([(0, 2), fI, fI], [iT (0, 0)], [], []), ([(0, 2), fI, fI, fI], [iT (4, 0)], [], [(999999, 0)])], [(51, 4), (52, 999)], false, [])
def k_173 : Ctr := (2, 8, [(0, 2), fI, fI], [rT [51], iT (1, 0), iT (2, 0), iT (3, 0), iT (0, 34)], [1, 2, 3], [([(0, 2), fI, fI], [iT (0, 0)], [], []), ([(0, 2), fI, fI, fI], [iT (4, 0)], [], [(999999, 0)])], [(51, 4), (52, 999)], false, [])
def k_174 : Ctr := (2, 9, [(0, 2), fI, fI], [rT [51], iT (1, 0), iT (2, 0), iT (3, 0), iT (0, 33)], [1, 2, 3], [([(0, 2), fI, fI], [iT (0, 0)], [], []), ([(0, 2), fI, fI, fI], [iT (4, 0)], [], [(999999, 0)])], [(51, 4), (52, 999)], false, [])
def k_175 : Ctr := (2, 10, [(0, 2), fI, fI], [rT [51], iT (1, 0), iT (2, 0), iT (3, 0), iT (0, 32)], [1, 2, 3], [([(0, 2), fI, fI], [iT (0, 0)], [], []), ([(0, 2), fI, fI, fI], [iT (4, 0)], [], [(999999, 0)])], [(51, 4), (52, 999)], false, [])
def k_176 : Ctr := (2, 11, [(0, 2), fI, fI], [rT [51], iT (1, 0), iT (2, 0), iT (3, 0), iT (0, 31)], [1, 2, 3], [([(0, 2), fI, fI], [iT (0, 0)], [], []), ([(0, 2), fI, fI, fI], [iT (4, 0)], [], [(999999, 0)])], [(51, 4), (52, 999)], false, [])
def k_177 : Ctr := (2, 12, [(0, 2), fI, fI], [rT [51], iT (1, 0), iT (2, 0), iT (3, 0), iT (0, 30)], [1, 2, 3], [([(0, 2), fI, fI], [iT (0, 0)], [], []), ([(0, 2), fI, fI, fI], [iT (4, 0)], [], [(999999, 0)])], [(51, 4), (52, 999)], false, [])
def k_178 : Ctr := (2, 13, [(0, 2), fI, fI], [rT [51], iT (1, 0), iT (2, 0), iT (3, 0), iT (0, 29)], [1, 2, 3], [([(0, 2), fI, fI], [iT (0, 0)], [], []), ([(0, 2), fI, fI, fI], [iT (4, 0)], [], [(999999, 0)])], [(51, 4), (52, 999)], false, [])
def k_179 : Ctr := (2, 14, [(0, 2), fI, fI], [rT [51], iT (1, 0), iT (2, 0), iT (3, 0), iT (0, 28)], [1, 2, 3], [([(0, 2), fI, fI], [iT (0, 0)], [], []), ([(0, 2), fI, fI, fI], [iT (4, 0)], [], [(999999, 0)])], [(51, 4), (52, 999)], false, [])
def k_180 : Ctr := (2, 15, [(0, 2), fI, fI], [rT [51], iT (1, 0), iT (2, 0), iT (3, 0), iT (0, 27)], [1, 2, 3], [([(0, 2), fI, fI], [iT (0, 0)], [], []), ([(0, 2), fI, fI, fI], [iT (4, 0)], [], [(999999, 0)])], [(51, 4), (52, 999)], false, [])
def k_181 : Ctr := (2, 16, [(0, 2), fI, fI], [rT [51], iT (1, 0), iT (2, 0), iT (3, 0), iT (0, 26)], [1, 2, 3], [([(0, 2), fI, fI], [iT (0, 0)], [], []), ([(0, 2), fI, fI, fI], [iT (4, 0)], [], [(999999, 0)])], [(51, 4), (52, 999)], false, [])
def k_182 : Ctr := (2, 17, [(0, 2), fI, fI], [rT [51], iT (1, 0), iT (2, 0), iT (3, 0), iT (0, 25)], [1, 2, 3], [([(0, 2), fI, fI], [iT (0, 0)], [], []), ([(0, 2), fI, fI, fI], [iT (4, 0)], [], [(999999, 0)])], [(51, 4), (52, 999)], false, [])
def k_183 : Ctr := (2, 18, [(0, 2), fI, fI], [rT [51], iT (1, 0), iT (2, 0), iT (3, 0), iT (0, 24)], [1, 2, 3], [([(0, 2), fI, fI], [iT (0, 0)], [], []), ([(0, 2), fI, fI, fI], [iT (4, 0)], [], [(999999, 0)])], [(51, 4), (52, 999)], false, [])
def k_184 : Ctr := (2, 19, [(0, 2), fI, fI], [rT [51], iT (1, 0), iT (2, 0), iT (3, 0), iT (0, 23)], [1, 2, 3], [([(0, 2), fI, fI], [iT (0, 0)], [], []), ([(0, 2), fI, fI, fI], [iT (4, 0)], [], [(999999, 0)])], [(51, 4), (52, 999)], false, [])
def k_185 : Ctr := (2, 20, [(0, 2), fI, fI], [rT [51], iT (1, 0), iT (2, 0), iT (3, 0), iT (0, 22)], [1, 2, 3], [([(0, 2), fI, fI], [iT (0, 0)], [], []), ([(0, 2), fI, fI, fI], [iT (4, 0)], [], [(999999, 0)])], [(51, 4), (52, 999)], false, [])
def k_186 : Ctr := (2, 21, [(0, 2), fI, fI], [rT [51], iT (1, 0), iT (2, 0), iT (3, 0), iT (0, 21)], [1, 2, 3], [([(0, 2), fI, fI], [iT (0, 0)], [], []), ([(0, 2), fI, fI, fI], [iT (4, 0)], [], [(999999, 0)])], [(51, 4), (52, 999)], false, [])
def k_187 : Ctr := (2, 22, [(0, 2), fI, fI], [rT [51], iT (1, 0), iT (2, 0), iT (3, 0), iT (0, 20)], [1, 2, 3], [([(0, 2), fI, fI], [iT (0, 0)], [], []), ([(0, 2), fI, fI, fI], [iT (4, 0)], [], [(999999, 0)])], [(51, 4), (52, 999)], false, [])
def k_188 : Ctr := (2, 23, [(0, 2), fI, fI], [rT [51], iT (1, 0), iT (2, 0), iT (3, 0), iT (0, 19)], [1, 2, 3], [([(0, 2), fI, fI], [iT (0, 0)], [], []), ([(0, 2), fI, fI, fI], [iT (4, 0)], [], [(999999, 0)])], [(51, 4), (52, 999)], false, [])
def k_189 : Ctr := (2, 24, [(0, 2), fI, fI], [rT [51], iT (1, 0), iT (2, 0), iT (3, 0), iT (0, 18)], [1, 2, 3], [([(0, 2), fI, fI], [iT (0, 0)], [], []), ([(0, 2), fI, fI, fI], [iT (4, 0)], [], [(999999, 0)])], [(51, 4), (52, 999)], false, [])
def k_190 : Ctr := (2, 25, [(0, 2), fI, fI], [rT [51], iT (1, 0), iT (2, 0), iT (3, 0), iT (0, 17)], [1, 2, 3], [([(0, 2), fI, fI], [iT (0, 0)], [], []), ([(0, 2), fI, fI, fI], [iT (4, 0)], [], [(999999, 0)])], [(51, 4), (52, 999)], false, [])
def k_191 : Ctr := (2, 26, [(0, 2), fI, fI], [rT [51], iT (1, 0), iT (2, 0), iT (3, 0), iT (0, 16)], [1, 2, 3], [([(0, 2), fI, fI], [iT (0, 0)], [], []), ([(0, 2), fI, fI, fI], [iT (4, 0)], [], [(999999, 0)])], [(51, 4), (52, 999)], false, [])
def k_192 : Ctr := (2, 27, [(0, 2), fI, fI], [rT [51], iT (1, 0), iT (2, 0), iT (3, 0), iT (0, 15)], [1, 2, 3], [([(0, 2), fI, fI], [iT (0, 0)], [], []), ([(0, 2), fI, fI, fI], [iT (4, 0)], [], [(999999, 0)])], [(51, 4), (52, 999)], false, [])
def k_193 : Ctr := (2, 28, [(0, 2), fI, fI], [rT [51], iT (1, 0), iT (2, 0), iT (3, 0), iT (0, 14)], [1, 2, 3], [([(0, 2), fI, fI], [iT (0, 0)], [], []), ([(0, 2), fI, fI, fI], [iT (4, 0)], [], [(999999, 0)])], [(51, 4), (52, 999)], false, [])
def k_194 : Ctr := (2, 29, [(0, 2), fI, fI], [rT [51], iT (1, 0), iT (2, 0), iT (3, 0), iT (0, 13)], [1, 2, 3], [([(0, 2), fI, fI], [iT (0, 0)], [], []), ([(0, 2), fI, fI, fI], [iT (4, 0)], [], [(999999, 0)])], [(51, 4), (52, 999)], false, [])
def k_195 : Ctr := (2, 30, [(0, 2), fI, fI], [rT [51], iT (1, 0), iT (2, 0), iT (3, 0), iT (0, 12)], [1, 2, 3], [([(0, 2), fI, fI], [iT (0, 0)], [], []), ([(0, 2), fI, fI, fI], [iT (4, 0)], [], [(999999, 0)])], [(51, 4), (52, 999)], false, [])
def k_196 : Ctr := (2, 31, [(0, 2), fI, fI], [rT [51], iT (1, 0), iT (2, 0), iT (3, 0), iT (0, 11)], [1, 2, 3], [([(0, 2), fI, fI], [iT (0, 0)], [], []), ([(0, 2), fI, fI, fI], [iT (4, 0)], [], [(999999, 0)])], [(51, 4), (52, 999)], false, [])
def k_197 : Ctr := (2, 32, [(0, 2), fI, fI], [rT [51], iT (1, 0), iT (2, 0), iT (3, 0), iT (0, 10)], [1, 2, 3], [([(0, 2), fI, fI], [iT (0, 0)], [], []), ([(0, 2), fI, fI, fI], [iT (4, 0)], [], [(999999, 0)])], [(51, 4), (52, 999)], false, [])
def k_198 : Ctr := (2, 33, [(0, 2), fI, fI], [rT [51], iT (1, 0), iT (2, 0), iT (3, 0), iT (0, 9)], [1, 2, 3], [([(0, 2), fI, fI], [iT (0, 0)], [], []), ([(0, 2), fI, fI, fI], [iT (4, 0)], [], [(999999, 0)])], [(51, 4), (52, 999)], false, [])
def k_199 : Ctr := (2, 34, [(0, 2), fI, fI], [rT [51], iT (1, 0), iT (2, 0), iT (3, 0), iT (0, 8)], [1, 2, 3], [([(0, 2), fI, fI], [iT (0, 0)], [], []), ([(0, 2), fI, fI, fI], [iT (4, 0)], [], [(999999, 0)])], [(51, 4), (52, 999)], false, [])
def k_200 : Ctr := (2, 35, [(0, 2), fI, fI], [rT [51], iT (1, 0), iT (2, 0), iT (3, 0), iT (0, 7)], [1, 2, 3], [([(0, 2), fI, fI], [iT (0, 0)], [], []), ([(0, 2), fI, fI, fI], [iT (4, 0)], [], [(999999, 0)])], [(51, 4), (52, 999)], false, [])
def k_201 : Ctr := (2, 36, [(0, 2), fI, fI], [rT [51], iT (1, 0), iT (2, 0), iT (3, 0), iT (0, 6)], [1, 2, 3], [([(0, 2), fI, fI], [iT (0, 0)], [], []), ([(0, 2), fI, fI, fI], [iT (4, 0)], [], [(999999, 0)])], [(51, 4), (52, 999)], false, [])
def k_202 : Ctr := (2, 37, [(0, 2), fI, fI], [rT [51], iT (1, 0), iT (2, 0), iT (3, 0), iT (0, 5)], [1, 2, 3], [([(0, 2), fI, fI], [iT (0, 0)], [], []), ([(0, 2), fI, fI, fI], [iT (4, 0)], [], [(999999, 0)])], [(51, 4), (52, 999)], false, [])
def k_203 : Ctr := (2, 38, [(0, 2), fI, fI], [rT [51], iT (1, 0), iT (2, 0), iT (3, 0), iT (0, 4)], [1, 2, 3], [([(0, 2), fI, fI], [iT (0, 0)], [], []), ([(0, 2), fI, fI, fI], [iT (4, 0)], [], [(999999, 0)])], [(51, 4), (52, 999)], false, [])
def k_204 : Ctr := (2, 39, [(0, 2), fI, fI], [rT [51], iT (1, 0), iT (2, 0), iT (3, 0), iT (0, 3)], [1, 2, 3], [([(0, 2), fI, fI], [iT (0, 0)], [], []), ([(0, 2), fI, fI, fI], [iT (4, 0)], [], [(999999, 0)])], [(51, 4), (52, 999)], false, [])
def k_205 : Ctr := (2, 40, [(0, 2), fI, fI], [rT [51], iT (1, 0), iT (2, 0), iT (3, 0), iT (0, 2)], [1, 2, 3], [([(0, 2), fI, fI], [iT (0, 0)], [], []), ([(0, 2), fI, fI, fI], [iT (4, 0)], [], [(999999, 0)])], [(51, 4), (52, 999)], false, [])
def k_206 : Ctr := (2, 41, [(0, 2), fI, fI], [rT [51], iT (1, 0), iT (2, 0), iT (3, 0), iT (0, 1)], [1, 2, 3], [([(0, 2), fI, fI], [iT (0, 0)], [], []), ([(0, 2), fI, fI, fI], [iT (4, 0)], [], [(999999, 0)])], [(51, 4), (52, 999)], false, [])
def k_207 : Ctr := (2, 42, [(0, 2), (0, 6), fI], [rT [51], iT (1, 0), iT (2, 0), iT (3, 0), iT (0, 0)], [1, 2, 3], [([(0, 2), (0, 6), fI], [iT (0, 0)], [], []), ([(0, 2), (0, 6), fI, fI], [iT (4, 0)], [], [(999999, 0)])], [(51, 4), (52, 999)], false, [])
def k_208 : Ctr := (91, 43, [fI, fI, fI], [rT [0], iT (1, 0), iT (2, 0), iT (3, 0)], [1, 2, 3], [([fI, fI, fI], [iT (0, 0)], [], []), ([(0, 6), (0, 2), fI, fI], [iT (4, 0)], [], [(999999, 0)])], [(51, 0), (51, 1), (51, 2), (51, 4), (52, 999)], false, [])
def k_209 : Ctr := (92, 0, [fI], [rT [0], iT (1, 0)], [1], [([fI], [iT (0, (-1))], [], []), ([(0, 19), fI], [iT (2, 0)], [], [(999999, 0)])], [], false, [])
def k_210 : Ctr := (93, 1, [fI, fI], [rT [0], iT (1, 0), iT (2, 0)], [1, 2], [([fI, fI, ((-12), 6)], [iT (3, 0)], [], [(999999, 0)])], [], false, [])
def k_211 : Ctr := (94, 0, [fI], [rT [0], iT (1, 0)], [1], [([fI], [iT (0, (-2))], [], []), ([(0, 4), fI], [iT (2, 0)], [], [(999999, 0)])], [], false, [])
def k_212 : Ctr := (220, 0, [(0, 0)], [rT [57, 58, 59, 60, 61, 62], lT (1, 0)], [1], [([(0, 0)], [], [], [])], w_13, false, [])
def k_213 : Ctr := (38, 1, [(0, 5), ((-1), 4), (0, 60)], [rT [53], iT (1, 0), iT (2, 0), iT (3, 0)], [1, 2, 3], [([(0, 5), ((-1), 4), (0, 60)], [], [], [])], w_14, false, [])
def k_214 : Ctr := (95, 2, [fI, fI, fI], [rT [0], iT (1, 0), iT (2, 0), iT (3, 0)], [1, 2, 3], [([fI, fI, fI], [iT (0, (-1))], [], []), ([(0, 5), (0, 4), ((-2147483648), (-1))], [iT (0, (-14))], [], []), ([(0, 5), fI, fI], [iT (0, (-2))], [], []), ([(0, 5), ((-1), 4), fI], [iT (0, 1)], [], [])], w_14, false, [])
def k_215 : Ctr := (39, 0, [((-1), 4), fL], [iT (1, 0), lT (2, 0)], [0, 1], [([(4, 4), (0, 0)], [lT (0, 0)], [], []), ([(4, 4), fL], [lT (0, 1)], [], []), ([(0, 2), fL, fI], [lT (3, 0)], [], [(999999, 0)]), ([((-1), 3), fL], [lT (2, 0)], [], [])], [], false, [])
def k_216 : Ctr := (96, 2, [fI, fI, fL], [rT [0], iT (1, 0), iT (2, 0), lT (3, 0)], [1, 2, 3], [([fI, fI, fL], [iT (0, (-1))], [], []), ([(0, 5), fI, fL], [iT (0, (-11))], [], []), ([(0, 5), fI, fL], [iT (0, (-13))], [], []), ([(0, 5), (0, 59), fL], [iT (0, 1)], [], [])], w_13, false, [])
def k_217 : Ctr := (97, 2, [fI, fI], [rT [0], iT (1, 0), iT (2, 0)], [1, 2], [([fI, fI], [lT (0, (-9223372036854775808))], [], []), ([(0, 5), (0, 59), fL], [lT (3, 0)], [], [(999999, 0)])], [], false, [])
def k_218 : Ctr := (109, 0, [fI, (0, 0), (6, 6)], [rT [93], iT (1, 0), iT (2, 0), iT (3, 0)], [1, 2, 3], [([fI, (0, 0), (6, 6)], [iT (0, 0)], [], []), ([(0, 6), (0, 0), (6, 6)], [iT (0, 1)], [], [])], [], false, [])
def k_219 : Ctr := (109, 0, [fI, (0, 0), (9, 9)], [rT [93], iT (1, 0), iT (2, 0), iT (3, 0)], [1, 2, 3], [([fI, (0, 0), (9, 9)], [iT (0, 0)], [], []), ([(0, 9), (0, 0), (9, 9)], [iT (0, 1)], [], [])], [], false, [])
def k_220 : Ctr := (114, 1, [fI, fI, fI, fI, fI], [rT [93], iT (1, 0), iT (2, 0), iT (3, 0), iT (4, 0), iT (5, 0)], [1, 2, 3, 4, 5], [([fI, fI, fI, fI, fI, ((-4), 6)], [iT (6, 0)], [], [(999999, 0)])], w_15, false, [])
def k_221 : Ctr := (109, 0, [fI, (0, 0), ((-1), 6)], [rT [93], iT (1, 0), iT (2, 0), iT (3, 0)], [1, 2, 3], [([fI, (0, 0), ((-1), 6)], [iT (0, 0)], [], []), ([(0, 6), (0, 0), (0, 6)], [iT (0, 1)], [], [])], [], false, [])
def k_222 : Ctr := (112, 1, [fI], [rT [93], iT (1, 0)], [1], [([fI], [iT (0, 0)], [], []), ([(0, 6)], [iT (0, 1)], [], [])], [], false, [])
def k_223 : Ctr := (110, 0, [fI, (0, 6)], [rT [93], iT (1, 0), iT (2, 0)], [1, 2], [([fI, (0, 6)], [iT (0, 0)], [], []), ([fI, (0, 6)], [iT (0, 1)], [], [])], [], false, [])
def k_224 : Ctr := (139, 1, [(0, 6)], [rT [93], iT (1, 0)], [1], [([(0, 6)], [iT (0, 0)], [], []), ([(0, 6)], [iT (0, 1)], [], [])], [], false, [])
def k_225 : Ctr := (142, 0, [(0, 6), (0, 6)], [rT [93], iT (1, 0), iT (2, 0)], [1, 2], [([(0, 6), (0, 6), ((-6), 6)], [iT (3, 0)], [], [(999999, 0)])], [], false, [])
def k_226 : Ctr := (134, 0, [], [rT [93]], [], [([], [iT (0, 0)], [], []), ([(0, 50)], [iT (1, 0)], [], [(999999, 0)])], [], false, [])
def k_227 : Ctr := (135, 0, [], [rT [93]], [], [([], [iT (0, 0)], [], []), ([(0, 60)], [iT (1, 0)], [], [(999999, 0)])], [], false, [])
def k_228 : Ctr := (145, 2, [(0, 6)], [rT [93], iT (1, 0)], [1], [([(0, 6), (0, 6)], [iT (2, 0)], [], [(999999, 0)])], [], false, [])
def k_229 : Ctr := (109, 0, [fI, (0, 0), (1, 1)], [rT [93], iT (1, 0), iT (2, 0), iT (3, 0)], [1, 2, 3], [([fI, (0, 0), (1, 1)], [iT (0, 0)], [], []), ([(0, 1), (0, 0), (1, 1)], [iT (0, 1)], [], [])], [], false, [])
def k_230 : Ctr := (115, 2, [fI, fI, fI], [rT [93], iT (1, 0), iT (2, 0), iT (3, 0)], [1, 2, 3], [([fI, fI, fI], [iT (0, (-1))], [], []), ([(0, 6), (0, 1), fI], [iT (0, (-2))], [], []), ([(0, 6), (0, 1), (0, 9), (0, 9)], [iT (4, 0)], [], [(999999, 0)])], [(96, 999), (98, 999)], false, [])
def k_231 : Ctr := (116, 2, [fI, (0, 1)], [rT [93], iT (1, 0), iT (2, 0)], [1, 2], [([fI, (0, 1)], [iT (0, (-1))], [], []), ([(0, 6), (0, 1), (0, 1)], [iT (3, 0)], [], [(999999, 0)])], [(93, 2)], false, [])
def k_232 : Ctr := (109, 0, [fI, (0, 0), (3, 3)], [rT [93], iT (1, 0), iT (2, 0), iT (3, 0)], [1, 2, 3], [([fI, (0, 0), (3, 3)], [iT (0, 0)], [], []), ([(0, 3), (0, 0), (3, 3)], [iT (0, 1)], [], [])], [], false, [])
def k_233 : Ctr := (117, 2, [fI, fI, fI], [rT [93], iT (1, 0), iT (2, 0), iT (3, 0)], [1, 2, 3], [([fI, fI, fI, ((-3), 6)], [iT (4, 0)], [], [(999999, 0)])], [(99, 999)], false, [])
def k_234 : Ctr := (109, 0, [fI, (0, 0), (127, 127)], [rT [93], iT (1, 0), iT (2, 0), iT (3, 0)], [1, 2, 3], [([fI, (0, 0), (127, 127)], [iT (0, 0)], [], []), ([(0, 127), (0, 0), (127, 127)], [iT (0, 1)], [], [])], [], false, [])
def k_235 : Ctr := (118, 1, [fI], [rT [93], iT (1, 0)], [1], [([fI], [iT (0, (-2))], [], []), ([(0, 127)], [iT (0, (-4))], [], []), ([(0, 127), (1, 100)], [iT (2, 0)], [], [(999999, 0)])], [(93, 11), (100, 999)], false, [])
def k_236 : Ctr := (113, 0, [], [rT [93]], [], [([(0, 127)], [iT (1, 0)], [], [(999999, 0)])], [], false, [])
def k_237 : Ctr := (150, 1, [fI], [rT [93], iT (1, 0)], [1], [([fI], [iT (0, (-1))], [], []), ([(0, 2), fI], [iT (2, 0)], [], [(999999, 0)])], [], false, [])
def k_238 : Ctr := (109, 0, [fI, (0, 0), (30, 30)], [rT [93], iT (1, 0), iT (2, 0), iT (3, 0)], [1, 2, 3], [([fI, (0, 0), (30, 30)], [iT (0, 0)], [], []), ([(0, 30), (0, 0), (30, 30)], [iT (0, 1)], [], [])], [], false, [])
def k_239 : Ctr := (160, 0, [(0, 1100)], [rT [93]], [100], [([(0, 1100)], [], [(93, 1, (1, 0)), (93, 37, (1, 0))], [])], [(93, 36), (93, 37)], false, [(93, 1, (1, 0))])
def k_240 : Ctr := (161, 0, [(0, 1100)], [rT [93]], [100], [([(0, 1100)], [], [(93, 1, (1, 0))], [])], [(93, 1), (93, 2)], false, [(93, 37, (1, 0))])
def k_241 : Ctr := (163, 0, [(0, 127)], [rT [93], iT (1, 0)], [1], [([(0, 127)], [iT (0, (-5))], [], []), ([(1, 64), (0, 6)], [iT (2, 0)], [], [(999999, 0)])], [], false, [])
def k_242 : Ctr := (109, 0, [fI, (0, 0), (0, 127)], [rT [93], iT (1, 0), iT (2, 0), iT (3, 0)], [1, 2, 3], [([fI, (0, 0), (0, 127)], [iT (0, 0)], [], []), ([(0, 127), (0, 0), (0, 127)], [iT (0, 1)], [], [])], [], false, [])
def k_243 : Ctr := (175, 1, [fI], [rT [93], iT (1, 0)], [1], [([fI], [iT (0, (-2))], [], []), ([(0, 127), fI], [iT (2, 0)], [], [(999999, 0)])], [(93, 41)], false, [])
def k_244 : Ctr := (109, 0, [fI, (1, 1), (30, 30)], [rT [93], iT (1, 0), iT (2, 0), iT (3, 0)], [1, 2, 3], [([fI, (1, 1), (30, 30)], [iT (0, 0)], [], []), ([(1, 30), (1, 1), (30, 30)], [iT (0, 1)], [], [])], [], false, [])
def k_245 : Ctr := (181, 1, [fI], [rT [93], iT (1, 0)], [1], [([fI, ((-4), 12)], [iT (2, 0)], [], [(999999, 0)])], [(93, 42), (114, 999)], false, [])
def k_246 : Ctr := (109, 0, [fI, (0, 0), (5, 5)], [rT [93], iT (1, 0), iT (2, 0), iT (3, 0)], [1, 2, 3], [([fI, (0, 0), (5, 5)], [iT (0, 0)], [], []), ([(0, 5), (0, 0), (5, 5)], [iT (0, 1)], [], [])], [], false, [])
def k_247 : Ctr := (198, 1, [fI], [rT [93], iT (1, 0)], [1], [([fI], [iT (0, 0)], [], []), ([(0, 5)], [iT (0, 1)], [], [])], [], false, [])
def k_248 : Ctr := (183, 2, [fI, fI], [rT [93], iT (1, 0), iT (2, 0)], [1, 2], [([fI, fI, ((-12), 106)], [iT (3, 0)], [], [(999999, 0)])], [], false, [])
def k_249 : Ctr := (184, 0, [], [rT [93]], [], [([(0, 7)], [iT (1, 0)], [], [(999999, 0)])], w_16, false, [])
def k_250 : Ctr := (185, 0, [], [rT [93]], [], [([], [iT (0, (-3))], [], []), ([(0, 7)], [iT (1, 0)], [], [(999999, 0)])], w_17, false, [])
def k_251 : Ctr := (109, 0, [fI, (0, 0), (2, 2)], [rT [93], iT (1, 0), iT (2, 0), iT (3, 0)], [1, 2, 3], [([fI, (0, 0), (2, 2)], [iT (0, 0)], [], []), ([(0, 2), (0, 0), (2, 2)], [iT (0, 1)], [], [])], [], false, [])
def k_252 : Ctr := (186, 0, [(10, 71), (0, 99)], [rT [93], iT (1, 0)], [1, 100], [([(10, 71), (0, 99)], [], [(93, 58, (2, 1))], [])], [(93, 58), (122, 999)], false, [(93, 58, (2, 0))])
def k_253 : Ctr := (187, 1, [(0, 6), fI, (0, 90)], [rT [93], iT (1, 0), iT (2, 0)], [1, 2, 100], [([(0, 6), fI, (0, 90), fI], [iT (4, 0)], [(93, 58, (3, 1))], [(999999, 0)])], [(93, 58), (122, 999)], false, [(93, 58, (3, 0))])
def k_254 : Ctr := (188, 2, [(0, 6), fI, (0, 85)], [rT [93], iT (1, 0), iT (2, 0)], [1, 2, 100], [([(0, 6), fI, (0, 85), fI], [iT (4, 0)], [(93, 58, (3, 1))], [(999999, 0)]), ([(0, 6), fI, (0, 85), fI], [iT (4, 0)], [(93, 58, (3, 2))], [(999999, 0)])], [(93, 58), (122, 999)], false, [(93, 58, (3, 0))])
def k_255 : Ctr := (189, 3, [(0, 6), fI, (0, 80)], [rT [93], iT (1, 0), iT (2, 0)], [1, 2, 100], [([(0, 6), fI, (0, 80), fI], [iT (4, 0)], [(93, 58, (3, 2))], [(999999, 0)]), ([(0, 6), fI, (0, 80), fI], [iT (4, 0)], [(93, 58, (3, 3))], [(999999, 0)])], [(93, 58), (122, 999)], false, [(93, 58, (3, 0))])
def k_256 : Ctr := (190, 4, [(0, 6), fI, (0, 75)], [rT [93], iT (1, 0), iT (2, 0)], [1, 2, 100], [([(0, 6), fI, (0, 75), fI], [iT (4, 0)], [(93, 58, (3, 3))], [(999999, 0)]), ([(0, 6), fI, (0, 75), fI], [iT (4, 0)], [(93, 58, (3, 4))], [(999999, 0)])], [(93, 58), (122, 999)], false, [(93, 58, (3, 0))])
def k_257 : Ctr := (191, 5, [(0, 6), fI, (0, 70)], [rT [93], iT (1, 0), iT (2, 0)], [1, 2, 100], [([(0, 6), fI, (0, 70), fI], [iT (4, 0)], [(93, 58, (3, 2))], [(999999, 0)]), ([(0, 6), fI, (0, 70), fI], [iT (4, 0)], [(93, 58, (3, 3))], [(999999, 0)]), ([(0, 6), fI, (0, 70), fI], [iT (4, 0)], [(93, 58, (3, 4))], [(999999, 0)]), ([(0, 6), fI, (0, 70), fI], [iT (4, 0)], [(93, 58, (3, 5))], [(999999, 0)])], [(93, 58), (122, 999)], false, [(93, 58, (3, 0))])
def k_258 : Ctr := (192, 6, [(0, 6), fI, (0, 60)], [rT [93], iT (1, 0), iT (2, 0)], [1, 2, 100], [([(0, 6), fI, (0, 60), fI], [iT (4, 0)], [(93, 58, (3, 3))], [(999999, 0)]), ([(0, 6), fI, (0, 60), fI], [iT (4, 0)], [(93, 58, (3, 4))], [(999999, 0)]), ([(0, 6), fI, (0, 60), fI], [iT (4, 0)], [(93, 58, (3, 5))], [(999999, 0)]), ([(0, 6), fI, (0, 60), fI], [iT (4, 0)], [(93, 58, (3, 6))], [(999999, 0)])], [(93, 58), (122, 999)], false, [(93, 58, (3, 0))])
def k_259 : Ctr := (193, 7, [(0, 6), fI, (0, 50)], [rT [93], iT (1, 0), iT (2, 0)], [1, 2, 100], [([(0, 6), fI, (0, 50), fI], [iT (4, 0)], [(93, 58, (3, 10))], [(999999, 0)]), ([(0, 6), fI, (0, 50), fI], [iT (4, 0)], [(93, 58, (3, 11))], [(999999, 0)]), ([(0, 6), fI, (0, 50), fI], [iT (4, 0)], [(93, 58, (3, 12))], [(999999, 0)]), ([(0, 6), fI, (0, 50), fI], [iT (4, 0)], [(93, 58, (3, 3))], [(999999, 0)]), ([(0, 6), fI, (0, 50), fI], [iT (4, 0)], [(93, 58, (3, 4))], [(999999, 0)]), ([(0, 6), fI, (0, 50), fI], [iT (4, 0)], [(93, 58, (3, 5))], [(999999, 0)]), ([(0, 6), fI, (0, 50), fI], [iT (4, 0)], [(93, 58, (3, 6))], [(999999, 0)]), ([(0, 6), fI, (0, 50), fI], [iT (4, 0)], [(93, 58, (3, 7))], [(999999, 0)]), ([(0, 6), fI, (0, 50), fI], [iT (4, 0)], [(93, 58, (3, 8))], [(999999, 0)]), ([(0, 6), fI, (0, 50), fI], [iT (4, 0)], [(93, 58, (3, 9))], [(999999, 0)])], [(93, 58), (122, 999)], false, [(93, 58, (3, 0))])
def k_260 : Ctr := (194, 8, [fI, fI, fI], [rT [93], iT (1, 0), iT (2, 0), iT (3, 0)], [1, 2, 3], [([fI, fI, fI], [iT (0, 0)], [], []), ([(0, 6), (0, 2), fI, fI], [iT (4, 0)], [], [(999999, 0)])], [(93, 58), (122, 999)], false, [])
def k_261 : Ctr := (109, 0, [fI, (0, 0), (19, 19)], [rT [93], iT (1, 0), iT (2, 0), iT (3, 0)], [1, 2, 3], [([fI, (0, 0), (19, 19)], [iT (0, 0)], [], []), ([(0, 19), (0, 0), (19, 19)], [iT (0, 1)], [], [])], [], false, [])
def k_262 : Ctr := (195, 1, [fI], [rT [93], iT (1, 0)], [1], [([fI], [iT (0, (-1))], [], []), ([(0, 19), fI], [iT (2, 0)], [], [(999999, 0)])], [], false, [])
def k_263 : Ctr := (196, 2, [fI, fI], [rT [93], iT (1, 0), iT (2, 0)], [1, 2], [([fI, fI, ((-12), 6)], [iT (3, 0)], [], [(999999, 0)])], [], false, [])
def k_264 : Ctr := (197, 0, [fI], [rT [93], iT (1, 0)], [1], [([fI], [iT (0, (-2))], [], []), ([(0, 4), (0, 100)], [iT (2, 0)], [], [(999999, 0)])], [], false, [])
def k_265 : Ctr := (109, 0, [fI, ((-1), (-1)), (4, 4)], [rT [93], iT (1, 0), iT (2, 0), iT (3, 0)], [1, 2, 3], [([fI, ((-1), (-1)), (4, 4)], [iT (0, 0)], [], []), ([((-1), 4), ((-1), (-1)), (4, 4)], [iT (0, 1)], [], [])], [], false, [])
def k_266 : Ctr := (199, 2, [fI, fI, fI], [rT [93], iT (1, 0), iT (2, 0), iT (3, 0)], [1, 2, 3], [([fI, fI, fI], [iT (0, (-1))], [], []), ([(0, 5), (0, 4), ((-2147483648), (-1))], [iT (0, (-14))], [], []), ([(0, 5), fI, fI], [iT (0, (-2))], [], []), ([(0, 5), ((-1), 4), fI], [iT (0, 1)], [], [])], [(123, 999), (124, 999), (125, 999)], false, [])
def k_267 : Ctr := (109, 0, [fI, (0, 0), ((-1), 59)], [rT [93], iT (1, 0), iT (2, 0), iT (3, 0)], [1, 2, 3], [([fI, (0, 0), ((-1), 59)], [iT (0, 0)], [], []), ([(0, 59), (0, 0), (0, 59)], [iT (0, 1)], [], [])], [], false, [])
def k_268 : Ctr := (200, 0, [((-1), 4), fL], [rT [93], iT (1, 0), lT (2, 0)], [1, 2], [([(4, 4), (0, 0)], [lT (0, 0)], [], []), ([(4, 4), fL], [lT (0, 1)], [], []), ([(0, 2), fL, fI], [lT (3, 0)], [], [(999999, 0)]), ([((-1), 3), fL], [lT (2, 0)], [], [])], [], false, [])
def k_269 : Ctr := (201, 2, [fI, fI, fL], [rT [93], iT (1, 0), iT (2, 0), lT (3, 0)], [1, 2, 3], [([fI, fI, fL], [iT (0, (-1))], [], []), ([(0, 5), fI, fL], [iT (0, (-11))], [], []), ([(0, 5), fI, fL], [iT (0, (-13))], [], []), ([(0, 5), (0, 59), fL], [iT (0, 1)], [], [])], [(125, 999)], false, [])
def k_270 : Ctr := (202, 2, [fI, fI], [rT [93], iT (1, 0), iT (2, 0)], [1, 2], [([fI, fI], [lT (0, (-9223372036854775808))], [], []), ([(0, 5), (0, 59), fL], [lT (3, 0)], [], [(999999, 0)])], [], false, [])
def k_271 : Ctr := (205, 0, [fI], [iT (1, 0), iT (0, 10)], [0], [([fI, (0, 9)], [iT (2, 0)], [], [(999999, 0)])], [], false, [])
def k_272 : Ctr := (205, 0, [fI], [iT (1, 0), iT (0, 4)], [0], [([fI, (0, 3)], [iT (2, 0)], [], [(999999, 0)])], [], false, [])
def k_273 : Ctr := (205, 0, [(0, 600)], [iT (1, 0), iT (0, 7)], [0], [([(0, 600), (0, 6)], [iT (2, 0)], [], [(999999, 0)])], [], false, [])
def k_274 : Ctr := (137, 5, [(0, 59), (0, 6), (0, 6)], [rT [93], iT (1, 0), iT (2, 0), iT (3, 0)], [1, 2, 3], [([(0, 59), (0, 6), (0, 6), (0, 1)], [iT (4, 0)], [], [(999999, 0)])], [(109, 999)], true, [])
def k_275 : Ctr := (154, 5, [], [rT [93]], [], [([], [], [], [])], [(110, 999), (93, 34)], true, [])
def k_276 : Ctr := (111, 0, [(0, 127)], [rT [93], iT (1, 0)], [1], [([(0, 127), (0, 32)], [iT (2, 0)], [], [(999999, 0)])], [], false, [])
def k_277 : Ctr := (177, 0, [fI, (1, 30)], [rT [93], iT (1, 0), iT (2, 0)], [1, 2], [([fI, (1, 30), (1, 2147483647)], [iT (3, 0)], [], [(999999, 0)])], [], false, [])
def k_278 : Ctr := (138, 6, [(0, 2), (0, 6), (0, 6), (0, 1)], [rT [93], iT (1, 0), iT (2, 0), iT (3, 0), iT (4, 0)], [1, 2, 3, 4], [([(0, 2), (0, 6), (0, 6), (0, 1), fI], [iT (5, 0)], [], [(999999, 0)]), ([(0, 2), (0, 6), (0, 6), (0, 1)], [iT (4, 0)], [], [])], [(109, 999)], true, [])
def k_279 : Ctr := (140, 7, [(0, 6)], [rT [93], iT (1, 0)], [1], [([(0, 6)], [iT (0, 1)], [], []), ([(0, 6), fI], [iT (2, 0)], [], [(999999, 0)])], [(109, 999)], true, [])
def k_280 : Ctr := (143, 8, [(0, 6), (0, 6)], [rT [93], iT (1, 0), iT (2, 0)], [1, 2], [([(0, 6), (0, 6)], [iT (0, 0)], [], []), ([(0, 6), (0, 6)], [iT (0, 1)], [], [])], [(109, 999)], true, [])
def k_281 : Ctr := (144, 9, [(0, 6)], [rT [93], iT (1, 0)], [1], [([(0, 6), fI], [iT (2, 0)], [], [(999999, 0)])], [(109, 999)], true, [])
def k_282 : Ctr := (146, 10, [(0, 6)], [rT [93], iT (1, 0)], [1], [([(0, 6), (0, 6)], [iT (2, 0)], [], [(999999, 0)])], [(109, 999)], true, [])
def k_283 : Ctr := (147, 11, [(0, 6)], [rT [93], iT (1, 0)], [1], [([(0, 6)], [iT (0, 0)], [], []), ([(0, 6)], [iT (0, 6)], [], []), ([(0, 6), (0, 6)], [iT (2, 0)], [], [(999999, 0)])], [(109, 999)], true, [])
def k_284 : Ctr := (148, 12, [(0, 6)], [rT [93], iT (1, 0)], [1], [([(0, 6), fI], [iT (2, 0)], [], [(999999, 0)])], [(109, 999)], true, [])
def k_285 : Ctr := (141, 7, [(0, 6)], [rT [93], iT (1, 0)], [1], [([(0, 6), fI], [iT (2, 0)], [], [(999999, 0)])], [(109, 999)], true, [])
def k_286 : Ctr := (156, 9, [(0, 6), (0, 2147483647)], [rT [93], iT (1, 0), iT (2, 0)], [1, 2], [([(0, 6), (0, 2147483647), (0, 2147483647)], [iT (3, 0)], [], [(999999, 0)])], [(109, 999)], true, [])
def k_287 : Ctr := (155, 8, [(0, 2147483647)], [rT [93], iT (1, 0)], [1], [([(0, 2147483647), fI], [iT (2, 0)], [], [(999999, 0)])], [(109, 999)], true, [])
def k_288 : Ctr := (157, 13, [], [rT [93]], [], [([(0, 127)], [iT (1, 0)], [], [(999999, 0)])], [(93, 34), (93, 35), (109, 999), (110, 999)], true, [])
def k_289 : Ctr := (24, 1, [(0, 6), (0, 6)], [rT [17], iT (1, 0), iT (2, 0)], [1, 2], [([(0, 6), (0, 6)], [], [], [])], [(31, 999)], false, [])
def k_290 : Ctr := (11, 3, [], [rT [17]], [], [([], [], [], [])], [(31, 999), (32, 999), (33, 999), (34, 999)], false, [])
def k_291 : Ctr := (15, 2, [(0, 6)], [rT [17], iT (1, 0)], [1], [([(0, 6)], [iT (0, 0)], [], []), ([(0, 6)], [iT (0, 6)], [], []), ([(0, 6), (0, 6)], [iT (2, 0)], [], [(999999, 0)])], [], false, [])
def k_292 : Ctr := (13, 3, [], [rT [17]], [], [([], [], [], [])], [(35, 999)], false, [])
def k_293 : Ctr := (14, 3, [], [rT [17]], [], [([], [], [], [])], [(31, 999), (36, 999)], false, [])
def k_294 : Ctr := (10, 4, [], [rT [17]], [], [([(0, 127)], [iT (1, 0)], [], [(999999, 0)])], w_18, false, [])
def k_295 : Ctr := (99, 5, [(0, 6), (6, 9)], [rT [0], iT (1, 0), iT (2, 0)], [1, 2], [([(0, 6), (6, 9)], [iT (0, (-5))], [], []), ([(0, 6), (6, 9), fI], [iT (3, 0)], [], [(999999, 0)])], w_19, false, [])
def k_296 : Ctr := (64, 6, [fI, fI], [rT [0], iT (1, 0), iT (2, 0)], [1, 2], [([fI, fI, fI], [iT (3, 0)], [], [(999999, 0)])], w_19, false, [])
def k_297 : Ctr := (71, 5, [], [rT [0]], [], [([], [iT (0, (-3))], [], []), ([(0, 127)], [iT (1, 0)], [], [(999999, 0)])], w_20, false, [])
def k_298 : Ctr := (9, 5, [], [rT [17]], [], [([(0, 127)], [iT (1, 0)], [], [(999999, 0)])], w_21, false, [])
def k_299 : Ctr := (72, 6, [fI, fI], [rT [0], iT (1, 0), iT (2, 0)], [1, 2], [([fI, fI], [iT (0, (-1))], [], []), ([fI, (0, 1)], [iT (0, (-2))], [], []), ([(0, 30), (0, 1), fI], [iT (3, 0)], [], [(999999, 0)])], w_19, false, [])
def k_300 : Ctr := (73, 6, [fI], [rT [0], iT (1, 0)], [1], [([fI], [iT (0, (-1))], [], []), ([(0, 1)], [iT (0, (-5))], [], []), ([(0, 1), (0, 30)], [iT (2, 0)], [], [(999999, 0)])], w_19, false, [])
def k_301 : Ctr := (74, 5, [fI], [rT [0], iT (1, 0)], [1], [([fI], [iT (0, (-1))], [], []), ([(0, 1), ((-5), 63)], [iT (2, 0)], [], [(999999, 0)])], w_19, false, [])
def k_302 : Ctr := (101, 5, [(0, 6), (0, 6)], [rT [0], iT (1, 0), iT (2, 0)], [1, 2], [([(0, 6), (0, 6), (0, 127)], [iT (3, 0)], [], [(999999, 0)])], w_19, false, [])
def k_303 : Ctr := (75, 6, [fI, fI], [rT [0], iT (1, 0), iT (2, 0)], [1, 2], [([fI, fI], [iT (0, (-1))], [], []), ([(0, 6), (0, 1)], [iT (0, (-3))], [], []), ([(0, 6), (0, 1), ((-1), 63)], [iT (3, 0)], [], [(999999, 0)])], w_19, false, [])
def k_304 : Ctr := (76, 5, [fI], [rT [0], iT (1, 0)], [1], [([fI], [iT (0, (-1))], [], []), ([(0, 6)], [iT (0, (-3))], [], []), ([(0, 6), (0, 2147483647)], [iT (2, 0)], [], [(999999, 0)])], w_22, false, [])
def k_305 : Ctr := (77, 5, [fI], [rT [0], iT (1, 0)], [1], [([fI, ((-5), 9)], [iT (2, 0)], [], [(999999, 0)])], w_19, false, [])
def k_306 : Ctr := (78, 5, [], [rT [0]], [], [([], [iT (0, (-5))], [], []), ([(0, 6)], [iT (1, 0)], [], [(999999, 0)])], w_19, false, [])
def k_307 : Ctr := (79, 5, [fI], [rT [0], iT (1, 0)], [1], [([fI], [iT (0, (-1))], [], []), ([(0, 6)], [iT (0, (-3))], [], []), ([(0, 6), (0, 63)], [iT (2, 0)], [], [(999999, 0)])], w_19, false, [])
def k_308 : Ctr := (32, 1, [(0, 600)], [rT [18], iT (1, 0)], [1], [([(0, 600)], [], [], [])], [(21, 999)], false, [])
def k_309 : Ctr := (80, 5, [fI], [rT [0], iT (1, 0)], [1], [([fI, ((-9), 63)], [iT (2, 0)], [], [(999999, 0)])], w_19, false, [])
def k_310 : Ctr := (81, 5, [fI, fI], [rT [0], iT (1, 0), iT (2, 0)], [1, 2], [([fI, fI, ((-3), 1)], [iT (3, 0)], [], [(999999, 0)])], w_23, false, [])
def k_311 : Ctr := (83, 6, [fI], [rT [0], iT (1, 0)], [1], [([fI], [iT (0, (-1))], [], []), ([(0, 6)], [iT (0, (-3))], [], []), ([(0, 6), (0, 2147483647)], [iT (2, 0)], [], [(999999, 0)])], w_19, false, [])
def k_312 : Ctr := (84, 6, [fI, fI, fI], [rT [0], iT (1, 0), iT (2, 0), iT (3, 0)], [1, 2, 3], [([fI, fI, fI], [lT (0, (-9223372036854775808))], [], []), ([(0, 6), (0, 6), (0, 1), fI], [lT (4, 0)], [], [(999999, 0)])], w_19, false, [])
def k_313 : Ctr := (85, 6, [fI, fI], [rT [0], iT (1, 0), iT (2, 0)], [1, 2], [([fI, fI], [lT (0, (-9223372036854775808))], [], []), ([(1, 30), (0, 1), fI], [lT (3, 0)], [], [(999999, 0)])], w_19, false, [])
def k_314 : Ctr := (87, 6, [], [rT [0]], [], [([], [iT (0, (-5))], [], []), ([(1, 12)], [iT (1, 0)], [], [(999999, 0)])], w_19, false, [])
def k_315 : Ctr := (149, 13, [fI, fI], [rT [93], iT (1, 0), iT (2, 0)], [1, 2], [([fI, fI, fI], [iT (3, 0)], [], [(999999, 0)])], [(109, 999)], true, [])
def k_316 : Ctr := (158, 14, [(0, 1099)], [rT [93]], [100], [([(0, 1099), (0, 127)], [iT (2, 0)], [(93, 1, (1, 1))], [(999999, 0)])], w_24, true, [(93, 1, (1, 0))])
def k_317 : Ctr := (159, 15, [(0, 999)], [rT [93]], [100], [([(999, 999)], [iT (0, (-3))], [(93, 1, (1, 0))], []), ([(0, 998), (0, 127)], [iT (2, 0)], [(93, 1, (1, 1))], [(999999, 0)])], w_24, true, [(93, 1, (1, 0))])
def k_318 : Ctr := (162, 15, [fI, fI, (0, 999)], [rT [93], iT (1, 0), iT (2, 0)], [1, 2, 100], [([fI, fI, (0, 999), ((-2), 960)], [iT (4, 0)], [(93, 1, (3, 0))], [(999999, 0)])], w_25, true, [(93, 1, (3, 0))])
def k_319 : Ctr := (164, 15, [fI, (0, 999)], [rT [93], iT (1, 0)], [1, 100], [([fI, (0, 999), ((-5), 30)], [iT (3, 0)], [(93, 1, (2, 0))], [(999999, 0)])], w_25, true, [(93, 1, (2, 0))])
def k_320 : Ctr := (165, 14, [fI], [rT [93], iT (1, 0)], [1], [([fI], [iT (0, (-1))], [], []), ([(0, 1), ((-5), 32)], [iT (2, 0)], [], [(999999, 0)])], [(93, 2), (93, 34), (93, 35), (109, 999), (110, 999)], true, [])
def k_321 : Ctr := (166, 14, [fI, fI], [rT [93], iT (1, 0), iT (2, 0)], [1, 2], [([fI, fI], [iT (0, (-1))], [], []), ([(0, 6), (0, 1)], [iT (0, (-3))], [], []), ([(0, 6), (0, 1), ((-1), 32)], [iT (3, 0)], [], [(999999, 0)])], [(93, 34), (93, 35), (96, 999), (109, 999), (110, 999)], true, [])
def k_322 : Ctr := (167, 14, [fI], [rT [93], iT (1, 0)], [1], [([fI], [iT (0, (-1))], [], []), ([(0, 6)], [iT (0, (-3))], [], []), ([(0, 6), (0, 2147483647)], [iT (2, 0)], [], [(999999, 0)])], w_26, true, [])
def k_323 : Ctr := (168, 14, [fI], [rT [93], iT (1, 0)], [1], [([fI], [iT (0, (-1))], [], []), ([(0, 6)], [iT (0, (-3))], [], []), ([(0, 6), ((-5), 9)], [iT (2, 0)], [], [(999999, 0)])], [(93, 34), (93, 35), (98, 999), (109, 999), (110, 999)], true, [])
def k_324 : Ctr := (169, 14, [], [rT [93]], [], [([fI], [iT (1, 0)], [], [(999999, 0)])], [(93, 27), (93, 34), (93, 35), (109, 999), (110, 999)], true, [])
def k_325 : Ctr := (170, 14, [fI], [rT [93], iT (1, 0)], [1], [([fI], [iT (0, (-1))], [], []), ([(0, 6)], [iT (0, (-3))], [], []), ([(0, 6), (0, 32)], [iT (2, 0)], [], [(999999, 0)])], w_27, true, [])
def k_326 : Ctr := (176, 14, [fI], [rT [93], iT (1, 0)], [1], [([fI], [iT (0, (-1))], [], []), ([(0, 6)], [iT (0, (-3))], [], []), ([(0, 6), (0, 2147483647)], [iT (2, 0)], [], [(999999, 0)])], [(93, 34), (93, 35), (96, 999), (109, 999), (110, 999)], true, [])
def k_327 : Ctr := (178, 1, [fI, (1, 30), (0, 1)], [rT [93], iT (1, 0), iT (2, 0), iT (3, 0)], [1, 2, 3], [([fI, (1, 30), (0, 1), fI], [lT (4, 0)], [], [(999999, 0)])], [], false, [])
def k_328 : Ctr := (179, 14, [fI, fI, fI], [rT [93], iT (1, 0), iT (2, 0), iT (3, 0)], [1, 2, 3], [([fI, fI, fI], [lT (0, (-9223372036854775808))], [], []), ([(0, 6), (0, 6), (0, 1), fI], [lT (4, 0)], [], [(999999, 0)])], [(93, 34), (93, 35), (96, 999), (109, 999), (110, 999)], true, [])
def k_329 : Ctr := (180, 15, [fI, fI, (0, 999)], [rT [93], iT (1, 0), iT (2, 0)], [1, 2, 100], [([fI, fI, (0, 999)], [lT (0, (-9223372036854775808))], [(93, 1, (3, 0))], []), ([(1, 30), (0, 1), (0, 999), fI], [lT (4, 0)], [(93, 1, (3, 0))], [(999999, 0)])], w_25, true, [(93, 1, (3, 0))])
def k_330 : Ctr := (182, 15, [(0, 999)], [rT [93]], [100], [([(0, 999)], [iT (0, (-5))], [(93, 1, (1, 0))], []), ([(0, 999), ((-5), 11)], [iT (2, 0)], [(93, 1, (1, 0))], [(999999, 0)])], w_25, true, [(93, 1, (1, 0))])
def r_0 : Row := (k_0, [], [], 0, none)
def r_1 : Row := (k_1, [], [], 0, none)
def r_2 : Row := (k_2, [], [], 0, none)
def r_3 : Row := (k_3, [(13, 0), (20, 1), (28, 0), (36, 0), (56, 2)], [], 0, none)
def r_4 : Row := (k_4, [], [], 0, none)
def r_5 : Row := (k_5, [], [], 0, none)
def r_6 : Row := (k_6, [(5, 5)], [], 0, none)
def r_7 : Row := (k_7, [(5, 5)], [], 0, none)
def r_8 : Row := (k_8, [(39, 6), (39, 7)], [], 0, none)
def r_9 : Row := (k_9, [], [], 0, none)
def r_10 : Row := (k_10, [(1, 9)], [], 0, none)
def r_11 : Row := (k_11, [], [(5, [fI, (0, 7)], [rT [32], iT (1, 0), iT (2, 0), iT (0, 7)], [2], [(1, 2, 7)], [])], 1, none)
def r_12 : Row := (k_12, [], [], 0, none)
def r_13 : Row := (k_13, [], [(2, [(0, 0), (0, 10)], [rT [26], iT (1, 0), iT (2, 0)], [2], [(1, 2, 10)], [])], 1, none)
def r_14 : Row := (k_14, [], [(2, [(0, 0), (0, 10)], [rT [39], iT (1, 0), iT (2, 0)], [2], [(1, 2, 10)], [])], 1, none)
def r_15 : Row := (k_15, [], [(2, [(0, 0), (0, 10)], [rT [63], iT (1, 0), iT (2, 0)], [2], [(1, 2, 10)], [])], 1, none)
def r_16 : Row := (k_16, [], [(2, [(0, 0), (0, 10)], [rT [68], iT (1, 0), iT (2, 0)], [2], [(1, 2, 10)], [])], 1, none)
def r_17 : Row := (k_17, [], [(2, [(0, 0), (0, 10)], [rT [73], iT (1, 0), iT (2, 0)], [2], [(1, 2, 10)], [])], 1, none)
def r_18 : Row := (k_18, [], [(2, [(0, 0), (0, 10)], [rT [78], iT (1, 0), iT (2, 0)], [2], [(1, 2, 10)], [])], 1, none)
def r_19 : Row := (k_19, [], [(2, [(0, 0), (0, 10)], [rT [83], iT (1, 0), iT (2, 0)], [2], [(1, 2, 10)], [])], 1, none)
def r_20 : Row := (k_20, [], [(2, [(0, 0), (0, 10)], [rT [88], iT (1, 0), iT (2, 0)], [2], [(1, 2, 10)], [])], 1, none)
def r_21 : Row := (k_21, [], [], 0, some 0)
def r_22 : Row := (k_22, [], [], 0, none)
def r_23 : Row := (k_23, [], [], 0, none)
def r_24 : Row := (k_24, [(5, 22), (104, 23)], [(10, [fI, fI, fL, (0, 2147483647)], [rT [26], iT (1, 0), iT (2, 0), rT [31], lT (3, 0), jT, iT (4, 0), jT, (5, (0, 0), (0, 0), []), jT], [4, 6], [(1, 6, 2147483647)], [])], 1, none)
def r_25 : Row := (k_25, [(46, 24)], [(8, [(0, 2), fI, fI, (0, 10)], [rT [26], iT (1, 0), rT [31], iT (2, 0), iT (3, 0), iT (4, 0)], [3, 4, 5], [(1, 5, 10)], [])], 1, none)
def r_26 : Row := (k_26, [(5, 22), (104, 23)], [(10, [fI, fI, fL, (0, 2147483647)], [rT [39], iT (1, 0), iT (2, 0), rT [31], lT (3, 0), jT, iT (4, 0), jT, (5, (0, 0), (0, 0), []), jT], [4, 6], [(1, 6, 2147483647)], [])], 1, none)
def r_27 : Row := (k_27, [(46, 26)], [(8, [(0, 2), fI, fI, (0, 10)], [rT [39], iT (1, 0), rT [31], iT (2, 0), iT (3, 0), iT (4, 0)], [3, 4, 5], [(1, 5, 10)], [])], 1, none)
def r_28 : Row := (k_28, [(5, 22), (104, 23)], [(10, [fI, fI, fL, (0, 2147483647)], [rT [63], iT (1, 0), iT (2, 0), rT [31], lT (3, 0), jT, iT (4, 0), jT, (5, (0, 0), (0, 0), []), jT], [4, 6], [(1, 6, 2147483647)], [])], 1, none)
def r_29 : Row := (k_29, [(46, 28)], [(8, [(0, 2), fI, fI, (0, 10)], [rT [63], iT (1, 0), rT [31], iT (2, 0), iT (3, 0), iT (4, 0)], [3, 4, 5], [(1, 5, 10)], [])], 1, none)
def r_30 : Row := (k_30, [(5, 22), (104, 23)], [(10, [fI, fI, fL, (0, 2147483647)], [rT [68], iT (1, 0), iT (2, 0), rT [31], lT (3, 0), jT, iT (4, 0), jT, (5, (0, 0), (0, 0), []), jT], [4, 6], [(1, 6, 2147483647)], [])], 1, none)
def r_31 : Row := (k_31, [(46, 30)], [(8, [(0, 2), fI, fI, (0, 10)], [rT [68], iT (1, 0), rT [31], iT (2, 0), iT (3, 0), iT (4, 0)], [3, 4, 5], [(1, 5, 10)], [])], 1, none)
def r_32 : Row := (k_32, [(5, 22), (104, 23)], [(10, [fI, fI, fL, (0, 2147483647)], [rT [73], iT (1, 0), iT (2, 0), rT [31], lT (3, 0), jT, iT (4, 0), jT, (5, (0, 0), (0, 0), []), jT], [4, 6], [(1, 6, 2147483647)], [])], 1, none)
def r_33 : Row := (k_33, [(46, 32)], [(8, [(0, 2), fI, fI, (0, 10)], [rT [73], iT (1, 0), rT [31], iT (2, 0), iT (3, 0), iT (4, 0)], [3, 4, 5], [(1, 5, 10)], [])], 1, none)
def r_34 : Row := (k_34, [(5, 22), (104, 23)], [(10, [fI, fI, fL, (0, 2147483647)], [rT [78], iT (1, 0), iT (2, 0), rT [31], lT (3, 0), jT, iT (4, 0), jT, (5, (0, 0), (0, 0), []), jT], [4, 6], [(1, 6, 2147483647)], [])], 1, none)
def r_35 : Row := (k_35, [(46, 34)], [(8, [(0, 2), fI, fI, (0, 10)], [rT [78], iT (1, 0), rT [31], iT (2, 0), iT (3, 0), iT (4, 0)], [3, 4, 5], [(1, 5, 10)], [])], 1, none)
def r_36 : Row := (k_36, [(5, 22), (104, 23)], [(10, [fI, fI, fL, (0, 2147483647)], [rT [83], iT (1, 0), iT (2, 0), rT [31], lT (3, 0), jT, iT (4, 0), jT, (5, (0, 0), (0, 0), []), jT], [4, 6], [(1, 6, 2147483647)], [])], 1, none)
def r_37 : Row := (k_37, [(46, 36)], [(8, [(0, 2), fI, fI, (0, 10)], [rT [83], iT (1, 0), rT [31], iT (2, 0), iT (3, 0), iT (4, 0)], [3, 4, 5], [(1, 5, 10)], [])], 1, none)
def r_38 : Row := (k_38, [(5, 22), (104, 23)], [(10, [fI, fI, fL, (0, 2147483647)], [rT [88], iT (1, 0), iT (2, 0), rT [31], lT (3, 0), jT, iT (4, 0), jT, (5, (0, 0), (0, 0), []), jT], [4, 6], [(1, 6, 2147483647)], [])], 1, none)
def r_39 : Row := (k_39, [(46, 38)], [(8, [(0, 2), fI, fI, (0, 10)], [rT [88], iT (1, 0), rT [31], iT (2, 0), iT (3, 0), iT (4, 0)], [3, 4, 5], [(1, 5, 10)], [])], 1, none)
def r_40 : Row := (k_40, [], [], 0, some 0)
def r_41 : Row := (k_41, [], [], 0, none)
def r_42 : Row := (k_42, [(19, 41)], [(2, [(0, 6), (0, 7)], [rT [17], iT (1, 0), iT (2, 0)], [2], [(1, 2, 7)], [])], 1, none)
def r_43 : Row := (k_43, [], [], 0, none)
def r_44 : Row := (k_44, [(26, 43), (35, 41)], [(12, [(0, 6), (0, 6), (0, 8), fI, (0, 7)], [rT [17], iT (1, 0), iT (2, 0), iT (3, 0), iT (4, 0), iT (5, 0), jT, jT], [2, 3, 4, 5], [(1, 5, 7)], [])], 1, none)
def r_45 : Row := (k_45, [(37, 12)], [(27, [(0, 6), fI, ((-1), 9), (0, 6), (0, 7)], [rT [17], iT (1, 0), iT (2, 0), iT (3, 0), iT (4, 0), iT (5, 0)], [2, 3, 4, 5], [(1, 5, 7)], [])], 1, none)
def r_46 : Row := (k_46, [], [], 0, none)
def r_47 : Row := (k_47, [], [], 0, none)
def r_48 : Row := (k_48, [], [], 0, none)
def r_49 : Row := (k_49, [(3, 47), (20, 48), (25, 48)], [(7, [(0, 6), (0, 6), (0, 6)], [rT [17], iT (1, 0), iT (2, 0), iT (3, 0)], [3], [(2, 3, 0)], [])], 1, none)
def r_50 : Row := (k_50, [(3, 47)], [(7, [(0, 7), (0, 6), (0, 6)], [rT [17], iT (1, 0), iT (3, 0)], [2], [(2, 2, 0)], [(17, 15, (2, 0))])], 1, none)
def r_51 : Row := (k_51, [(15, 12), (32, 49), (55, 50)], [(4, [], [rT [17], iT (0, 0), iT (0, 0)], [], [(0, 0, 7)], []), (4, [(0, 1)], [rT [17], iT (1, 0), iT (0, 1)], [1], [(0, 0, 6)], []), (4, [(0, 2)], [rT [17], iT (1, 0), iT (0, 2)], [1], [(0, 0, 5)], []), (4, [(0, 3)], [rT [17], iT (1, 0), iT (0, 3)], [1], [(0, 0, 4)], []), (4, [(0, 4)], [rT [17], iT (1, 0), iT (0, 4)], [1], [(0, 0, 3)], []), (4, [(0, 5)], [rT [17], iT (1, 0), iT (0, 5)], [1], [(0, 0, 2)], []), (4, [(0, 6)], [rT [17], iT (1, 0), iT (0, 6)], [1], [(0, 0, 1)], []), (4, [(0, 7)], [rT [17], iT (1, 0), iT (0, 7)], [1], [(0, 0, 0)], [])], 1, none)
def r_52 : Row := (k_52, [(1, 1)], [], 0, none)
def r_53 : Row := (k_53, [(12, 12)], [(4, [fI, fI, (0, 7)], [rT [17], iT (1, 0), iT (2, 0), iT (3, 0)], [2, 3], [(1, 3, 7)], [])], 1, none)
def r_54 : Row := (k_54, [(5, 12)], [], 0, none)
def r_55 : Row := (k_55, [(5, 4), (27, 1), (37, 0)], [], 0, none)
def r_56 : Row := (k_56, [(5, 4), (18, 54)], [], 0, none)
def r_57 : Row := (k_57, [(5, 4), (23, 1)], [], 0, none)
def r_58 : Row := (k_58, [], [], 0, none)
def r_59 : Row := (k_59, [(18, 58)], [], 0, none)
def r_60 : Row := (k_60, [], [], 0, none)
def r_61 : Row := (k_61, [], [], 0, none)
def r_62 : Row := (k_62, [], [], 0, none)
def r_63 : Row := (k_63, [], [], 0, none)
def r_64 : Row := (k_64, [], [], 0, none)
def r_65 : Row := (k_65, [], [], 0, none)
def r_66 : Row := (k_66, [], [], 0, none)
def r_67 : Row := (k_67, [], [], 0, some 0)
def r_68 : Row := (k_68, [], [], 0, none)
def r_69 : Row := (k_69, [(1, 68)], [], 0, none)
def r_70 : Row := (k_70, [], [], 0, none)
def r_71 : Row := (k_71, [(6, 70)], [], 0, none)
def r_72 : Row := (k_72, [], [], 0, none)
def r_73 : Row := (k_73, [], [], 0, none)
def r_74 : Row := (k_74, [(5, 73)], [], 0, none)
def r_75 : Row := (k_75, [(3, 74)], [], 0, none)
def r_76 : Row := (k_76, [(1, 72), (12, 75)], [], 0, none)
def r_77 : Row := (k_77, [(4, 71), (13, 76), (16, 69)], [(2, [(0, 4)], [rT [44], rT [1000003], iT (1, 0)], [2], [(1, 2, 4)], [])], 1, none)
def r_78 : Row := (k_78, [], [], 0, none)
def r_79 : Row := (k_79, [(6, 78)], [], 0, none)
def r_80 : Row := (k_80, [], [], 0, none)
def r_81 : Row := (k_81, [], [], 0, none)
def r_82 : Row := (k_82, [(5, 81)], [], 0, none)
def r_83 : Row := (k_83, [(3, 82)], [], 0, none)
def r_84 : Row := (k_84, [(1, 80), (12, 83)], [], 0, none)
def r_85 : Row := (k_85, [(4, 79), (13, 84), (16, 69)], [(2, [(0, 3)], [rT [44], rT [1000004], iT (1, 0)], [2], [(1, 2, 3)], [])], 1, none)
def r_86 : Row := (k_86, [], [], 0, none)
def r_87 : Row := (k_87, [(6, 86)], [], 0, none)
def r_88 : Row := (k_88, [], [], 0, none)
def r_89 : Row := (k_89, [(3, 74)], [], 0, none)
def r_90 : Row := (k_90, [(1, 88), (12, 89)], [], 0, none)
def r_91 : Row := (k_91, [(4, 87), (13, 90), (16, 69)], [(2, [(0, 4)], [rT [44], rT [1000005], iT (1, 0)], [2], [(1, 2, 4)], [])], 1, none)
def r_92 : Row := (k_92, [(3, 69), (12, 77), (27, 69), (36, 85), (51, 69), (60, 91)], [], 0, none)
def r_93 : Row := (k_93, [(10, 68)], [(4, [fI, (0, 2)], [rT [44], iT (1, 0), iT (2, 0)], [1, 2], [(1, 2, 2)], [])], 1, none)
def r_94 : Row := (k_94, [], [], 0, none)
def r_95 : Row := (k_95, [], [], 0, none)
def r_96 : Row := (k_96, [(6, 95)], [], 0, none)
def r_97 : Row := (k_97, [], [], 0, none)
def r_98 : Row := (k_98, [], [(7, [(0, 255), (0, 0), (1, 6), ((-128), 127), (0, 6)], [rT [1000011], iT (1, 0), iT (2, 0), iT (3, 0), iT (4, 0), iT (5, 0)], [4, 5], [(1, 5, 6)], [])], 1, none)
def r_99 : Row := (k_99, [(1, 97), (11, 22), (18, 47), (33, 98)], [], 0, none)
def r_100 : Row := (k_100, [(1, 94), (14, 96), (17, 99)], [], 0, none)
def r_101 : Row := (k_101, [(3, 100)], [], 0, none)
def r_102 : Row := (k_102, [(1, 68), (18, 101)], [], 0, none)
def r_103 : Row := (k_103, [], [], 0, none)
def r_104 : Row := (k_104, [], [], 0, none)
def r_105 : Row := (k_105, [(6, 104)], [], 0, none)
def r_106 : Row := (k_106, [], [(7, [(0, 255), (0, 0), (1, 3), ((-128), 127), (0, 3)], [rT [1000012], iT (1, 0), iT (2, 0), iT (3, 0), iT (4, 0), iT (5, 0)], [4, 5], [(1, 5, 3)], [])], 1, none)
def r_107 : Row := (k_107, [(1, 97), (11, 22), (18, 47), (33, 106)], [], 0, none)
def r_108 : Row := (k_108, [(1, 103), (14, 105), (17, 107)], [], 0, none)
def r_109 : Row := (k_109, [(3, 108)], [], 0, none)
def r_110 : Row := (k_110, [(1, 68), (18, 109)], [], 0, none)
def r_111 : Row := (k_111, [], [], 0, none)
def r_112 : Row := (k_112, [], [], 0, none)
def r_113 : Row := (k_113, [], [], 0, none)
def r_114 : Row := (k_114, [], [], 0, none)
def r_115 : Row := (k_115, [], [], 0, none)
def r_116 : Row := (k_116, [], [], 0, none)
def r_117 : Row := (k_117, [], [], 0, none)
def r_118 : Row := (k_118, [], [], 0, none)
def r_119 : Row := (k_119, [], [], 0, some 0)
def r_120 : Row := (k_120, [(74, 102), (89, 110), (102, 93), (122, 111), (125, 119)], [], 0, none)
def r_121 : Row := (k_121, [(2, 120), (21, 69), (29, 120), (39, 119)], [(8, [(0, 1), (0, 100)], [rT [44], iT (0, 4), iT (1, 0), iT (2, 0)], [2, 3], [(1, 3, 100)], [])], 1, none)
def r_122 : Row := (k_122, [(2, 121), (21, 69), (29, 121), (39, 119)], [(8, [(0, 1), (0, 100)], [rT [44], iT (0, 4), iT (1, 0), iT (2, 0)], [2, 3], [(1, 3, 100)], [])], 1, none)
def r_123 : Row := (k_123, [(8, 69), (18, 120), (27, 119), (40, 69), (50, 122), (59, 69), (74, 102), (89, 110), (102, 93), (122, 111), (125, 119)], [], 0, none)
def r_124 : Row := (k_124, [(2, 123), (21, 69), (29, 123), (39, 119)], [(8, [(0, 1), (0, 100)], [rT [44], iT (0, 3), iT (1, 0), iT (2, 0)], [2, 3], [(1, 3, 100)], [])], 1, none)
def r_125 : Row := (k_125, [(2, 124), (21, 69), (29, 124), (39, 119)], [(8, [(0, 1), (0, 100)], [rT [44], iT (0, 3), iT (1, 0), iT (2, 0)], [2, 3], [(1, 3, 100)], [])], 1, none)
def r_126 : Row := (k_126, [(8, 69), (18, 123), (27, 119), (40, 69), (50, 125), (59, 69), (74, 102), (89, 110), (102, 93), (122, 111), (125, 119)], [], 0, none)
def r_127 : Row := (k_127, [(2, 126), (21, 69), (29, 126), (39, 119)], [(8, [(0, 1), (0, 100)], [rT [44], iT (0, 2), iT (1, 0), iT (2, 0)], [2, 3], [(1, 3, 100)], [])], 1, none)
def r_128 : Row := (k_128, [(2, 127), (21, 69), (29, 127), (39, 119)], [(8, [(0, 1), (0, 100)], [rT [44], iT (0, 2), iT (1, 0), iT (2, 0)], [2, 3], [(1, 3, 100)], [])], 1, none)
def r_129 : Row := (k_129, [(8, 69), (18, 126), (27, 119), (40, 69), (50, 128), (59, 69), (74, 102), (89, 110), (102, 93), (122, 111), (125, 119)], [], 0, none)
def r_130 : Row := (k_130, [(2, 129), (21, 69), (29, 129), (39, 119)], [(8, [(0, 1), (0, 100)], [rT [44], iT (0, 1), iT (1, 0), iT (2, 0)], [2, 3], [(1, 3, 100)], [])], 1, none)
def r_131 : Row := (k_131, [(2, 130), (21, 69), (29, 130), (39, 119)], [(8, [(0, 1), (0, 100)], [rT [44], iT (0, 1), iT (1, 0), iT (2, 0)], [2, 3], [(1, 3, 100)], [])], 1, none)
def r_132 : Row := (k_132, [(8, 69), (18, 129), (27, 119), (40, 69), (50, 131), (59, 69), (74, 102), (89, 110), (102, 93), (122, 111), (125, 119)], [], 0, none)
def r_133 : Row := (k_133, [(2, 132), (21, 69), (29, 132), (39, 119)], [(8, [(0, 1), (0, 100)], [rT [44], iT (0, 0), iT (1, 0), iT (2, 0)], [2, 3], [(1, 3, 100)], [])], 1, none)
def r_134 : Row := (k_134, [(2, 133), (21, 69), (29, 133), (39, 119)], [(8, [(0, 1), (0, 100)], [rT [44], iT (0, 0), iT (1, 0), iT (2, 0)], [2, 3], [(1, 3, 100)], [])], 1, none)
def r_135 : Row := (k_135, [], [], 0, none)
def r_136 : Row := (k_136, [], [], 0, none)
def r_137 : Row := (k_137, [], [], 0, none)
def r_138 : Row := (k_138, [], [], 0, none)
def r_139 : Row := (k_139, [], [], 0, none)
def r_140 : Row := (k_140, [], [], 0, none)
def r_141 : Row := (k_141, [], [], 0, none)
def r_142 : Row := (k_142, [], [], 0, some 0)
def r_143 : Row := (k_143, [(1, 92), (12, 69), (21, 93), (32, 69), (40, 134), (54, 142)], [], 0, none)
def r_144 : Row := (k_144, [(9, 67), (18, 143), (48, 69), (55, 143)], [(24, [(0, 1), (1, 10)], [rT [44], rT [63, 68, 73, 78, 83, 88], iT (1, 0), iT (2, 0)], [2, 3], [(1, 3, 10)], [])], 1, none)
def r_145 : Row := (k_145, [(25, 144)], [], 0, none)
def r_146 : Row := (k_146, [], [], 0, none)
def r_147 : Row := (k_147, [(1, 146)], [], 0, none)
def r_148 : Row := (k_148, [(40, 147)], [], 0, none)
def r_149 : Row := (k_149, [(10, 12)], [(2, [(0, 127), (0, 7)], [iT (1, 0), iT (2, 0)], [1], [(1, 1, 7)], [])], 1, none)
def r_150 : Row := (k_150, [], [], 0, none)
def r_151 : Row := (k_151, [], [(4, [((-2), 3)], [iT (1, 0), iT (0, 1), iT (0, 0)], [], [(0, 0, 3)], []), (4, [(1, 3)], [iT (1, 0), iT (0, 7), iT (0, 1)], [], [(0, 0, 2)], []), (4, [(2, 3)], [iT (1, 0), iT (0, 49), iT (0, 2)], [], [(0, 0, 1)], []), (4, [(3, 3)], [iT (1, 0), iT (0, 343), iT (0, 3)], [], [(0, 0, 0)], [])], 1, none)
def r_152 : Row := (k_152, [], [], 0, none)
def r_153 : Row := (k_153, [(2, 146)], [], 0, none)
def r_154 : Row := (k_154, [(5, 153)], [], 0, none)
def r_155 : Row := (k_155, [], [(8, [fI, (1, 30), (0, 1), fI, fI, (0, 64)], [iT (1, 0), iT (2, 0), iT (3, 0), iT (4, 0), iT (5, 0), iT (6, 0), jT], [3, 4, 5], [(1, 5, 64)], [])], 1, none)
def r_156 : Row := (k_156, [(20, 153)], [], 0, none)
def r_157 : Row := (k_157, [], [], 0, none)
def r_158 : Row := (k_158, [(2, 157)], [], 0, none)
def r_159 : Row := (k_159, [(5, 157), (73, 158), (116, 54)], [(44, [(0, 5), fI], [rT [0], iT (1, 0), iT (2, 0), iT (0, 0), jT, jT, jT], [], [(0, 0, 7)], []), (44, [(0, 5), (0, 59), (0, 1)], [rT [0], iT (1, 0), iT (2, 0), iT (0, 1), lT (2, 0), jT, iT (3, 0)], [6], [(0, 0, 6)], []), (44, [(0, 5), (0, 58), (0, 1)], [rT [0], iT (1, 0), iT (2, 0), iT (0, 2), lT (2, 1), jT, iT (3, 0)], [6], [(0, 0, 5)], []), (44, [(0, 5), (0, 57), (0, 1)], [rT [0], iT (1, 0), iT (2, 0), iT (0, 3), lT (2, 2), jT, iT (3, 0)], [6], [(0, 0, 4)], []), (44, [(0, 5), (0, 56), (0, 1)], [rT [0], iT (1, 0), iT (2, 0), iT (0, 4), lT (2, 3), jT, iT (3, 0)], [6], [(0, 0, 3)], []), (44, [(0, 5), (0, 55), (0, 1)], [rT [0], iT (1, 0), iT (2, 0), iT (0, 5), lT (2, 4), jT, iT (3, 0)], [6], [(0, 0, 2)], []), (44, [(0, 5), (0, 54), (0, 1)], [rT [0], iT (1, 0), iT (2, 0), iT (0, 6), lT (2, 5), jT, iT (3, 0)], [6], [(0, 0, 1)], []), (44, [(0, 5), (0, 53), (0, 1)], [rT [0], iT (1, 0), iT (2, 0), iT (0, 7), lT (2, 6), jT, iT (3, 0)], [6], [(0, 0, 0)], [])], 1, none)
def r_160 : Row := (k_160, [], [], 0, none)
def r_161 : Row := (k_161, [(8, 160)], [], 0, none)
def r_162 : Row := (k_162, [], [], 0, none)
def r_163 : Row := (k_163, [(18, 162)], [], 0, none)
def r_164 : Row := (k_164, [], [(15, [(0, 2), fI, fI, (0, 7)], [iT (1, 0), iT (2, 0), iT (3, 0), iT (4, 0)], [2, 3], [(1, 3, 7)], [])], 1, none)
def r_165 : Row := (k_165, [], [], 0, none)
def r_166 : Row := (k_166, [(2, 164)], [], 0, none)
def r_167 : Row := (k_167, [(2, 164), (58, 165), (176, 166), (194, 166), (207, 166), (223, 166), (234, 166), (246, 166), (258, 166), (272, 166), (288, 166), (299, 166), (309, 166), (321, 166)], [], 0, none)
def r_168 : Row := (k_168, [(2, 164), (58, 165), (176, 167), (194, 167), (207, 167), (223, 167), (234, 167), (246, 167), (258, 167), (272, 167), (288, 167), (299, 167), (309, 167), (321, 167)], [], 0, none)
def r_169 : Row := (k_169, [(2, 164), (58, 165), (176, 168), (194, 168), (207, 168), (223, 168), (234, 168), (246, 168), (258, 168), (272, 168), (288, 168), (299, 168), (309, 168), (321, 168)], [], 0, none)
def r_170 : Row := (k_170, [(2, 164), (58, 165), (176, 169), (194, 169), (207, 169), (223, 169), (234, 169), (246, 169), (258, 169), (272, 169), (288, 169), (299, 169), (309, 169), (321, 169)], [], 0, none)
def r_171 : Row := (k_171, [(2, 164), (58, 165), (176, 170), (194, 170), (207, 170), (223, 170), (234, 170), (246, 170), (258, 170), (272, 170), (288, 170), (299, 170), (309, 170), (321, 170)], [], 0, none)
def r_172 : Row := (k_172, [(2, 164), (58, 165), (176, 171), (194, 171), (207, 171), (223, 171), (234, 171), (246, 171), (258, 171), (272, 171), (288, 171), (299, 171), (309, 171), (321, 171)], [], 0, none)
def r_173 : Row := (k_173, [(2, 164), (58, 165), (176, 172), (194, 172), (207, 172), (223, 172), (234, 172), (246, 172), (258, 172), (272, 172), (288, 172), (299, 172), (309, 172), (321, 172)], [], 0, none)
def r_174 : Row := (k_174, [(2, 164), (58, 165), (176, 173), (194, 173), (207, 173), (223, 173), (234, 173), (246, 173), (258, 173), (272, 173), (288, 173), (299, 173), (309, 173), (321, 173)], [], 0, none)
def r_175 : Row := (k_175, [(2, 164), (58, 165), (176, 174), (194, 174), (207, 174), (223, 174), (234, 174), (246, 174), (258, 174), (272, 174), (288, 174), (299, 174), (309, 174), (321, 174)], [], 0, none)
def r_176 : Row := (k_176, [(2, 164), (58, 165), (176, 175), (194, 175), (207, 175), (223, 175), (234, 175), (246, 175), (258, 175), (272, 175), (288, 175), (299, 175), (309, 175), (321, 175)], [], 0, none)
def r_177 : Row := (k_177, [(2, 164), (58, 165), (176, 176), (194, 176), (207, 176), (223, 176), (234, 176), (246, 176), (258, 176), (272, 176), (288, 176), (299, 176), (309, 176), (321, 176)], [], 0, none)
def r_178 : Row := (k_178, [(2, 164), (58, 165), (176, 177), (194, 177), (207, 177), (223, 177), (234, 177), (246, 177), (258, 177), (272, 177), (288, 177), (299, 177), (309, 177), (321, 177)], [], 0, none)
def r_179 : Row := (k_179, [(2, 164), (58, 165), (176, 178), (194, 178), (207, 178), (223, 178), (234, 178), (246, 178), (258, 178), (272, 178), (288, 178), (299, 178), (309, 178), (321, 178)], [], 0, none)
def r_180 : Row := (k_180, [(2, 164), (58, 165), (176, 179), (194, 179), (207, 179), (223, 179), (234, 179), (246, 179), (258, 179), (272, 179), (288, 179), (299, 179), (309, 179), (321, 179)], [], 0, none)
def r_181 : Row := (k_181, [(2, 164), (58, 165), (176, 180), (194, 180), (207, 180), (223, 180), (234, 180), (246, 180), (258, 180), (272, 180), (288, 180), (299, 180), (309, 180), (321, 180)], [], 0, none)
def r_182 : Row := (k_182, [(2, 164), (58, 165), (176, 181), (194, 181), (207, 181), (223, 181), (234, 181), (246, 181), (258, 181), (272, 181), (288, 181), (299, 181), (309, 181), (321, 181)], [], 0, none)
def r_183 : Row := (k_183, [(2, 164), (58, 165), (176, 182), (194, 182), (207, 182), (223, 182), (234, 182), (246, 182), (258, 182), (272, 182), (288, 182), (299, 182), (309, 182), (321, 182)], [], 0, none)
def r_184 : Row := (k_184, [(2, 164), (58, 165), (176, 183), (194, 183), (207, 183), (223, 183), (234, 183), (246, 183), (258, 183), (272, 183), (288, 183), (299, 183), (309, 183), (321, 183)], [], 0, none)
def r_185 : Row := (k_185, [(2, 164), (58, 165), (176, 184), (194, 184), (207, 184), (223, 184), (234, 184), (246, 184), (258, 184), (272, 184), (288, 184), (299, 184), (309, 184), (321, 184)], [], 0, none)
def r_186 : Row := (k_186, [(2, 164), (58, 165), (176, 185), (194, 185), (207, 185), (223, 185), (234, 185), (246, 185), (258, 185), (272, 185), (288, 185), (299, 185), (309, 185), (321, 185)], [], 0, none)
def r_187 : Row := (k_187, [(2, 164), (58, 165), (176, 186), (194, 186), (207, 186), (223, 186), (234, 186), (246, 186), (258, 186), (272, 186), (288, 186), (299, 186), (309, 186), (321, 186)], [], 0, none)
def r_188 : Row := (k_188, [(2, 164), (58, 165), (176, 187), (194, 187), (207, 187), (223, 187), (234, 187), (246, 187), (258, 187), (272, 187), (288, 187), (299, 187), (309, 187), (321, 187)], [], 0, none)
def r_189 : Row := (k_189, [(2, 164), (58, 165), (176, 188), (194, 188), (207, 188), (223, 188), (234, 188), (246, 188), (258, 188), (272, 188), (288, 188), (299, 188), (309, 188), (321, 188)], [], 0, none)
def r_190 : Row := (k_190, [(2, 164), (58, 165), (176, 189), (194, 189), (207, 189), (223, 189), (234, 189), (246, 189), (258, 189), (272, 189), (288, 189), (299, 189), (309, 189), (321, 189)], [], 0, none)
def r_191 : Row := (k_191, [(2, 164), (58, 165), (176, 190), (194, 190), (207, 190), (223, 190), (234, 190), (246, 190), (258, 190), (272, 190), (288, 190), (299, 190), (309, 190), (321, 190)], [], 0, none)
def r_192 : Row := (k_192, [(2, 164), (58, 165), (176, 191), (194, 191), (207, 191), (223, 191), (234, 191), (246, 191), (258, 191), (272, 191), (288, 191), (299, 191), (309, 191), (321, 191)], [], 0, none)
def r_193 : Row := (k_193, [(2, 164), (58, 165), (176, 192), (194, 192), (207, 192), (223, 192), (234, 192), (246, 192), (258, 192), (272, 192), (288, 192), (299, 192), (309, 192), (321, 192)], [], 0, none)
def r_194 : Row := (k_194, [(2, 164), (58, 165), (176, 193), (194, 193), (207, 193), (223, 193), (234, 193), (246, 193), (258, 193), (272, 193), (288, 193), (299, 193), (309, 193), (321, 193)], [], 0, none)
def r_195 : Row := (k_195, [(2, 164), (58, 165), (176, 194), (194, 194), (207, 194), (223, 194), (234, 194), (246, 194), (258, 194), (272, 194), (288, 194), (299, 194), (309, 194), (321, 194)], [], 0, none)
def r_196 : Row := (k_196, [(2, 164), (58, 165), (176, 195), (194, 195), (207, 195), (223, 195), (234, 195), (246, 195), (258, 195), (272, 195), (288, 195), (299, 195), (309, 195), (321, 195)], [], 0, none)
def r_197 : Row := (k_197, [(2, 164), (58, 165), (176, 196), (194, 196), (207, 196), (223, 196), (234, 196), (246, 196), (258, 196), (272, 196), (288, 196), (299, 196), (309, 196), (321, 196)], [], 0, none)
def r_198 : Row := (k_198, [(2, 164), (58, 165), (176, 197), (194, 197), (207, 197), (223, 197), (234, 197), (246, 197), (258, 197), (272, 197), (288, 197), (299, 197), (309, 197), (321, 197)], [], 0, none)
def r_199 : Row := (k_199, [(2, 164), (58, 165), (176, 198), (194, 198), (207, 198), (223, 198), (234, 198), (246, 198), (258, 198), (272, 198), (288, 198), (299, 198), (309, 198), (321, 198)], [], 0, none)
def r_200 : Row := (k_200, [(2, 164), (58, 165), (176, 199), (194, 199), (207, 199), (223, 199), (234, 199), (246, 199), (258, 199), (272, 199), (288, 199), (299, 199), (309, 199), (321, 199)], [], 0, none)
def r_201 : Row := (k_201, [(2, 164), (58, 165), (176, 200), (194, 200), (207, 200), (223, 200), (234, 200), (246, 200), (258, 200), (272, 200), (288, 200), (299, 200), (309, 200), (321, 200)], [], 0, none)
def r_202 : Row := (k_202, [(2, 164), (58, 165), (176, 201), (194, 201), (207, 201), (223, 201), (234, 201), (246, 201), (258, 201), (272, 201), (288, 201), (299, 201), (309, 201), (321, 201)], [], 0, none)
def r_203 : Row := (k_203, [(2, 164), (58, 165), (176, 202), (194, 202), (207, 202), (223, 202), (234, 202), (246, 202), (258, 202), (272, 202), (288, 202), (299, 202), (309, 202), (321, 202)], [], 0, none)
def r_204 : Row := (k_204, [(2, 164), (58, 165), (176, 203), (194, 203), (207, 203), (223, 203), (234, 203), (246, 203), (258, 203), (272, 203), (288, 203), (299, 203), (309, 203), (321, 203)], [], 0, none)
def r_205 : Row := (k_205, [(2, 164), (58, 165), (176, 204), (194, 204), (207, 204), (223, 204), (234, 204), (246, 204), (258, 204), (272, 204), (288, 204), (299, 204), (309, 204), (321, 204)], [], 0, none)
def r_206 : Row := (k_206, [(2, 164), (58, 165), (176, 205), (194, 205), (207, 205), (223, 205), (234, 205), (246, 205), (258, 205), (272, 205), (288, 205), (299, 205), (309, 205), (321, 205)], [], 0, none)
def r_207 : Row := (k_207, [(2, 164), (58, 165), (176, 206), (194, 206), (207, 206), (223, 206), (234, 206), (246, 206), (258, 206), (272, 206), (288, 206), (299, 206), (309, 206), (321, 206)], [], 0, none)
def r_208 : Row := (k_208, [(13, 4), (84, 207)], [], 0, none)
def r_209 : Row := (k_209, [], [], 0, none)
def r_210 : Row := (k_210, [(18, 4)], [(43, [(0, 6), (0, 6), (0, 6), ((-1), 6), (0, 7)], [rT [0], iT (1, 0), iT (2, 0), iT (3, 0), iT (4, 0), iT (5, 0)], [3, 4, 5], [(1, 5, 7)], [])], 1, none)
def r_211 : Row := (k_211, [], [], 0, none)
def r_212 : Row := (k_212, [], [(6, [(0, 0), (0, 60)], [rT [57, 58, 59, 60, 61, 62], lT (1, 0), jT, iT (2, 0), iT (0, 60)], [3], [(1, 3, 60)], [])], 1, none)
def r_213 : Row := (k_213, [(2, 157), (29, 212)], [], 0, none)
def r_214 : Row := (k_214, [(5, 157), (25, 213), (62, 213)], [], 0, none)
def r_215 : Row := (k_215, [], [], 0, none)
def r_216 : Row := (k_216, [(5, 157), (36, 158), (65, 215)], [], 0, none)
def r_217 : Row := (k_217, [(5, 157), (18, 158)], [], 0, none)
def r_218 : Row := (k_218, [], [], 0, none)
def r_219 : Row := (k_219, [], [], 0, none)
def r_220 : Row := (k_220, [(5, 218), (18, 219), (29, 218), (41, 219), (53, 219)], [(129, [(0, 6), (0, 9), (0, 6), (0, 9), (0, 9), (0, 4), (0, 6)], [rT [93], iT (1, 0), iT (2, 0), iT (3, 0), iT (4, 0), iT (5, 0), iT (6, 0)], [6, 100], [(1, 6, 4)], [(93, 0, (7, 0))])], 1, none)
def r_221 : Row := (k_221, [], [], 0, none)
def r_222 : Row := (k_222, [(9, 221)], [], 0, none)
def r_223 : Row := (k_223, [], [], 0, none)
def r_224 : Row := (k_224, [(11, 223)], [], 0, none)
def r_225 : Row := (k_225, [], [], 0, none)
def r_226 : Row := (k_226, [], [], 0, none)
def r_227 : Row := (k_227, [], [], 0, none)
def r_228 : Row := (k_228, [(19, 224)], [(4, [(0, 6), ((-1), 6), (0, 7)], [rT [93], iT (1, 0), iT (2, 0), iT (3, 0)], [2, 3], [(1, 3, 7)], [])], 1, none)
def r_229 : Row := (k_229, [], [], 0, none)
def r_230 : Row := (k_230, [(2, 222), (12, 229), (34, 218), (34, 219)], [], 0, none)
def r_231 : Row := (k_231, [(2, 222)], [], 0, none)
def r_232 : Row := (k_232, [], [], 0, none)
def r_233 : Row := (k_233, [(2, 222), (12, 232), (25, 218)], [], 0, none)
def r_234 : Row := (k_234, [], [], 0, none)
def r_235 : Row := (k_235, [(5, 234)], [], 0, none)
def r_236 : Row := (k_236, [], [], 0, none)
def r_237 : Row := (k_237, [(17, 236)], [], 0, none)
def r_238 : Row := (k_238, [], [], 0, none)
def r_239 : Row := (k_239, [], [], 0, none)
def r_240 : Row := (k_240, [], [], 0, none)
def r_241 : Row := (k_241, [], [(2, [(0, 127), (0, 7)], [rT [93], iT (1, 0), iT (2, 0)], [2], [(1, 2, 7)], [])], 1, none)
def r_242 : Row := (k_242, [], [], 0, none)
def r_243 : Row := (k_243, [(4, 236), (7, 242)], [], 0, none)
def r_244 : Row := (k_244, [], [], 0, none)
def r_245 : Row := (k_245, [(16, 236), (19, 242)], [], 0, none)
def r_246 : Row := (k_246, [], [], 0, none)
def r_247 : Row := (k_247, [(4, 246)], [], 0, none)
def r_248 : Row := (k_248, [(2, 247), (89, 224)], [(34, [(0, 5), fI], [rT [93], iT (1, 0), iT (2, 0), iT (0, 0)], [], [(0, 0, 7)], []), (34, [(0, 5), (0, 59)], [rT [93], iT (1, 0), iT (2, 0), iT (0, 1)], [], [(0, 0, 6)], []), (34, [(0, 5), (0, 58)], [rT [93], iT (1, 0), iT (2, 0), iT (0, 2)], [], [(0, 0, 5)], []), (34, [(0, 5), (0, 57)], [rT [93], iT (1, 0), iT (2, 0), iT (0, 3)], [], [(0, 0, 4)], []), (34, [(0, 5), (0, 56)], [rT [93], iT (1, 0), iT (2, 0), iT (0, 4)], [], [(0, 0, 3)], []), (34, [(0, 5), (0, 55)], [rT [93], iT (1, 0), iT (2, 0), iT (0, 5)], [], [(0, 0, 2)], []), (34, [(0, 5), (0, 54)], [rT [93], iT (1, 0), iT (2, 0), iT (0, 6)], [], [(0, 0, 1)], []), (34, [(0, 5), (0, 53)], [rT [93], iT (1, 0), iT (2, 0), iT (0, 7)], [], [(0, 0, 0)], [])], 1, none)
def r_249 : Row := (k_249, [], [(55, [(0, 7)], [rT [93], iT (1, 0)], [1], [(0, 0, 2), (1, 1, 7)], []), (129, [(0, 28)], [rT [93], iT (1, 0)], [1], [(0, 0, 1), (1, 1, 28)], []), (155, [(0, 12)], [rT [93], iT (1, 0)], [1], [(0, 0, 0), (1, 1, 12)], [])], 2, none)
def r_250 : Row := (k_250, [], [(60, [(0, 7)], [rT [93], iT (1, 0)], [1], [(0, 0, 2), (1, 1, 7)], []), (134, [(0, 28)], [rT [93], iT (1, 0)], [1], [(0, 0, 1), (1, 1, 28)], []), (160, [(0, 12)], [rT [93], iT (1, 0)], [1], [(0, 0, 0), (1, 1, 12)], [])], 2, none)
def r_251 : Row := (k_251, [], [], 0, none)
def r_252 : Row := (k_252, [], [], 0, none)
def r_253 : Row := (k_253, [(3, 252)], [], 0, none)
def r_254 : Row := (k_254, [(43, 252), (51, 253), (58, 252), (64, 253), (72, 252), (78, 253), (92, 253)], [], 0, none)
def r_255 : Row := (k_255, [(3, 252), (9, 254)], [], 0, none)
def r_256 : Row := (k_256, [(3, 252), (9, 255)], [], 0, none)
def r_257 : Row := (k_257, [(43, 256), (50, 252), (58, 256), (65, 252), (71, 255), (79, 253), (87, 255)], [], 0, none)
def r_258 : Row := (k_258, [(3, 252), (9, 257)], [], 0, none)
def r_259 : Row := (k_259, [(39, 252), (45, 258), (53, 257), (61, 252), (69, 258), (76, 258)], [], 0, none)
def r_260 : Row := (k_260, [(7, 222), (17, 251), (32, 254), (46, 257), (55, 259)], [], 0, none)
def r_261 : Row := (k_261, [], [], 0, none)
def r_262 : Row := (k_262, [(5, 261)], [], 0, none)
def r_263 : Row := (k_263, [(5, 218), (16, 222)], [], 0, none)
def r_264 : Row := (k_264, [], [], 0, none)
def r_265 : Row := (k_265, [], [], 0, none)
def r_266 : Row := (k_266, [(2, 247), (14, 265)], [(69, [(0, 5), ((-1), 4), fI, (0, 60)], [rT [93], iT (1, 0), iT (2, 0), iT (3, 0), iT (4, 0)], [4], [(1, 4, 60)], [])], 1, none)
def r_267 : Row := (k_267, [], [], 0, none)
def r_268 : Row := (k_268, [], [], 0, none)
def r_269 : Row := (k_269, [(2, 247), (33, 267), (60, 268)], [], 0, none)
def r_270 : Row := (k_270, [(2, 247), (28, 267)], [], 0, none)
def r_278 : Row := (k_278, [(7, 226), (15, 227), (45, 274)], [(12, [(0, 2), (0, 6), (0, 6), (0, 1), fI, (0, 1), (0, 60)], [rT [93], iT (1, 0), iT (2, 0), iT (3, 0), iT (4, 0), iT (5, 0), iT (6, 0), iT (7, 0)], [5, 6, 7], [(1, 7, 60)], [])], 1, none)
def r_279 : Row := (k_279, [(10, 278)], [], 0, none)
def r_280 : Row := (k_280, [(15, 225), (20, 279)], [], 0, none)
def r_281 : Row := (k_281, [(19, 223), (28, 280)], [(4, [(0, 6), fI, (0, 7)], [rT [93], iT (1, 0), iT (2, 0), iT (3, 0)], [2, 3], [(1, 3, 7)], [])], 1, none)
def r_282 : Row := (k_282, [(18, 281), (44, 225), (55, 225)], [(8, [(0, 6), (0, 6), ((-2147483648), 99), (0, 7)], [rT [93], iT (1, 0), iT (2, 0), iT (3, 0), iT (4, 0), jT], [2, 3, 4], [(1, 4, 7)], [])], 1, none)
def r_283 : Row := (k_283, [(75, 228), (81, 282)], [], 0, none)
def r_284 : Row := (k_284, [(18, 283), (22, 278)], [], 0, none)
def r_285 : Row := (k_285, [(16, 278)], [], 0, none)
def r_286 : Row := (k_286, [(22, 223), (32, 223), (42, 280)], [(5, [(0, 6), (0, 2147483647), (0, 2147483647), (0, 7)], [rT [93], iT (1, 0), iT (2, 0), iT (3, 0), iT (4, 0)], [3, 4], [(1, 4, 7)], [])], 1, none)
def r_287 : Row := (k_287, [(16, 223), (24, 285)], [(4, [(0, 2147483647), fI, (0, 7)], [rT [93], iT (1, 0), iT (2, 0), iT (3, 0)], [2, 3], [(1, 3, 7)], [])], 1, none)
def r_288 : Row := (k_288, [(1, 275), (36, 283), (40, 286), (48, 287), (54, 284)], [(16, [(0, 2147483647), (0, 127), (0, 7)], [rT [93], iT (1, 0), iT (2, 0), iT (3, 0), jT, jT], [1, 2, 3], [(1, 3, 7)], [])], 1, none)
def r_289 : Row := (k_289, [(73, 271)], [], 0, none)
def r_290 : Row := (k_290, [(19, 11), (35, 12), (52, 289), (65, 21), (80, 40), (111, 40), (118, 42)], [(24, [(0, 7)], [rT [17], iT (1, 0)], [1], [(1, 1, 7)], [])], 1, none)
def r_291 : Row := (k_291, [(70, 45), (76, 44), (98, 272)], [], 0, none)
def r_292 : Row := (k_292, [(13, 12), (41, 291), (59, 46), (73, 46)], [(2, [(0, 7)], [rT [17], iT (1, 0)], [1], [(1, 1, 7)], [])], 1, none)
def r_293 : Row := (k_293, [(13, 12), (27, 289), (63, 40)], [(2, [(0, 7)], [rT [17], iT (1, 0)], [1], [(1, 1, 7)], [])], 1, none)
def r_294 : Row := (k_294, [(23, 10), (37, 290), (41, 292), (45, 293), (49, 51), (90, 52), (102, 53)], [(60, [(0, 8), fI, (0, 127), (0, 7)], [rT [17], iT (1, 0), iT (2, 0), iT (3, 0), iT (4, 0), jT, jT], [1, 2, 3, 4], [(1, 4, 7)], [])], 1, none)
def r_295 : Row := (k_295, [(1, 8), (8, 294), (17, 54)], [], 0, none)
def r_296 : Row := (k_296, [(5, 4), (123, 54), (138, 295)], [], 0, none)
def r_297 : Row := (k_297, [(17, 8), (24, 294)], [], 0, none)
def r_298 : Row := (k_298, [(1, 294)], [], 0, none)
def r_299 : Row := (k_299, [(25, 8), (44, 298), (47, 43), (69, 10)], [(33, [(0, 30), (0, 1), fI, (0, 30)], [rT [0], iT (1, 0), iT (2, 0), iT (3, 0), iT (4, 0)], [3, 4], [(1, 4, 30)], [])], 1, none)
def r_300 : Row := (k_300, [(12, 8), (30, 10), (35, 43), (47, 149), (59, 298)], [(17, [(0, 1), (0, 31)], [rT [0], iT (1, 0), iT (2, 0), jT], [2], [(1, 2, 31)], [])], 1, none)
def r_301 : Row := (k_301, [(21, 147), (27, 8), (44, 12), (76, 294), (79, 43)], [(33, [(0, 1), ((-5), 6), ((-5), 63), (0, 127), (0, 7)], [rT [0], iT (1, 0), iT (2, 0), iT (3, 0), iT (4, 0), iT (5, 0), jT], [2, 3, 4, 5], [(1, 5, 7)], [])], 1, none)
def r_302 : Row := (k_302, [(1, 8), (21, 294)], [], 0, none)
def r_303 : Row := (k_303, [(5, 4), (27, 54), (55, 302), (58, 43)], [(44, [(0, 6), (0, 1), (0, 6), ((-1), 63), (0, 7)], [rT [0], iT (1, 0), iT (2, 0), iT (3, 0), iT (4, 0), iT (5, 0), jT], [3, 4, 5], [(1, 5, 7)], [])], 1, none)
def r_304 : Row := (k_304, [(5, 4), (18, 54), (38, 8), (47, 150), (54, 294), (58, 12)], [(31, [(0, 6), (0, 2147483647), (0, 7)], [rT [0], iT (1, 0), iT (2, 0), iT (3, 0)], [2, 3], [(1, 3, 7)], [])], 1, none)
def r_305 : Row := (k_305, [(5, 4), (18, 54), (28, 8), (56, 294), (60, 12)], [(33, [(0, 6), (0, 10)], [rT [0], iT (1, 0), iT (2, 0)], [2], [(1, 2, 10)], [])], 1, none)
def r_306 : Row := (k_306, [(1, 8), (16, 294), (19, 149)], [], 0, none)
def r_307 : Row := (k_307, [(5, 4), (18, 54), (28, 8), (55, 294), (58, 43)], [], 0, none)
def r_308 : Row := (k_308, [(14, 12), (28, 273)], [(5, [(0, 600), (0, 600), ((-1), 6)], [rT [18], iT (1, 0), iT (2, 0), iT (3, 0)], [2, 3], [(2, 3, (-1))], [])], 1, none)
def r_309 : Row := (k_309, [(19, 43), (37, 151), (43, 8), (65, 308), (72, 294), (75, 43), (118, 151)], [(49, [((-1), 2), (0, 3), ((-1), 63), (0, 600), (1, 343), (0, 600)], [rT [0], iT (1, 0), iT (2, 0), iT (3, 0), iT (4, 0), iT (5, 0), iT (6, 0), jT], [2, 3, 4, 5, 6], [(1, 6, 600)], [])], 1, none)
def r_310 : Row := (k_310, [(5, 4), (16, 4), (37, 54), (48, 54), (58, 8), (67, 152), (74, 294), (78, 12)], [], 0, none)
def r_311 : Row := (k_311, [(5, 4), (18, 54), (40, 302)], [(31, [(0, 6), (0, 2147483647), (0, 7)], [rT [0], iT (1, 0), iT (2, 0), iT (3, 0)], [2, 3], [(1, 3, 7)], [])], 1, none)
def r_312 : Row := (k_312, [(5, 4), (16, 4), (40, 54), (51, 54), (78, 302), (82, 12), (102, 155)], [(67, [(0, 6), (0, 6), (0, 1), fI, (0, 7)], [rT [0], iT (1, 0), iT (2, 0), iT (3, 0), iT (4, 0), iT (5, 0)], [4, 5], [(1, 5, 7)], [])], 1, none)
def r_313 : Row := (k_313, [(25, 8), (43, 298), (55, 10), (58, 43), (72, 155)], [(33, [(1, 30), (0, 1), fI, (0, 30)], [rT [0], iT (1, 0), iT (2, 0), iT (3, 0), iT (4, 0)], [3, 4], [(1, 4, 30)], [])], 1, none)
def r_314 : Row := (k_314, [(1, 8), (27, 298)], [(6, [(0, 12)], [rT [0], iT (1, 0)], [1], [(1, 1, 12)], [])], 1, none)
def r_315 : Row := (k_315, [(2, 222), (110, 224), (118, 283), (129, 224), (142, 279), (148, 224), (161, 285), (167, 224), (175, 284)], [], 0, none)
def r_316 : Row := (k_316, [(1, 288)], [], 0, none)
def r_317 : Row := (k_317, [(16, 316)], [], 0, none)
def r_318 : Row := (k_318, [(4, 229), (17, 238), (27, 239), (44, 316), (47, 276), (63, 236), (80, 240)], [(35, [(0, 30), (0, 1), (0, 999)], [rT [93], iT (1, 0), iT (2, 0), iT (0, 0), iT (0, 0)], [], [(0, 0, 30)], [(93, 1, (3, 0)), (93, 37, (3, 0))]), (35, [(1, 30), (0, 1), (0, 999), (0, 32)], [rT [93], iT (1, 0), iT (2, 0), iT (4, 0), iT (0, 1)], [3], [(0, 0, 29)], [(93, 1, (3, 1)), (93, 37, (3, 0))]), (35, [(10, 30), (0, 1), (0, 999), (0, 320)], [rT [93], iT (1, 0), iT (2, 0), iT (4, 0), iT (0, 10)], [3], [(0, 0, 20)], [(93, 1, (3, 10)), (93, 37, (3, 0))]), (35, [(11, 30), (0, 1), (0, 999), (0, 352)], [rT [93], iT (1, 0), iT (2, 0), iT (4, 0), iT (0, 11)], [3], [(0, 0, 19)], [(93, 1, (3, 11)), (93, 37, (3, 0))]), (35, [(12, 30), (0, 1), (0, 999), (0, 384)], [rT [93], iT (1, 0), iT (2, 0), iT (4, 0), iT (0, 12)], [3], [(0, 0, 18)], [(93, 1, (3, 12)), (93, 37, (3, 0))]), (35, [(13, 30), (0, 1), (0, 999), (0, 416)], [rT [93], iT (1, 0), iT (2, 0), iT (4, 0), iT (0, 13)], [3], [(0, 0, 17)], [(93, 1, (3, 13)), (93, 37, (3, 0))]), (35, [(14, 30), (0, 1), (0, 999), (0, 448)], [rT [93], iT (1, 0), iT (2, 0), iT (4, 0), iT (0, 14)], [3], [(0, 0, 16)], [(93, 1, (3, 14)), (93, 37, (3, 0))]), (35, [(15, 30), (0, 1), (0, 999), (0, 480)], [rT [93], iT (1, 0), iT (2, 0), iT (4, 0), iT (0, 15)], [3], [(0, 0, 15)], [(93, 1, (3, 15)), (93, 37, (3, 0))]), (35, [(16, 30), (0, 1), (0, 999), (0, 512)], [rT [93], iT (1, 0), iT (2, 0), iT (4, 0), iT (0, 16)], [3], [(0, 0, 14)], [(93, 1, (3, 16)), (93, 37, (3, 0))]), (35, [(17, 30), (0, 1), (0, 999), (0, 544)], [rT [93], iT (1, 0), iT (2, 0), iT (4, 0), iT (0, 17)], [3], [(0, 0, 13)], [(93, 1, (3, 17)), (93, 37, (3, 0))]), (35, [(18, 30), (0, 1), (0, 999), (0, 576)], [rT [93], iT (1, 0), iT (2, 0), iT (4, 0), iT (0, 18)], [3], [(0, 0, 12)], [(93, 1, (3, 18)), (93, 37, (3, 0))]), (35, [(19, 30), (0, 1), (0, 999), (0, 608)], [rT [93], iT (1, 0), iT (2, 0), iT (4, 0), iT (0, 19)], [3], [(0, 0, 11)], [(93, 1, (3, 19)), (93, 37, (3, 0))]), (35, [(2, 30), (0, 1), (0, 999), (0, 64)], [rT [93], iT (1, 0), iT (2, 0), iT (4, 0), iT (0, 2)], [3], [(0, 0, 28)], [(93, 1, (3, 2)), (93, 37, (3, 0))]), (35, [(20, 30), (0, 1), (0, 999), (0, 640)], [rT [93], iT (1, 0), iT (2, 0), iT (4, 0), iT (0, 20)], [3], [(0, 0, 10)], [(93, 1, (3, 20)), (93, 37, (3, 0))]), (35, [(21, 30), (0, 1), (0, 999), (0, 672)], [rT [93], iT (1, 0), iT (2, 0), iT (4, 0), iT (0, 21)], [3], [(0, 0, 9)], [(93, 1, (3, 21)), (93, 37, (3, 0))]), (35, [(22, 30), (0, 1), (0, 999), (0, 704)], [rT [93], iT (1, 0), iT (2, 0), iT (4, 0), iT (0, 22)], [3], [(0, 0, 8)], [(93, 1, (3, 22)), (93, 37, (3, 0))]), (35, [(23, 30), (0, 1), (0, 999), (0, 736)], [rT [93], iT (1, 0), iT (2, 0), iT (4, 0), iT (0, 23)], [3], [(0, 0, 7)], [(93, 1, (3, 23)), (93, 37, (3, 0))]), (35, [(24, 30), (0, 1), (0, 999), (0, 768)], [rT [93], iT (1, 0), iT (2, 0), iT (4, 0), iT (0, 24)], [3], [(0, 0, 6)], [(93, 1, (3, 24)), (93, 37, (3, 0))]), (35, [(25, 30), (0, 1), (0, 999), (0, 800)], [rT [93], iT (1, 0), iT (2, 0), iT (4, 0), iT (0, 25)], [3], [(0, 0, 5)], [(93, 1, (3, 25)), (93, 37, (3, 0))]), (35, [(26, 30), (0, 1), (0, 999), (0, 832)], [rT [93], iT (1, 0), iT (2, 0), iT (4, 0), iT (0, 26)], [3], [(0, 0, 4)], [(93, 1, (3, 26)), (93, 37, (3, 0))]), (35, [(27, 30), (0, 1), (0, 999), (0, 864)], [rT [93], iT (1, 0), iT (2, 0), iT (4, 0), iT (0, 27)], [3], [(0, 0, 3)], [(93, 1, (3, 27)), (93, 37, (3, 0))]), (35, [(28, 30), (0, 1), (0, 999), (0, 896)], [rT [93], iT (1, 0), iT (2, 0), iT (4, 0), iT (0, 28)], [3], [(0, 0, 2)], [(93, 1, (3, 28)), (93, 37, (3, 0))]), (35, [(29, 30), (0, 1), (0, 999), (0, 928)], [rT [93], iT (1, 0), iT (2, 0), iT (4, 0), iT (0, 29)], [3], [(0, 0, 1)], [(93, 1, (3, 29)), (93, 37, (3, 0))]), (35, [(3, 30), (0, 1), (0, 999), (0, 96)], [rT [93], iT (1, 0), iT (2, 0), iT (4, 0), iT (0, 3)], [3], [(0, 0, 27)], [(93, 1, (3, 3)), (93, 37, (3, 0))]), (35, [(30, 30), (0, 1), (0, 999), (0, 960)], [rT [93], iT (1, 0), iT (2, 0), iT (4, 0), iT (0, 30)], [3], [(0, 0, 0)], [(93, 1, (3, 30)), (93, 37, (3, 0))]), (35, [(4, 30), (0, 1), (0, 999), (0, 128)], [rT [93], iT (1, 0), iT (2, 0), iT (4, 0), iT (0, 4)], [3], [(0, 0, 26)], [(93, 1, (3, 4)), (93, 37, (3, 0))]), (35, [(5, 30), (0, 1), (0, 999), (0, 160)], [rT [93], iT (1, 0), iT (2, 0), iT (4, 0), iT (0, 5)], [3], [(0, 0, 25)], [(93, 1, (3, 5)), (93, 37, (3, 0))]), (35, [(6, 30), (0, 1), (0, 999), (0, 192)], [rT [93], iT (1, 0), iT (2, 0), iT (4, 0), iT (0, 6)], [3], [(0, 0, 24)], [(93, 1, (3, 6)), (93, 37, (3, 0))]), (35, [(7, 30), (0, 1), (0, 999), (0, 224)], [rT [93], iT (1, 0), iT (2, 0), iT (4, 0), iT (0, 7)], [3], [(0, 0, 23)], [(93, 1, (3, 7)), (93, 37, (3, 0))]), (35, [(8, 30), (0, 1), (0, 999), (0, 256)], [rT [93], iT (1, 0), iT (2, 0), iT (4, 0), iT (0, 8)], [3], [(0, 0, 22)], [(93, 1, (3, 8)), (93, 37, (3, 0))]), (35, [(9, 30), (0, 1), (0, 999), (0, 288)], [rT [93], iT (1, 0), iT (2, 0), iT (4, 0), iT (0, 9)], [3], [(0, 0, 21)], [(93, 1, (3, 9)), (93, 37, (3, 0))])], 1, none)
def r_319 : Row := (k_319, [(4, 229), (13, 239), (26, 236), (36, 276), (44, 316), (55, 236), (67, 240), (85, 241)], [(18, [(0, 1), (0, 999)], [rT [93], iT (1, 0), iT (0, 0), jT], [], [(0, 0, 31)], [(93, 1, (2, 0)), (93, 37, (2, 0))]), (18, [(0, 1), (0, 999), (0, 127)], [rT [93], iT (1, 0), iT (0, 1), iT (3, 0)], [3], [(0, 0, 30)], [(93, 1, (2, 1)), (93, 37, (2, 0))]), (18, [(0, 1), (0, 999), (0, 127)], [rT [93], iT (1, 0), iT (0, 10), iT (3, 0)], [3], [(0, 0, 21)], [(93, 1, (2, 10)), (93, 37, (2, 0))]), (18, [(0, 1), (0, 999), (0, 127)], [rT [93], iT (1, 0), iT (0, 11), iT (3, 0)], [3], [(0, 0, 20)], [(93, 1, (2, 11)), (93, 37, (2, 0))]), (18, [(0, 1), (0, 999), (0, 127)], [rT [93], iT (1, 0), iT (0, 12), iT (3, 0)], [3], [(0, 0, 19)], [(93, 1, (2, 12)), (93, 37, (2, 0))]), (18, [(0, 1), (0, 999), (0, 127)], [rT [93], iT (1, 0), iT (0, 13), iT (3, 0)], [3], [(0, 0, 18)], [(93, 1, (2, 13)), (93, 37, (2, 0))]), (18, [(0, 1), (0, 999), (0, 127)], [rT [93], iT (1, 0), iT (0, 14), iT (3, 0)], [3], [(0, 0, 17)], [(93, 1, (2, 14)), (93, 37, (2, 0))]), (18, [(0, 1), (0, 999), (0, 127)], [rT [93], iT (1, 0), iT (0, 15), iT (3, 0)], [3], [(0, 0, 16)], [(93, 1, (2, 15)), (93, 37, (2, 0))]), (18, [(0, 1), (0, 999), (0, 127)], [rT [93], iT (1, 0), iT (0, 16), iT (3, 0)], [3], [(0, 0, 15)], [(93, 1, (2, 16)), (93, 37, (2, 0))]), (18, [(0, 1), (0, 999), (0, 127)], [rT [93], iT (1, 0), iT (0, 17), iT (3, 0)], [3], [(0, 0, 14)], [(93, 1, (2, 17)), (93, 37, (2, 0))]), (18, [(0, 1), (0, 999), (0, 127)], [rT [93], iT (1, 0), iT (0, 18), iT (3, 0)], [3], [(0, 0, 13)], [(93, 1, (2, 18)), (93, 37, (2, 0))]), (18, [(0, 1), (0, 999), (0, 127)], [rT [93], iT (1, 0), iT (0, 19), iT (3, 0)], [3], [(0, 0, 12)], [(93, 1, (2, 19)), (93, 37, (2, 0))]), (18, [(0, 1), (0, 999), (0, 127)], [rT [93], iT (1, 0), iT (0, 2), iT (3, 0)], [3], [(0, 0, 29)], [(93, 1, (2, 2)), (93, 37, (2, 0))]), (18, [(0, 1), (0, 999), (0, 127)], [rT [93], iT (1, 0), iT (0, 20), iT (3, 0)], [3], [(0, 0, 11)], [(93, 1, (2, 20)), (93, 37, (2, 0))]), (18, [(0, 1), (0, 999), (0, 127)], [rT [93], iT (1, 0), iT (0, 21), iT (3, 0)], [3], [(0, 0, 10)], [(93, 1, (2, 21)), (93, 37, (2, 0))]), (18, [(0, 1), (0, 999), (0, 127)], [rT [93], iT (1, 0), iT (0, 22), iT (3, 0)], [3], [(0, 0, 9)], [(93, 1, (2, 22)), (93, 37, (2, 0))]), (18, [(0, 1), (0, 999), (0, 127)], [rT [93], iT (1, 0), iT (0, 23), iT (3, 0)], [3], [(0, 0, 8)], [(93, 1, (2, 23)), (93, 37, (2, 0))]), (18, [(0, 1), (0, 999), (0, 127)], [rT [93], iT (1, 0), iT (0, 24), iT (3, 0)], [3], [(0, 0, 7)], [(93, 1, (2, 24)), (93, 37, (2, 0))]), (18, [(0, 1), (0, 999), (0, 127)], [rT [93], iT (1, 0), iT (0, 25), iT (3, 0)], [3], [(0, 0, 6)], [(93, 1, (2, 25)), (93, 37, (2, 0))]), (18, [(0, 1), (0, 999), (0, 127)], [rT [93], iT (1, 0), iT (0, 26), iT (3, 0)], [3], [(0, 0, 5)], [(93, 1, (2, 26)), (93, 37, (2, 0))]), (18, [(0, 1), (0, 999), (0, 127)], [rT [93], iT (1, 0), iT (0, 27), iT (3, 0)], [3], [(0, 0, 4)], [(93, 1, (2, 27)), (93, 37, (2, 0))]), (18, [(0, 1), (0, 999), (0, 127)], [rT [93], iT (1, 0), iT (0, 28), iT (3, 0)], [3], [(0, 0, 3)], [(93, 1, (2, 28)), (93, 37, (2, 0))]), (18, [(0, 1), (0, 999), (0, 127)], [rT [93], iT (1, 0), iT (0, 29), iT (3, 0)], [3], [(0, 0, 2)], [(93, 1, (2, 29)), (93, 37, (2, 0))]), (18, [(0, 1), (0, 999), (0, 127)], [rT [93], iT (1, 0), iT (0, 3), iT (3, 0)], [3], [(0, 0, 28)], [(93, 1, (2, 3)), (93, 37, (2, 0))]), (18, [(0, 1), (0, 999), (0, 127)], [rT [93], iT (1, 0), iT (0, 30), iT (3, 0)], [3], [(0, 0, 1)], [(93, 1, (2, 30)), (93, 37, (2, 0))]), (18, [(0, 1), (0, 999), (0, 127)], [rT [93], iT (1, 0), iT (0, 31), iT (3, 0)], [3], [(0, 0, 0)], [(93, 1, (2, 31)), (93, 37, (2, 0))]), (18, [(0, 1), (0, 999), (0, 127)], [rT [93], iT (1, 0), iT (0, 4), iT (3, 0)], [3], [(0, 0, 27)], [(93, 1, (2, 4)), (93, 37, (2, 0))]), (18, [(0, 1), (0, 999), (0, 127)], [rT [93], iT (1, 0), iT (0, 5), iT (3, 0)], [3], [(0, 0, 26)], [(93, 1, (2, 5)), (93, 37, (2, 0))]), (18, [(0, 1), (0, 999), (0, 127)], [rT [93], iT (1, 0), iT (0, 6), iT (3, 0)], [3], [(0, 0, 25)], [(93, 1, (2, 6)), (93, 37, (2, 0))]), (18, [(0, 1), (0, 999), (0, 127)], [rT [93], iT (1, 0), iT (0, 7), iT (3, 0)], [3], [(0, 0, 24)], [(93, 1, (2, 7)), (93, 37, (2, 0))]), (18, [(0, 1), (0, 999), (0, 127)], [rT [93], iT (1, 0), iT (0, 8), iT (3, 0)], [3], [(0, 0, 23)], [(93, 1, (2, 8)), (93, 37, (2, 0))]), (18, [(0, 1), (0, 999), (0, 127)], [rT [93], iT (1, 0), iT (0, 9), iT (3, 0)], [3], [(0, 0, 22)], [(93, 1, (2, 9)), (93, 37, (2, 0))])], 1, none)
def r_320 : Row := (k_320, [(4, 229), (33, 224), (57, 288), (60, 276)], [(21, [(0, 1), ((-5), 6), ((-5), 32), (0, 7)], [rT [93], iT (1, 0), iT (2, 0), iT (3, 0), iT (4, 0), jT], [2, 3, 4], [(1, 4, 7)], [])], 1, none)
def r_321 : Row := (k_321, [(2, 222), (12, 229), (22, 224), (64, 288), (67, 276)], [(47, [(0, 6), (0, 1), (0, 6), (0, 6), ((-1), 32), (0, 7)], [rT [93], iT (1, 0), iT (2, 0), iT (3, 0), iT (4, 0), iT (5, 0), iT (6, 0), jT], [3, 4, 5, 6], [(1, 6, 7)], [])], 1, none)
def r_322 : Row := (k_322, [(2, 222), (12, 224), (44, 288), (48, 223)], [(30, [(0, 6), (0, 2147483647), (0, 7)], [rT [93], iT (1, 0), iT (2, 0), iT (3, 0)], [2, 3], [(1, 3, 7)], [])], 1, none)
def r_323 : Row := (k_323, [(2, 222), (12, 224), (55, 288), (59, 223)], [(34, [(0, 6), (0, 9), ((-5), 9), (0, 10)], [rT [93], iT (1, 0), iT (2, 0), iT (3, 0), iT (4, 0)], [2, 3, 4], [(1, 4, 10)], [])], 1, none)
def r_324 : Row := (k_324, [(6, 288)], [], 0, none)
def r_325 : Row := (k_325, [(2, 222), (12, 224), (49, 288), (52, 276)], [], 0, none)
def r_326 : Row := (k_326, [(2, 222), (12, 224), (50, 288)], [(33, [(0, 6), (0, 6), (0, 2147483647), (0, 7)], [rT [93], iT (1, 0), iT (2, 0), iT (3, 0), iT (4, 0)], [2, 3, 4], [(1, 4, 7)], [])], 1, none)
def r_327 : Row := (k_327, [(3, 277)], [], 0, none)
def r_328 : Row := (k_328, [(2, 222), (10, 222), (20, 229), (28, 224), (36, 224), (79, 288), (83, 223), (117, 327)], [(60, [(0, 6), (0, 6), (0, 1), (0, 6), fI, (0, 7)], [rT [93], iT (1, 0), iT (2, 0), iT (3, 0), iT (4, 0), iT (5, 0), iT (6, 0)], [4, 5, 6], [(1, 6, 7)], [])], 1, none)
def r_329 : Row := (k_329, [(5, 244), (15, 229), (26, 239), (41, 316), (49, 236), (59, 276), (71, 240), (78, 327)], [(34, [(1, 30), (0, 1), (0, 999)], [rT [93], iT (1, 0), iT (2, 0), iT (0, 0), iT (0, 0), jT], [], [(0, 0, 30)], [(93, 1, (3, 0)), (93, 37, (3, 0))]), (34, [(1, 30), (0, 1), (0, 999), (0, 32), (0, 127)], [rT [93], iT (1, 0), iT (2, 0), iT (4, 0), iT (0, 1), iT (5, 0)], [3, 5], [(0, 0, 29)], [(93, 1, (3, 1)), (93, 37, (3, 0))]), (34, [(10, 30), (0, 1), (0, 999), (0, 320), (0, 127)], [rT [93], iT (1, 0), iT (2, 0), iT (4, 0), iT (0, 10), iT (5, 0)], [3, 5], [(0, 0, 20)], [(93, 1, (3, 10)), (93, 37, (3, 0))]), (34, [(11, 30), (0, 1), (0, 999), (0, 352), (0, 127)], [rT [93], iT (1, 0), iT (2, 0), iT (4, 0), iT (0, 11), iT (5, 0)], [3, 5], [(0, 0, 19)], [(93, 1, (3, 11)), (93, 37, (3, 0))]), (34, [(12, 30), (0, 1), (0, 999), (0, 384), (0, 127)], [rT [93], iT (1, 0), iT (2, 0), iT (4, 0), iT (0, 12), iT (5, 0)], [3, 5], [(0, 0, 18)], [(93, 1, (3, 12)), (93, 37, (3, 0))]), (34, [(13, 30), (0, 1), (0, 999), (0, 416), (0, 127)], [rT [93], iT (1, 0), iT (2, 0), iT (4, 0), iT (0, 13), iT (5, 0)], [3, 5], [(0, 0, 17)], [(93, 1, (3, 13)), (93, 37, (3, 0))]), (34, [(14, 30), (0, 1), (0, 999), (0, 448), (0, 127)], [rT [93], iT (1, 0), iT (2, 0), iT (4, 0), iT (0, 14), iT (5, 0)], [3, 5], [(0, 0, 16)], [(93, 1, (3, 14)), (93, 37, (3, 0))]), (34, [(15, 30), (0, 1), (0, 999), (0, 480), (0, 127)], [rT [93], iT (1, 0), iT (2, 0), iT (4, 0), iT (0, 15), iT (5, 0)], [3, 5], [(0, 0, 15)], [(93, 1, (3, 15)), (93, 37, (3, 0))]), (34, [(16, 30), (0, 1), (0, 999), (0, 512), (0, 127)], [rT [93], iT (1, 0), iT (2, 0), iT (4, 0), iT (0, 16), iT (5, 0)], [3, 5], [(0, 0, 14)], [(93, 1, (3, 16)), (93, 37, (3, 0))]), (34, [(17, 30), (0, 1), (0, 999), (0, 544), (0, 127)], [rT [93], iT (1, 0), iT (2, 0), iT (4, 0), iT (0, 17), iT (5, 0)], [3, 5], [(0, 0, 13)], [(93, 1, (3, 17)), (93, 37, (3, 0))]), (34, [(18, 30), (0, 1), (0, 999), (0, 576), (0, 127)], [rT [93], iT (1, 0), iT (2, 0), iT (4, 0), iT (0, 18), iT (5, 0)], [3, 5], [(0, 0, 12)], [(93, 1, (3, 18)), (93, 37, (3, 0))]), (34, [(19, 30), (0, 1), (0, 999), (0, 608), (0, 127)], [rT [93], iT (1, 0), iT (2, 0), iT (4, 0), iT (0, 19), iT (5, 0)], [3, 5], [(0, 0, 11)], [(93, 1, (3, 19)), (93, 37, (3, 0))]), (34, [(2, 30), (0, 1), (0, 999), (0, 64), (0, 127)], [rT [93], iT (1, 0), iT (2, 0), iT (4, 0), iT (0, 2), iT (5, 0)], [3, 5], [(0, 0, 28)], [(93, 1, (3, 2)), (93, 37, (3, 0))]), (34, [(20, 30), (0, 1), (0, 999), (0, 640), (0, 127)], [rT [93], iT (1, 0), iT (2, 0), iT (4, 0), iT (0, 20), iT (5, 0)], [3, 5], [(0, 0, 10)], [(93, 1, (3, 20)), (93, 37, (3, 0))]), (34, [(21, 30), (0, 1), (0, 999), (0, 672), (0, 127)], [rT [93], iT (1, 0), iT (2, 0), iT (4, 0), iT (0, 21), iT (5, 0)], [3, 5], [(0, 0, 9)], [(93, 1, (3, 21)), (93, 37, (3, 0))]), (34, [(22, 30), (0, 1), (0, 999), (0, 704), (0, 127)], [rT [93], iT (1, 0), iT (2, 0), iT (4, 0), iT (0, 22), iT (5, 0)], [3, 5], [(0, 0, 8)], [(93, 1, (3, 22)), (93, 37, (3, 0))]), (34, [(23, 30), (0, 1), (0, 999), (0, 736), (0, 127)], [rT [93], iT (1, 0), iT (2, 0), iT (4, 0), iT (0, 23), iT (5, 0)], [3, 5], [(0, 0, 7)], [(93, 1, (3, 23)), (93, 37, (3, 0))]), (34, [(24, 30), (0, 1), (0, 999), (0, 768), (0, 127)], [rT [93], iT (1, 0), iT (2, 0), iT (4, 0), iT (0, 24), iT (5, 0)], [3, 5], [(0, 0, 6)], [(93, 1, (3, 24)), (93, 37, (3, 0))]), (34, [(25, 30), (0, 1), (0, 999), (0, 800), (0, 127)], [rT [93], iT (1, 0), iT (2, 0), iT (4, 0), iT (0, 25), iT (5, 0)], [3, 5], [(0, 0, 5)], [(93, 1, (3, 25)), (93, 37, (3, 0))]), (34, [(26, 30), (0, 1), (0, 999), (0, 832), (0, 127)], [rT [93], iT (1, 0), iT (2, 0), iT (4, 0), iT (0, 26), iT (5, 0)], [3, 5], [(0, 0, 4)], [(93, 1, (3, 26)), (93, 37, (3, 0))]), (34, [(27, 30), (0, 1), (0, 999), (0, 864), (0, 127)], [rT [93], iT (1, 0), iT (2, 0), iT (4, 0), iT (0, 27), iT (5, 0)], [3, 5], [(0, 0, 3)], [(93, 1, (3, 27)), (93, 37, (3, 0))]), (34, [(28, 30), (0, 1), (0, 999), (0, 896), (0, 127)], [rT [93], iT (1, 0), iT (2, 0), iT (4, 0), iT (0, 28), iT (5, 0)], [3, 5], [(0, 0, 2)], [(93, 1, (3, 28)), (93, 37, (3, 0))]), (34, [(29, 30), (0, 1), (0, 999), (0, 928), (0, 127)], [rT [93], iT (1, 0), iT (2, 0), iT (4, 0), iT (0, 29), iT (5, 0)], [3, 5], [(0, 0, 1)], [(93, 1, (3, 29)), (93, 37, (3, 0))]), (34, [(3, 30), (0, 1), (0, 999), (0, 96), (0, 127)], [rT [93], iT (1, 0), iT (2, 0), iT (4, 0), iT (0, 3), iT (5, 0)], [3, 5], [(0, 0, 27)], [(93, 1, (3, 3)), (93, 37, (3, 0))]), (34, [(30, 30), (0, 1), (0, 999), (0, 960), (0, 127)], [rT [93], iT (1, 0), iT (2, 0), iT (4, 0), iT (0, 30), iT (5, 0)], [3, 5], [(0, 0, 0)], [(93, 1, (3, 30)), (93, 37, (3, 0))]), (34, [(4, 30), (0, 1), (0, 999), (0, 128), (0, 127)], [rT [93], iT (1, 0), iT (2, 0), iT (4, 0), iT (0, 4), iT (5, 0)], [3, 5], [(0, 0, 26)], [(93, 1, (3, 4)), (93, 37, (3, 0))]), (34, [(5, 30), (0, 1), (0, 999), (0, 160), (0, 127)], [rT [93], iT (1, 0), iT (2, 0), iT (4, 0), iT (0, 5), iT (5, 0)], [3, 5], [(0, 0, 25)], [(93, 1, (3, 5)), (93, 37, (3, 0))]), (34, [(6, 30), (0, 1), (0, 999), (0, 192), (0, 127)], [rT [93], iT (1, 0), iT (2, 0), iT (4, 0), iT (0, 6), iT (5, 0)], [3, 5], [(0, 0, 24)], [(93, 1, (3, 6)), (93, 37, (3, 0))]), (34, [(7, 30), (0, 1), (0, 999), (0, 224), (0, 127)], [rT [93], iT (1, 0), iT (2, 0), iT (4, 0), iT (0, 7), iT (5, 0)], [3, 5], [(0, 0, 23)], [(93, 1, (3, 7)), (93, 37, (3, 0))]), (34, [(8, 30), (0, 1), (0, 999), (0, 256), (0, 127)], [rT [93], iT (1, 0), iT (2, 0), iT (4, 0), iT (0, 8), iT (5, 0)], [3, 5], [(0, 0, 22)], [(93, 1, (3, 8)), (93, 37, (3, 0))]), (34, [(9, 30), (0, 1), (0, 999), (0, 288), (0, 127)], [rT [93], iT (1, 0), iT (2, 0), iT (4, 0), iT (0, 9), iT (5, 0)], [3, 5], [(0, 0, 21)], [(93, 1, (3, 9)), (93, 37, (3, 0))])], 1, none)
def r_330 : Row := (k_330, [(1, 239), (22, 316), (48, 240)], [(9, [(0, 999)], [rT [93], iT (0, (-5)), iT (0, 0)], [], [(0, 0, 12)], [(93, 1, (1, 0)), (93, 37, (1, 0))]), (9, [(0, 999), ((-5), 0)], [rT [93], iT (2, 0), iT (0, 1)], [1], [(0, 0, 11)], [(93, 1, (1, 1)), (93, 37, (1, 0))]), (9, [(0, 999), ((-5), 9)], [rT [93], iT (2, 0), iT (0, 10)], [1], [(0, 0, 2)], [(93, 1, (1, 10)), (93, 37, (1, 0))]), (9, [(0, 999), ((-5), 10)], [rT [93], iT (2, 0), iT (0, 11)], [1], [(0, 0, 1)], [(93, 1, (1, 11)), (93, 37, (1, 0))]), (9, [(0, 999), ((-5), 11)], [rT [93], iT (2, 0), iT (0, 12)], [1], [(0, 0, 0)], [(93, 1, (1, 12)), (93, 37, (1, 0))]), (9, [(0, 999), ((-5), 1)], [rT [93], iT (2, 0), iT (0, 2)], [1], [(0, 0, 10)], [(93, 1, (1, 2)), (93, 37, (1, 0))]), (9, [(0, 999), ((-5), 2)], [rT [93], iT (2, 0), iT (0, 3)], [1], [(0, 0, 9)], [(93, 1, (1, 3)), (93, 37, (1, 0))]), (9, [(0, 999), ((-5), 3)], [rT [93], iT (2, 0), iT (0, 4)], [1], [(0, 0, 8)], [(93, 1, (1, 4)), (93, 37, (1, 0))]), (9, [(0, 999), ((-5), 4)], [rT [93], iT (2, 0), iT (0, 5)], [1], [(0, 0, 7)], [(93, 1, (1, 5)), (93, 37, (1, 0))]), (9, [(0, 999), ((-5), 5)], [rT [93], iT (2, 0), iT (0, 6)], [1], [(0, 0, 6)], [(93, 1, (1, 6)), (93, 37, (1, 0))]), (9, [(0, 999), ((-5), 6)], [rT [93], iT (2, 0), iT (0, 7)], [1], [(0, 0, 5)], [(93, 1, (1, 7)), (93, 37, (1, 0))]), (9, [(0, 999), ((-5), 7)], [rT [93], iT (2, 0), iT (0, 8)], [1], [(0, 0, 4)], [(93, 1, (1, 8)), (93, 37, (1, 0))]), (9, [(0, 999), ((-5), 8)], [rT [93], iT (2, 0), iT (0, 9)], [1], [(0, 0, 3)], [(93, 1, (1, 9)), (93, 37, (1, 0))])], 1, none)
def TBL : List Ctr := [k_0, k_1, k_2, k_3, k_4, k_5, k_6, k_7, k_8, k_9, k_10, k_11, k_12, k_13, k_14, k_15, k_16, k_17, k_18, k_19, k_20, k_21, k_22, k_23, k_24, k_25, k_26, k_27, k_28, k_29, k_30, k_31, k_32, k_33, k_34, k_35, k_36, k_37, k_38, k_39, k_40, k_41, k_42, k_43, k_44, k_45, k_46, k_47, k_48, k_49, k_50, k_51, k_52, k_53, k_54, k_55, k_56, k_57, k_58, k_59, k_60, k_61, k_62, k_63, k_64, k_65, k_66, k_67, k_68, k_69, k_70, k_71, k_72, k_73, k_74, k_75, k_76, k_77, k_78, k_79, k_80, k_81, k_82, k_83, k_84, k_85, k_86, k_87, k_88, k_89, k_90, k_91, k_92, k_93, k_94, k_95, k_96, k_97, k_98, k_99, k_100, k_101, k_102, k_103, k_104, k_105, k_106, k_107, k_108, k_109, k_110, k_111, k_112, k_113, k_114, k_115, k_116, k_117, k_118, k_119, k_120, k_121, k_122, k_123, k_124, k_125, k_126, k_127, k_128, k_129, k_130, k_131, k_132, k_133, k_134, k_135, k_136, k_137, k_138, k_139, k_140, k_141, k_142, k_143, k_144, k_145, k_146, k_147, k_148, k_149, k_150, k_151, k_152, k_153, k_154, k_155, k_156, k_157, k_158, k_159, k_160, k_161, k_162, k_163, k_164, k_165, k_166, k_167, k_168, k_169, k_170, k_171, k_172, k_173, k_174, k_175, k_176, k_177, k_178, k_179, k_180, k_181, k_182, k_183, k_184, k_185, k_186, k_187, k_188, k_189, k_190, k_191, k_192, k_193, k_194, k_195, k_196, k_197, k_198, k_199, k_200, k_201, k_202, k_203, k_204, k_205, k_206, k_207, k_208, k_209, k_210, k_211, k_212, k_213, k_214, k_215, k_216, k_217, k_218, k_219, k_220, k_221, k_222, k_223, k_224, k_225, k_226, k_227, k_228, k_229, k_230, k_231, k_232, k_233, k_234, k_235, k_236, k_237, k_238, k_239, k_240, k_241, k_242, k_243, k_244, k_245, k_246, k_247, k_248, k_249, k_250, k_251, k_252, k_253, k_254, k_255, k_256, k_257, k_258, k_259, k_260, k_261, k_262, k_263, k_264, k_265, k_266, k_267, k_268, k_269, k_270, k_271, k_272, k_273, k_274, k_275, k_276, k_277, k_278, k_279, k_280, k_281, k_282, k_283, k_284, k_285, k_286, k_287, k_288, k_289, k_290, k_291, k_292, k_293, k_294, k_295, k_296, k_297, k_298, k_299, k_300, k_301, k_302, k_303, k_304, k_305, k_306, k_307, k_308, k_309, k_310, k_311, k_312, k_313, k_314, k_315, k_316, k_317, k_318, k_319, k_320, k_321, k_322, k_323, k_324, k_325, k_326, k_327, k_328, k_329, k_330]
end
section
/-! The checks. -/
theorem ok_0 : rowOK (TBL.take 0) r_0 = true := by decide +kernel
theorem ok_1 : rowOK (TBL.take 1) r_1 = true := by decide +kernel
theorem ok_2 : rowOK (TBL.take 2) r_2 = true := by decide +kernel
theorem ok_3 : rowOK (TBL.take 3) r_3 = true := by decide +kernel
theorem ok_4 : rowOK (TBL.take 4) r_4 = true := by decide +kernel
theorem ok_5 : rowOK (TBL.take 5) r_5 = true := by decide +kernel
theorem ok_6 : rowOK (TBL.take 6) r_6 = true := by decide +kernel
theorem ok_7 : rowOK (TBL.take 7) r_7 = true := by decide +kernel
theorem ok_8 : rowOK (TBL.take 8) r_8 = true := by decide +kernel
theorem ok_9 : rowOK (TBL.take 9) r_9 = true := by decide +kernel
theorem ok_10 : rowOK (TBL.take 10) r_10 = true := by decide +kernel
theorem ok_11 : rowOK (TBL.take 11) r_11 = true := by decide +kernel
theorem ok_12 : rowOK (TBL.take 12) r_12 = true := by decide +kernel
theorem ok_13 : rowOK (TBL.take 13) r_13 = true := by decide +kernel
theorem ok_14 : rowOK (TBL.take 14) r_14 = true := by decide +kernel
theorem ok_15 : rowOK (TBL.take 15) r_15 = true := by decide +kernel
theorem ok_16 : rowOK (TBL.take 16) r_16 = true := by decide +kernel
theorem ok_17 : rowOK (TBL.take 17) r_17 = true := by decide +kernel
theorem ok_18 : rowOK (TBL.take 18) r_18 = true := by decide +kernel
theorem ok_19 : rowOK (TBL.take 19) r_19 = true := by decide +kernel
theorem ok_20 : rowOK (TBL.take 20) r_20 = true := by decide +kernel
theorem ok_21 : rowOK (TBL.take 21) r_21 = true := by decide +kernel
theorem ok_22 : rowOK (TBL.take 22) r_22 = true := by decide +kernel
theorem ok_23 : rowOK (TBL.take 23) r_23 = true := by decide +kernel
theorem ok_24 : rowOK (TBL.take 24) r_24 = true := by decide +kernel
theorem ok_25 : rowOK (TBL.take 25) r_25 = true := by decide +kernel
theorem ok_26 : rowOK (TBL.take 26) r_26 = true := by decide +kernel
theorem ok_27 : rowOK (TBL.take 27) r_27 = true := by decide +kernel
theorem ok_28 : rowOK (TBL.take 28) r_28 = true := by decide +kernel
theorem ok_29 : rowOK (TBL.take 29) r_29 = true := by decide +kernel
theorem ok_30 : rowOK (TBL.take 30) r_30 = true := by decide +kernel
theorem ok_31 : rowOK (TBL.take 31) r_31 = true := by decide +kernel
theorem ok_32 : rowOK (TBL.take 32) r_32 = true := by decide +kernel
theorem ok_33 : rowOK (TBL.take 33) r_33 = true := by decide +kernel
theorem ok_34 : rowOK (TBL.take 34) r_34 = true := by decide +kernel
theorem ok_35 : rowOK (TBL.take 35) r_35 = true := by decide +kernel
theorem ok_36 : rowOK (TBL.take 36) r_36 = true := by decide +kernel
theorem ok_37 : rowOK (TBL.take 37) r_37 = true := by decide +kernel
theorem ok_38 : rowOK (TBL.take 38) r_38 = true := by decide +kernel
theorem ok_39 : rowOK (TBL.take 39) r_39 = true := by decide +kernel
theorem ok_40 : rowOK (TBL.take 40) r_40 = true := by decide +kernel
theorem ok_41 : rowOK (TBL.take 41) r_41 = true := by decide +kernel
theorem ok_42 : rowOK (TBL.take 42) r_42 = true := by decide +kernel
theorem ok_43 : rowOK (TBL.take 43) r_43 = true := by decide +kernel
theorem ok_44 : rowOK (TBL.take 44) r_44 = true := by decide +kernel
theorem ok_45 : rowOK (TBL.take 45) r_45 = true := by decide +kernel
theorem ok_46 : rowOK (TBL.take 46) r_46 = true := by decide +kernel
theorem ok_47 : rowOK (TBL.take 47) r_47 = true := by decide +kernel
theorem ok_48 : rowOK (TBL.take 48) r_48 = true := by decide +kernel
theorem ok_49 : rowOK (TBL.take 49) r_49 = true := by decide +kernel
theorem ok_50 : rowOK (TBL.take 50) r_50 = true := by decide +kernel
theorem ok_51 : rowOK (TBL.take 51) r_51 = true := by decide +kernel
theorem ok_52 : rowOK (TBL.take 52) r_52 = true := by decide +kernel
theorem ok_53 : rowOK (TBL.take 53) r_53 = true := by decide +kernel
theorem ok_54 : rowOK (TBL.take 54) r_54 = true := by decide +kernel
theorem ok_55 : rowOK (TBL.take 55) r_55 = true := by decide +kernel
theorem ok_56 : rowOK (TBL.take 56) r_56 = true := by decide +kernel
theorem ok_57 : rowOK (TBL.take 57) r_57 = true := by decide +kernel
theorem ok_58 : rowOK (TBL.take 58) r_58 = true := by decide +kernel
theorem ok_59 : rowOK (TBL.take 59) r_59 = true := by decide +kernel
end
section
/-! The checks. -/
theorem ok_60 : rowOK (TBL.take 60) r_60 = true := by decide +kernel
theorem ok_61 : rowOK (TBL.take 61) r_61 = true := by decide +kernel
theorem ok_62 : rowOK (TBL.take 62) r_62 = true := by decide +kernel
theorem ok_63 : rowOK (TBL.take 63) r_63 = true := by decide +kernel
theorem ok_64 : rowOK (TBL.take 64) r_64 = true := by decide +kernel
theorem ok_65 : rowOK (TBL.take 65) r_65 = true := by decide +kernel
theorem ok_66 : rowOK (TBL.take 66) r_66 = true := by decide +kernel
theorem ok_67 : rowOK (TBL.take 67) r_67 = true := by decide +kernel
theorem ok_68 : rowOK (TBL.take 68) r_68 = true := by decide +kernel
theorem ok_69 : rowOK (TBL.take 69) r_69 = true := by decide +kernel
theorem ok_70 : rowOK (TBL.take 70) r_70 = true := by decide +kernel
theorem ok_71 : rowOK (TBL.take 71) r_71 = true := by decide +kernel
theorem ok_72 : rowOK (TBL.take 72) r_72 = true := by decide +kernel
theorem ok_73 : rowOK (TBL.take 73) r_73 = true := by decide +kernel
theorem ok_74 : rowOK (TBL.take 74) r_74 = true := by decide +kernel
theorem ok_75 : rowOK (TBL.take 75) r_75 = true := by decide +kernel
theorem ok_76 : rowOK (TBL.take 76) r_76 = true := by decide +kernel
theorem ok_77 : rowOK (TBL.take 77) r_77 = true := by decide +kernel
theorem ok_78 : rowOK (TBL.take 78) r_78 = true := by decide +kernel
theorem ok_79 : rowOK (TBL.take 79) r_79 = true := by decide +kernel
theorem ok_80 : rowOK (TBL.take 80) r_80 = true := by decide +kernel
theorem ok_81 : rowOK (TBL.take 81) r_81 = true := by decide +kernel
theorem ok_82 : rowOK (TBL.take 82) r_82 = true := by decide +kernel
theorem ok_83 : rowOK (TBL.take 83) r_83 = true := by decide +kernel
theorem ok_84 : rowOK (TBL.take 84) r_84 = true := by decide +kernel
theorem ok_85 : rowOK (TBL.take 85) r_85 = true := by decide +kernel
theorem ok_86 : rowOK (TBL.take 86) r_86 = true := by decide +kernel
theorem ok_87 : rowOK (TBL.take 87) r_87 = true := by decide +kernel
theorem ok_88 : rowOK (TBL.take 88) r_88 = true := by decide +kernel
theorem ok_89 : rowOK (TBL.take 89) r_89 = true := by decide +kernel
theorem ok_90 : rowOK (TBL.take 90) r_90 = true := by decide +kernel
theorem ok_91 : rowOK (TBL.take 91) r_91 = true := by decide +kernel
theorem ok_92 : rowOK (TBL.take 92) r_92 = true := by decide +kernel
theorem ok_93 : rowOK (TBL.take 93) r_93 = true := by decide +kernel
theorem ok_94 : rowOK (TBL.take 94) r_94 = true := by decide +kernel
theorem ok_95 : rowOK (TBL.take 95) r_95 = true := by decide +kernel
theorem ok_96 : rowOK (TBL.take 96) r_96 = true := by decide +kernel
theorem ok_97 : rowOK (TBL.take 97) r_97 = true := by decide +kernel
theorem ok_98 : rowOK (TBL.take 98) r_98 = true := by decide +kernel
theorem ok_99 : rowOK (TBL.take 99) r_99 = true := by decide +kernel
theorem ok_100 : rowOK (TBL.take 100) r_100 = true := by decide +kernel
theorem ok_101 : rowOK (TBL.take 101) r_101 = true := by decide +kernel
theorem ok_102 : rowOK (TBL.take 102) r_102 = true := by decide +kernel
theorem ok_103 : rowOK (TBL.take 103) r_103 = true := by decide +kernel
theorem ok_104 : rowOK (TBL.take 104) r_104 = true := by decide +kernel
theorem ok_105 : rowOK (TBL.take 105) r_105 = true := by decide +kernel
theorem ok_106 : rowOK (TBL.take 106) r_106 = true := by decide +kernel
theorem ok_107 : rowOK (TBL.take 107) r_107 = true := by decide +kernel
theorem ok_108 : rowOK (TBL.take 108) r_108 = true := by decide +kernel
theorem ok_109 : rowOK (TBL.take 109) r_109 = true := by decide +kernel
theorem ok_110 : rowOK (TBL.take 110) r_110 = true := by decide +kernel
theorem ok_111 : rowOK (TBL.take 111) r_111 = true := by decide +kernel
theorem ok_112 : rowOK (TBL.take 112) r_112 = true := by decide +kernel
theorem ok_113 : rowOK (TBL.take 113) r_113 = true := by decide +kernel
theorem ok_114 : rowOK (TBL.take 114) r_114 = true := by decide +kernel
theorem ok_115 : rowOK (TBL.take 115) r_115 = true := by decide +kernel
theorem ok_116 : rowOK (TBL.take 116) r_116 = true := by decide +kernel
theorem ok_117 : rowOK (TBL.take 117) r_117 = true := by decide +kernel
theorem ok_118 : rowOK (TBL.take 118) r_118 = true := by decide +kernel
theorem ok_119 : rowOK (TBL.take 119) r_119 = true := by decide +kernel
end
section
/-! The checks. -/
theorem ok_120 : rowOK (TBL.take 120) r_120 = true := by decide +kernel
theorem ok_121 : rowOK (TBL.take 121) r_121 = true := by decide +kernel
theorem ok_122 : rowOK (TBL.take 122) r_122 = true := by decide +kernel
theorem ok_123 : rowOK (TBL.take 123) r_123 = true := by decide +kernel
theorem ok_124 : rowOK (TBL.take 124) r_124 = true := by decide +kernel
theorem ok_125 : rowOK (TBL.take 125) r_125 = true := by decide +kernel
theorem ok_126 : rowOK (TBL.take 126) r_126 = true := by decide +kernel
theorem ok_127 : rowOK (TBL.take 127) r_127 = true := by decide +kernel
theorem ok_128 : rowOK (TBL.take 128) r_128 = true := by decide +kernel
theorem ok_129 : rowOK (TBL.take 129) r_129 = true := by decide +kernel
theorem ok_130 : rowOK (TBL.take 130) r_130 = true := by decide +kernel
theorem ok_131 : rowOK (TBL.take 131) r_131 = true := by decide +kernel
theorem ok_132 : rowOK (TBL.take 132) r_132 = true := by decide +kernel
theorem ok_133 : rowOK (TBL.take 133) r_133 = true := by decide +kernel
theorem ok_134 : rowOK (TBL.take 134) r_134 = true := by decide +kernel
theorem ok_135 : rowOK (TBL.take 135) r_135 = true := by decide +kernel
theorem ok_136 : rowOK (TBL.take 136) r_136 = true := by decide +kernel
theorem ok_137 : rowOK (TBL.take 137) r_137 = true := by decide +kernel
theorem ok_138 : rowOK (TBL.take 138) r_138 = true := by decide +kernel
theorem ok_139 : rowOK (TBL.take 139) r_139 = true := by decide +kernel
theorem ok_140 : rowOK (TBL.take 140) r_140 = true := by decide +kernel
theorem ok_141 : rowOK (TBL.take 141) r_141 = true := by decide +kernel
theorem ok_142 : rowOK (TBL.take 142) r_142 = true := by decide +kernel
theorem ok_143 : rowOK (TBL.take 143) r_143 = true := by decide +kernel
theorem ok_144 : rowOK (TBL.take 144) r_144 = true := by decide +kernel
theorem ok_145 : rowOK (TBL.take 145) r_145 = true := by decide +kernel
theorem ok_146 : rowOK (TBL.take 146) r_146 = true := by decide +kernel
theorem ok_147 : rowOK (TBL.take 147) r_147 = true := by decide +kernel
theorem ok_148 : rowOK (TBL.take 148) r_148 = true := by decide +kernel
theorem ok_149 : rowOK (TBL.take 149) r_149 = true := by decide +kernel
theorem ok_150 : rowOK (TBL.take 150) r_150 = true := by decide +kernel
theorem ok_151 : rowOK (TBL.take 151) r_151 = true := by decide +kernel
theorem ok_152 : rowOK (TBL.take 152) r_152 = true := by decide +kernel
theorem ok_153 : rowOK (TBL.take 153) r_153 = true := by decide +kernel
theorem ok_154 : rowOK (TBL.take 154) r_154 = true := by decide +kernel
theorem ok_155 : rowOK (TBL.take 155) r_155 = true := by decide +kernel
theorem ok_156 : rowOK (TBL.take 156) r_156 = true := by decide +kernel
theorem ok_157 : rowOK (TBL.take 157) r_157 = true := by decide +kernel
theorem ok_158 : rowOK (TBL.take 158) r_158 = true := by decide +kernel
theorem ok_159 : rowOK (TBL.take 159) r_159 = true := by decide +kernel
theorem ok_160 : rowOK (TBL.take 160) r_160 = true := by decide +kernel
theorem ok_161 : rowOK (TBL.take 161) r_161 = true := by decide +kernel
theorem ok_162 : rowOK (TBL.take 162) r_162 = true := by decide +kernel
theorem ok_163 : rowOK (TBL.take 163) r_163 = true := by decide +kernel
theorem ok_164 : rowOK (TBL.take 164) r_164 = true := by decide +kernel
theorem ok_165 : rowOK (TBL.take 165) r_165 = true := by decide +kernel
theorem ok_166 : rowOK (TBL.take 166) r_166 = true := by decide +kernel
theorem ok_167 : rowOK (TBL.take 167) r_167 = true := by decide +kernel
theorem ok_168 : rowOK (TBL.take 168) r_168 = true := by decide +kernel
theorem ok_169 : rowOK (TBL.take 169) r_169 = true := by decide +kernel
theorem ok_170 : rowOK (TBL.take 170) r_170 = true := by decide +kernel
theorem ok_171 : rowOK (TBL.take 171) r_171 = true := by decide +kernel
theorem ok_172 : rowOK (TBL.take 172) r_172 = true := by decide +kernel
theorem ok_173 : rowOK (TBL.take 173) r_173 = true := by decide +kernel
theorem ok_174 : rowOK (TBL.take 174) r_174 = true := by decide +kernel
theorem ok_175 : rowOK (TBL.take 175) r_175 = true := by decide +kernel
theorem ok_176 : rowOK (TBL.take 176) r_176 = true := by decide +kernel
theorem ok_177 : rowOK (TBL.take 177) r_177 = true := by decide +kernel
theorem ok_178 : rowOK (TBL.take 178) r_178 = true := by decide +kernel
theorem ok_179 : rowOK (TBL.take 179) r_179 = true := by decide +kernel
end
section
/-! The checks. -/
theorem ok_180 : rowOK (TBL.take 180) r_180 = true := by decide +kernel
theorem ok_181 : rowOK (TBL.take 181) r_181 = true := by decide +kernel
theorem ok_182 : rowOK (TBL.take 182) r_182 = true := by decide +kernel
theorem ok_183 : rowOK (TBL.take 183) r_183 = true := by decide +kernel
theorem ok_184 : rowOK (TBL.take 184) r_184 = true := by decide +kernel
theorem ok_185 : rowOK (TBL.take 185) r_185 = true := by decide +kernel
theorem ok_186 : rowOK (TBL.take 186) r_186 = true := by decide +kernel
theorem ok_187 : rowOK (TBL.take 187) r_187 = true := by decide +kernel
theorem ok_188 : rowOK (TBL.take 188) r_188 = true := by decide +kernel
theorem ok_189 : rowOK (TBL.take 189) r_189 = true := by decide +kernel
theorem ok_190 : rowOK (TBL.take 190) r_190 = true := by decide +kernel
theorem ok_191 : rowOK (TBL.take 191) r_191 = true := by decide +kernel
theorem ok_192 : rowOK (TBL.take 192) r_192 = true := by decide +kernel
theorem ok_193 : rowOK (TBL.take 193) r_193 = true := by decide +kernel
theorem ok_194 : rowOK (TBL.take 194) r_194 = true := by decide +kernel
theorem ok_195 : rowOK (TBL.take 195) r_195 = true := by decide +kernel
theorem ok_196 : rowOK (TBL.take 196) r_196 = true := by decide +kernel
theorem ok_197 : rowOK (TBL.take 197) r_197 = true := by decide +kernel
theorem ok_198 : rowOK (TBL.take 198) r_198 = true := by decide +kernel
theorem ok_199 : rowOK (TBL.take 199) r_199 = true := by decide +kernel
theorem ok_200 : rowOK (TBL.take 200) r_200 = true := by decide +kernel
theorem ok_201 : rowOK (TBL.take 201) r_201 = true := by decide +kernel
theorem ok_202 : rowOK (TBL.take 202) r_202 = true := by decide +kernel
theorem ok_203 : rowOK (TBL.take 203) r_203 = true := by decide +kernel
theorem ok_204 : rowOK (TBL.take 204) r_204 = true := by decide +kernel
theorem ok_205 : rowOK (TBL.take 205) r_205 = true := by decide +kernel
theorem ok_206 : rowOK (TBL.take 206) r_206 = true := by decide +kernel
theorem ok_207 : rowOK (TBL.take 207) r_207 = true := by decide +kernel
theorem ok_208 : rowOK (TBL.take 208) r_208 = true := by decide +kernel
theorem ok_209 : rowOK (TBL.take 209) r_209 = true := by decide +kernel
theorem ok_210 : rowOK (TBL.take 210) r_210 = true := by decide +kernel
theorem ok_211 : rowOK (TBL.take 211) r_211 = true := by decide +kernel
theorem ok_212 : rowOK (TBL.take 212) r_212 = true := by decide +kernel
theorem ok_213 : rowOK (TBL.take 213) r_213 = true := by decide +kernel
theorem ok_214 : rowOK (TBL.take 214) r_214 = true := by decide +kernel
theorem ok_215 : rowOK (TBL.take 215) r_215 = true := by decide +kernel
theorem ok_216 : rowOK (TBL.take 216) r_216 = true := by decide +kernel
theorem ok_217 : rowOK (TBL.take 217) r_217 = true := by decide +kernel
theorem ok_218 : rowOK (TBL.take 218) r_218 = true := by decide +kernel
theorem ok_219 : rowOK (TBL.take 219) r_219 = true := by decide +kernel
theorem ok_220 : rowOK (TBL.take 220) r_220 = true := by decide +kernel
theorem ok_221 : rowOK (TBL.take 221) r_221 = true := by decide +kernel
theorem ok_222 : rowOK (TBL.take 222) r_222 = true := by decide +kernel
theorem ok_223 : rowOK (TBL.take 223) r_223 = true := by decide +kernel
theorem ok_224 : rowOK (TBL.take 224) r_224 = true := by decide +kernel
theorem ok_225 : rowOK (TBL.take 225) r_225 = true := by decide +kernel
theorem ok_226 : rowOK (TBL.take 226) r_226 = true := by decide +kernel
theorem ok_227 : rowOK (TBL.take 227) r_227 = true := by decide +kernel
theorem ok_228 : rowOK (TBL.take 228) r_228 = true := by decide +kernel
theorem ok_229 : rowOK (TBL.take 229) r_229 = true := by decide +kernel
theorem ok_230 : rowOK (TBL.take 230) r_230 = true := by decide +kernel
theorem ok_231 : rowOK (TBL.take 231) r_231 = true := by decide +kernel
theorem ok_232 : rowOK (TBL.take 232) r_232 = true := by decide +kernel
theorem ok_233 : rowOK (TBL.take 233) r_233 = true := by decide +kernel
theorem ok_234 : rowOK (TBL.take 234) r_234 = true := by decide +kernel
theorem ok_235 : rowOK (TBL.take 235) r_235 = true := by decide +kernel
theorem ok_236 : rowOK (TBL.take 236) r_236 = true := by decide +kernel
theorem ok_237 : rowOK (TBL.take 237) r_237 = true := by decide +kernel
theorem ok_238 : rowOK (TBL.take 238) r_238 = true := by decide +kernel
theorem ok_239 : rowOK (TBL.take 239) r_239 = true := by decide +kernel
end
section
/-! The checks. -/
theorem ok_240 : rowOK (TBL.take 240) r_240 = true := by decide +kernel
theorem ok_241 : rowOK (TBL.take 241) r_241 = true := by decide +kernel
theorem ok_242 : rowOK (TBL.take 242) r_242 = true := by decide +kernel
theorem ok_243 : rowOK (TBL.take 243) r_243 = true := by decide +kernel
theorem ok_244 : rowOK (TBL.take 244) r_244 = true := by decide +kernel
theorem ok_245 : rowOK (TBL.take 245) r_245 = true := by decide +kernel
theorem ok_246 : rowOK (TBL.take 246) r_246 = true := by decide +kernel
theorem ok_247 : rowOK (TBL.take 247) r_247 = true := by decide +kernel
theorem ok_248 : rowOK (TBL.take 248) r_248 = true := by decide +kernel
theorem ok_249 : rowOK (TBL.take 249) r_249 = true := by decide +kernel
theorem ok_250 : rowOK (TBL.take 250) r_250 = true := by decide +kernel
theorem ok_251 : rowOK (TBL.take 251) r_251 = true := by decide +kernel
theorem ok_252 : rowOK (TBL.take 252) r_252 = true := by decide +kernel
theorem ok_253 : rowOK (TBL.take 253) r_253 = true := by decide +kernel
theorem ok_254 : rowOK (TBL.take 254) r_254 = true := by decide +kernel
theorem ok_255 : rowOK (TBL.take 255) r_255 = true := by decide +kernel
theorem ok_256 : rowOK (TBL.take 256) r_256 = true := by decide +kernel
theorem ok_257 : rowOK (TBL.take 257) r_257 = true := by decide +kernel
theorem ok_258 : rowOK (TBL.take 258) r_258 = true := by decide +kernel
theorem ok_259 : rowOK (TBL.take 259) r_259 = true := by decide +kernel
theorem ok_260 : rowOK (TBL.take 260) r_260 = true := by decide +kernel
theorem ok_261 : rowOK (TBL.take 261) r_261 = true := by decide +kernel
theorem ok_262 : rowOK (TBL.take 262) r_262 = true := by decide +kernel
theorem ok_263 : rowOK (TBL.take 263) r_263 = true := by decide +kernel
theorem ok_264 : rowOK (TBL.take 264) r_264 = true := by decide +kernel
theorem ok_265 : rowOK (TBL.take 265) r_265 = true := by decide +kernel
theorem ok_266 : rowOK (TBL.take 266) r_266 = true := by decide +kernel
theorem ok_267 : rowOK (TBL.take 267) r_267 = true := by decide +kernel
theorem ok_268 : rowOK (TBL.take 268) r_268 = true := by decide +kernel
theorem ok_269 : rowOK (TBL.take 269) r_269 = true := by decide +kernel
theorem ok_270 : rowOK (TBL.take 270) r_270 = true := by decide +kernel
theorem ok_278 : rowOK (TBL.take 278) r_278 = true := by decide +kernel
theorem ok_279 : rowOK (TBL.take 279) r_279 = true := by decide +kernel
theorem ok_280 : rowOK (TBL.take 280) r_280 = true := by decide +kernel
theorem ok_281 : rowOK (TBL.take 281) r_281 = true := by decide +kernel
theorem ok_282 : rowOK (TBL.take 282) r_282 = true := by decide +kernel
theorem ok_283 : rowOK (TBL.take 283) r_283 = true := by decide +kernel
theorem ok_284 : rowOK (TBL.take 284) r_284 = true := by decide +kernel
theorem ok_285 : rowOK (TBL.take 285) r_285 = true := by decide +kernel
theorem ok_286 : rowOK (TBL.take 286) r_286 = true := by decide +kernel
theorem ok_287 : rowOK (TBL.take 287) r_287 = true := by decide +kernel
theorem ok_288 : rowOK (TBL.take 288) r_288 = true := by decide +kernel
theorem ok_289 : rowOK (TBL.take 289) r_289 = true := by decide +kernel
theorem ok_290 : rowOK (TBL.take 290) r_290 = true := by decide +kernel
theorem ok_291 : rowOK (TBL.take 291) r_291 = true := by decide +kernel
theorem ok_292 : rowOK (TBL.take 292) r_292 = true := by decide +kernel
theorem ok_293 : rowOK (TBL.take 293) r_293 = true := by decide +kernel
theorem ok_294 : rowOK (TBL.take 294) r_294 = true := by decide +kernel
theorem ok_295 : rowOK (TBL.take 295) r_295 = true := by decide +kernel
theorem ok_296 : rowOK (TBL.take 296) r_296 = true := by decide +kernel
theorem ok_297 : rowOK (TBL.take 297) r_297 = true := by decide +kernel
theorem ok_298 : rowOK (TBL.take 298) r_298 = true := by decide +kernel
theorem ok_299 : rowOK (TBL.take 299) r_299 = true := by decide +kernel
theorem ok_300 : rowOK (TBL.take 300) r_300 = true := by decide +kernel
theorem ok_301 : rowOK (TBL.take 301) r_301 = true := by decide +kernel
theorem ok_302 : rowOK (TBL.take 302) r_302 = true := by decide +kernel
theorem ok_303 : rowOK (TBL.take 303) r_303 = true := by decide +kernel
theorem ok_304 : rowOK (TBL.take 304) r_304 = true := by decide +kernel
theorem ok_305 : rowOK (TBL.take 305) r_305 = true := by decide +kernel
theorem ok_306 : rowOK (TBL.take 306) r_306 = true := by decide +kernel
end
section
/-! The checks. -/
theorem ok_307 : rowOK (TBL.take 307) r_307 = true := by decide +kernel
theorem ok_308 : rowOK (TBL.take 308) r_308 = true := by decide +kernel
theorem ok_309 : rowOK (TBL.take 309) r_309 = true := by decide +kernel
theorem ok_310 : rowOK (TBL.take 310) r_310 = true := by decide +kernel
theorem ok_311 : rowOK (TBL.take 311) r_311 = true := by decide +kernel
theorem ok_312 : rowOK (TBL.take 312) r_312 = true := by decide +kernel
theorem ok_313 : rowOK (TBL.take 313) r_313 = true := by decide +kernel
theorem ok_314 : rowOK (TBL.take 314) r_314 = true := by decide +kernel
theorem ok_315 : rowOK (TBL.take 315) r_315 = true := by decide +kernel
theorem ok_316 : rowOK (TBL.take 316) r_316 = true := by decide +kernel
theorem ok_317 : rowOK (TBL.take 317) r_317 = true := by decide +kernel
theorem ok_318 : rowOK (TBL.take 318) r_318 = true := by decide +kernel
theorem ok_319 : rowOK (TBL.take 319) r_319 = true := by decide +kernel
theorem ok_320 : rowOK (TBL.take 320) r_320 = true := by decide +kernel
theorem ok_321 : rowOK (TBL.take 321) r_321 = true := by decide +kernel
theorem ok_322 : rowOK (TBL.take 322) r_322 = true := by decide +kernel
theorem ok_323 : rowOK (TBL.take 323) r_323 = true := by decide +kernel
theorem ok_324 : rowOK (TBL.take 324) r_324 = true := by decide +kernel
theorem ok_325 : rowOK (TBL.take 325) r_325 = true := by decide +kernel
theorem ok_326 : rowOK (TBL.take 326) r_326 = true := by decide +kernel
theorem ok_327 : rowOK (TBL.take 327) r_327 = true := by decide +kernel
theorem ok_328 : rowOK (TBL.take 328) r_328 = true := by decide +kernel
theorem ok_329 : rowOK (TBL.take 329) r_329 = true := by decide +kernel
theorem ok_330 : rowOK (TBL.take 330) r_330 = true := by decide +kernel
end
