section
-- ===== PART A: goes FIRST, ahead of the names: the tables' words, and 'selects' of the private methods out of them =====
/-- a private method of a class that the tables say can be made, by its rows of tables_1 -/
def lw_okq (q : MethodName × Nat) : Prop := (q.1.cls ≠ "java/lang/invoke/MethodHandle" ∧ q.1.cls ≠ "java/lang/invoke/VarHandle") ∧ Cond.instantiable q.1.cls q.2 ∈ tables_1 ∧ Cond.privateMethod q.1 ∈ tables_1 ∧ Cond.instanceMethod q.1 ∈ tables_1
theorem lw_p0 : lw_okq (⟨"EnoughServers$Text", "takesIn", "(I)Z"⟩, 7) := ⟨⟨by decide +kernel, by decide +kernel⟩, List.mem_of_getElem? (i := 19) (by decide +kernel), List.mem_of_getElem? (i := 226) (by decide +kernel), List.mem_of_getElem? (i := 227) (by decide +kernel)⟩
theorem lw_p1 : lw_okq (⟨"EnoughServers$Text", "readInto", "(LEnoughServers$House;)Z"⟩, 7) := ⟨⟨by decide +kernel, by decide +kernel⟩, List.mem_of_getElem? (i := 19) (by decide +kernel), List.mem_of_getElem? (i := 235) (by decide +kernel), List.mem_of_getElem? (i := 236) (by decide +kernel)⟩
theorem lw_p2 : lw_okq (⟨"EnoughServers$Text", "step", "()V"⟩, 7) := ⟨⟨by decide +kernel, by decide +kernel⟩, List.mem_of_getElem? (i := 19) (by decide +kernel), List.mem_of_getElem? (i := 239) (by decide +kernel), List.mem_of_getElem? (i := 240) (by decide +kernel)⟩
theorem lw_p3 : lw_okq (⟨"EnoughServers$Text", "readHouse", "(LEnoughServers$House;)Z"⟩, 7) := ⟨⟨by decide +kernel, by decide +kernel⟩, List.mem_of_getElem? (i := 19) (by decide +kernel), List.mem_of_getElem? (i := 246) (by decide +kernel), List.mem_of_getElem? (i := 247) (by decide +kernel)⟩
theorem lw_p4 : lw_okq (⟨"EnoughServers$Text", "passes", "(I)Z"⟩, 7) := ⟨⟨by decide +kernel, by decide +kernel⟩, List.mem_of_getElem? (i := 19) (by decide +kernel), List.mem_of_getElem? (i := 250) (by decide +kernel), List.mem_of_getElem? (i := 251) (by decide +kernel)⟩
theorem lw_p5 : lw_okq (⟨"EnoughServers$Text", "fails", "(I)Z"⟩, 7) := ⟨⟨by decide +kernel, by decide +kernel⟩, List.mem_of_getElem? (i := 19) (by decide +kernel), List.mem_of_getElem? (i := 254) (by decide +kernel), List.mem_of_getElem? (i := 255) (by decide +kernel)⟩
theorem lw_p6 : lw_okq (⟨"EnoughServers$Text", "isNumber", "(II)Z"⟩, 7) := ⟨⟨by decide +kernel, by decide +kernel⟩, List.mem_of_getElem? (i := 19) (by decide +kernel), List.mem_of_getElem? (i := 262) (by decide +kernel), List.mem_of_getElem? (i := 263) (by decide +kernel)⟩
theorem lw_p7 : lw_okq (⟨"EnoughServers$Text", "readServices", "(LEnoughServers$House;)Z"⟩, 7) := ⟨⟨by decide +kernel, by decide +kernel⟩, List.mem_of_getElem? (i := 19) (by decide +kernel), List.mem_of_getElem? (i := 266) (by decide +kernel), List.mem_of_getElem? (i := 267) (by decide +kernel)⟩
theorem lw_p8 : lw_okq (⟨"EnoughServers$Text", "readNumbers", "(LEnoughServers$House;LEnoughServers$Service;)Z"⟩, 7) := ⟨⟨by decide +kernel, by decide +kernel⟩, List.mem_of_getElem? (i := 19) (by decide +kernel), List.mem_of_getElem? (i := 270) (by decide +kernel), List.mem_of_getElem? (i := 271) (by decide +kernel)⟩
theorem lw_p9 : lw_okq (⟨"EnoughServers$House", "leasts", "()I"⟩, 5) := ⟨⟨by decide +kernel, by decide +kernel⟩, List.mem_of_getElem? (i := 51) (by decide +kernel), List.mem_of_getElem? (i := 274) (by decide +kernel), List.mem_of_getElem? (i := 275) (by decide +kernel)⟩
theorem lw_p10 : lw_okq (⟨"EnoughServers$Text", "readMeasures", "(LEnoughServers$Service;)Z"⟩, 7) := ⟨⟨by decide +kernel, by decide +kernel⟩, List.mem_of_getElem? (i := 19) (by decide +kernel), List.mem_of_getElem? (i := 285) (by decide +kernel), List.mem_of_getElem? (i := 286) (by decide +kernel)⟩
theorem lw_p11 : lw_okq (⟨"EnoughServers$House", "begin", "()V"⟩, 5) := ⟨⟨by decide +kernel, by decide +kernel⟩, List.mem_of_getElem? (i := 51) (by decide +kernel), List.mem_of_getElem? (i := 292) (by decide +kernel), List.mem_of_getElem? (i := 293) (by decide +kernel)⟩
theorem lw_p12 : lw_okq (⟨"EnoughServers$Service", "begin", "()V"⟩, 17) := ⟨⟨by decide +kernel, by decide +kernel⟩, List.mem_of_getElem? (i := 58) (by decide +kernel), List.mem_of_getElem? (i := 296) (by decide +kernel), List.mem_of_getElem? (i := 297) (by decide +kernel)⟩
theorem lw_p13 : lw_okq (⟨"EnoughServers$House", "copyFrom", "(LEnoughServers$House;)V"⟩, 5) := ⟨⟨by decide +kernel, by decide +kernel⟩, List.mem_of_getElem? (i := 51) (by decide +kernel), List.mem_of_getElem? (i := 303) (by decide +kernel), List.mem_of_getElem? (i := 304) (by decide +kernel)⟩
theorem lw_p14 : lw_okq (⟨"EnoughServers$Service", "copyFrom", "(LEnoughServers$Service;)V"⟩, 17) := ⟨⟨by decide +kernel, by decide +kernel⟩, List.mem_of_getElem? (i := 58) (by decide +kernel), List.mem_of_getElem? (i := 310) (by decide +kernel), List.mem_of_getElem? (i := 311) (by decide +kernel)⟩
theorem lw_p15 : lw_okq (⟨"EnoughServers$Service", "takeShape", "(LEnoughServers$Service;)V"⟩, 17) := ⟨⟨by decide +kernel, by decide +kernel⟩, List.mem_of_getElem? (i := 58) (by decide +kernel), List.mem_of_getElem? (i := 314) (by decide +kernel), List.mem_of_getElem? (i := 315) (by decide +kernel)⟩
def lw_privs_1 : List (MethodName × Nat) := [(⟨"EnoughServers$Text", "takesIn", "(I)Z"⟩, 7), (⟨"EnoughServers$Text", "readInto", "(LEnoughServers$House;)Z"⟩, 7), (⟨"EnoughServers$Text", "step", "()V"⟩, 7), (⟨"EnoughServers$Text", "readHouse", "(LEnoughServers$House;)Z"⟩, 7), (⟨"EnoughServers$Text", "passes", "(I)Z"⟩, 7), (⟨"EnoughServers$Text", "fails", "(I)Z"⟩, 7), (⟨"EnoughServers$Text", "isNumber", "(II)Z"⟩, 7), (⟨"EnoughServers$Text", "readServices", "(LEnoughServers$House;)Z"⟩, 7), (⟨"EnoughServers$Text", "readNumbers", "(LEnoughServers$House;LEnoughServers$Service;)Z"⟩, 7), (⟨"EnoughServers$House", "leasts", "()I"⟩, 5), (⟨"EnoughServers$Text", "readMeasures", "(LEnoughServers$Service;)Z"⟩, 7), (⟨"EnoughServers$House", "begin", "()V"⟩, 5), (⟨"EnoughServers$Service", "begin", "()V"⟩, 17), (⟨"EnoughServers$House", "copyFrom", "(LEnoughServers$House;)V"⟩, 5), (⟨"EnoughServers$Service", "copyFrom", "(LEnoughServers$Service;)V"⟩, 17), (⟨"EnoughServers$Service", "takeShape", "(LEnoughServers$Service;)V"⟩, 17)]
theorem lw_r1 : ∀ q ∈ lw_privs_1, lw_okq q := List.forall_mem_cons.mpr ⟨lw_p0, List.forall_mem_cons.mpr ⟨lw_p1, List.forall_mem_cons.mpr ⟨lw_p2, List.forall_mem_cons.mpr ⟨lw_p3, List.forall_mem_cons.mpr ⟨lw_p4, List.forall_mem_cons.mpr ⟨lw_p5, List.forall_mem_cons.mpr ⟨lw_p6, List.forall_mem_cons.mpr ⟨lw_p7, List.forall_mem_cons.mpr ⟨lw_p8, List.forall_mem_cons.mpr ⟨lw_p9, List.forall_mem_cons.mpr ⟨lw_p10, List.forall_mem_cons.mpr ⟨lw_p11, List.forall_mem_cons.mpr ⟨lw_p12, List.forall_mem_cons.mpr ⟨lw_p13, List.forall_mem_cons.mpr ⟨lw_p14, List.forall_mem_cons.mpr ⟨lw_p15, fun _ h => absurd h List.not_mem_nil⟩⟩⟩⟩⟩⟩⟩⟩⟩⟩⟩⟩⟩⟩⟩⟩
theorem lw_p16 : lw_okq (⟨"EnoughServers", "hasMeasure", "(II)Z"⟩, 7) := ⟨⟨by decide +kernel, by decide +kernel⟩, List.mem_of_getElem? (i := 11) (by decide +kernel), List.mem_of_getElem? (i := 327) (by decide +kernel), List.mem_of_getElem? (i := 328) (by decide +kernel)⟩
theorem lw_p17 : lw_okq (⟨"EnoughServers", "hasService", "(I)Z"⟩, 7) := ⟨⟨by decide +kernel, by decide +kernel⟩, List.mem_of_getElem? (i := 11) (by decide +kernel), List.mem_of_getElem? (i := 331) (by decide +kernel), List.mem_of_getElem? (i := 332) (by decide +kernel)⟩
theorem lw_p18 : lw_okq (⟨"EnoughServers", "keepForUndo", "()V"⟩, 7) := ⟨⟨by decide +kernel, by decide +kernel⟩, List.mem_of_getElem? (i := 11) (by decide +kernel), List.mem_of_getElem? (i := 336) (by decide +kernel), List.mem_of_getElem? (i := 337) (by decide +kernel)⟩
theorem lw_p19 : lw_okq (⟨"EnoughServers$House", "playRound", "()V"⟩, 5) := ⟨⟨by decide +kernel, by decide +kernel⟩, List.mem_of_getElem? (i := 51) (by decide +kernel), List.mem_of_getElem? (i := 355) (by decide +kernel), List.mem_of_getElem? (i := 356) (by decide +kernel)⟩
theorem lw_p20 : lw_okq (⟨"EnoughServers$Service", "wake", "(I)V"⟩, 17) := ⟨⟨by decide +kernel, by decide +kernel⟩, List.mem_of_getElem? (i := 58) (by decide +kernel), List.mem_of_getElem? (i := 359) (by decide +kernel), List.mem_of_getElem? (i := 360) (by decide +kernel)⟩
theorem lw_p21 : lw_okq (⟨"EnoughServers$House", "wantBeside", "(LEnoughServers$Service;I)I"⟩, 5) := ⟨⟨by decide +kernel, by decide +kernel⟩, List.mem_of_getElem? (i := 51) (by decide +kernel), List.mem_of_getElem? (i := 363) (by decide +kernel), List.mem_of_getElem? (i := 364) (by decide +kernel)⟩
theorem lw_p22 : lw_okq (⟨"EnoughServers$House", "wantOf", "(LEnoughServers$Service;LEnoughServers$Measure;)I"⟩, 5) := ⟨⟨by decide +kernel, by decide +kernel⟩, List.mem_of_getElem? (i := 51) (by decide +kernel), List.mem_of_getElem? (i := 367) (by decide +kernel), List.mem_of_getElem? (i := 368) (by decide +kernel)⟩
theorem lw_p23 : lw_okq (⟨"EnoughServers$Measure", "foresee", "(III)I"⟩, 4) := ⟨⟨by decide +kernel, by decide +kernel⟩, List.mem_of_getElem? (i := 65) (by decide +kernel), List.mem_of_getElem? (i := 371) (by decide +kernel), List.mem_of_getElem? (i := 372) (by decide +kernel)⟩
theorem lw_p24 : lw_okq (⟨"EnoughServers$Service", "readyIn", "(I)I"⟩, 17) := ⟨⟨by decide +kernel, by decide +kernel⟩, List.mem_of_getElem? (i := 58) (by decide +kernel), List.mem_of_getElem? (i := 378) (by decide +kernel), List.mem_of_getElem? (i := 379) (by decide +kernel)⟩
theorem lw_p25 : lw_okq (⟨"EnoughServers$Measure", "wantBy", "(IIII)I"⟩, 4) := ⟨⟨by decide +kernel, by decide +kernel⟩, List.mem_of_getElem? (i := 65) (by decide +kernel), List.mem_of_getElem? (i := 382) (by decide +kernel), List.mem_of_getElem? (i := 383) (by decide +kernel)⟩
theorem lw_p26 : lw_okq (⟨"EnoughServers$Service", "plan", "(I)V"⟩, 17) := ⟨⟨by decide +kernel, by decide +kernel⟩, List.mem_of_getElem? (i := 58) (by decide +kernel), List.mem_of_getElem? (i := 394) (by decide +kernel), List.mem_of_getElem? (i := 395) (by decide +kernel)⟩
theorem lw_p27 : lw_okq (⟨"EnoughServers$Service", "steadied", "(I)I"⟩, 17) := ⟨⟨by decide +kernel, by decide +kernel⟩, List.mem_of_getElem? (i := 58) (by decide +kernel), List.mem_of_getElem? (i := 398) (by decide +kernel), List.mem_of_getElem? (i := 399) (by decide +kernel)⟩
theorem lw_p28 : lw_okq (⟨"EnoughServers$Service", "bounded", "(I)I"⟩, 17) := ⟨⟨by decide +kernel, by decide +kernel⟩, List.mem_of_getElem? (i := 58) (by decide +kernel), List.mem_of_getElem? (i := 404) (by decide +kernel), List.mem_of_getElem? (i := 405) (by decide +kernel)⟩
theorem lw_p29 : lw_okq (⟨"EnoughServers$Service", "giveUpTooMany", "(I)V"⟩, 17) := ⟨⟨by decide +kernel, by decide +kernel⟩, List.mem_of_getElem? (i := 58) (by decide +kernel), List.mem_of_getElem? (i := 409) (by decide +kernel), List.mem_of_getElem? (i := 410) (by decide +kernel)⟩
theorem lw_p30 : lw_okq (⟨"EnoughServers$House", "giveOut", "()V"⟩, 5) := ⟨⟨by decide +kernel, by decide +kernel⟩, List.mem_of_getElem? (i := 51) (by decide +kernel), List.mem_of_getElem? (i := 413) (by decide +kernel), List.mem_of_getElem? (i := 414) (by decide +kernel)⟩
theorem lw_p31 : lw_okq (⟨"EnoughServers$House", "servers", "()I"⟩, 5) := ⟨⟨by decide +kernel, by decide +kernel⟩, List.mem_of_getElem? (i := 51) (by decide +kernel), List.mem_of_getElem? (i := 417) (by decide +kernel), List.mem_of_getElem? (i := 418) (by decide +kernel)⟩
def lw_privs_2 : List (MethodName × Nat) := [(⟨"EnoughServers", "hasMeasure", "(II)Z"⟩, 7), (⟨"EnoughServers", "hasService", "(I)Z"⟩, 7), (⟨"EnoughServers", "keepForUndo", "()V"⟩, 7), (⟨"EnoughServers$House", "playRound", "()V"⟩, 5), (⟨"EnoughServers$Service", "wake", "(I)V"⟩, 17), (⟨"EnoughServers$House", "wantBeside", "(LEnoughServers$Service;I)I"⟩, 5), (⟨"EnoughServers$House", "wantOf", "(LEnoughServers$Service;LEnoughServers$Measure;)I"⟩, 5), (⟨"EnoughServers$Measure", "foresee", "(III)I"⟩, 4), (⟨"EnoughServers$Service", "readyIn", "(I)I"⟩, 17), (⟨"EnoughServers$Measure", "wantBy", "(IIII)I"⟩, 4), (⟨"EnoughServers$Service", "plan", "(I)V"⟩, 17), (⟨"EnoughServers$Service", "steadied", "(I)I"⟩, 17), (⟨"EnoughServers$Service", "bounded", "(I)I"⟩, 17), (⟨"EnoughServers$Service", "giveUpTooMany", "(I)V"⟩, 17), (⟨"EnoughServers$House", "giveOut", "()V"⟩, 5), (⟨"EnoughServers$House", "servers", "()I"⟩, 5)]
theorem lw_r2 : ∀ q ∈ lw_privs_2, lw_okq q := List.forall_mem_cons.mpr ⟨lw_p16, List.forall_mem_cons.mpr ⟨lw_p17, List.forall_mem_cons.mpr ⟨lw_p18, List.forall_mem_cons.mpr ⟨lw_p19, List.forall_mem_cons.mpr ⟨lw_p20, List.forall_mem_cons.mpr ⟨lw_p21, List.forall_mem_cons.mpr ⟨lw_p22, List.forall_mem_cons.mpr ⟨lw_p23, List.forall_mem_cons.mpr ⟨lw_p24, List.forall_mem_cons.mpr ⟨lw_p25, List.forall_mem_cons.mpr ⟨lw_p26, List.forall_mem_cons.mpr ⟨lw_p27, List.forall_mem_cons.mpr ⟨lw_p28, List.forall_mem_cons.mpr ⟨lw_p29, List.forall_mem_cons.mpr ⟨lw_p30, List.forall_mem_cons.mpr ⟨lw_p31, fun _ h => absurd h List.not_mem_nil⟩⟩⟩⟩⟩⟩⟩⟩⟩⟩⟩⟩⟩⟩⟩⟩
theorem lw_p32 : lw_okq (⟨"EnoughServers$House", "firstInNeed", "()I"⟩, 5) := ⟨⟨by decide +kernel, by decide +kernel⟩, List.mem_of_getElem? (i := 51) (by decide +kernel), List.mem_of_getElem? (i := 421) (by decide +kernel), List.mem_of_getElem? (i := 422) (by decide +kernel)⟩
theorem lw_p33 : lw_okq (⟨"EnoughServers$Service", "goesBefore", "(LEnoughServers$Service;)Z"⟩, 17) := ⟨⟨by decide +kernel, by decide +kernel⟩, List.mem_of_getElem? (i := 58) (by decide +kernel), List.mem_of_getElem? (i := 425) (by decide +kernel), List.mem_of_getElem? (i := 426) (by decide +kernel)⟩
theorem lw_p34 : lw_okq (⟨"EnoughServers$Service", "get", "(IIII)V"⟩, 17) := ⟨⟨by decide +kernel, by decide +kernel⟩, List.mem_of_getElem? (i := 58) (by decide +kernel), List.mem_of_getElem? (i := 430) (by decide +kernel), List.mem_of_getElem? (i := 431) (by decide +kernel)⟩
theorem lw_p35 : lw_okq (⟨"EnoughServers$Service", "close", "(I)V"⟩, 17) := ⟨⟨by decide +kernel, by decide +kernel⟩, List.mem_of_getElem? (i := 58) (by decide +kernel), List.mem_of_getElem? (i := 434) (by decide +kernel), List.mem_of_getElem? (i := 435) (by decide +kernel)⟩
theorem lw_p36 : lw_okq (⟨"EnoughServers$Service", "nextReadyRound", "(I)I"⟩, 17) := ⟨⟨by decide +kernel, by decide +kernel⟩, List.mem_of_getElem? (i := 58) (by decide +kernel), List.mem_of_getElem? (i := 447) (by decide +kernel), List.mem_of_getElem? (i := 448) (by decide +kernel)⟩
theorem lw_p37 : lw_okq (⟨"EnoughServers$House", "pastRounds", "()I"⟩, 5) := ⟨⟨by decide +kernel, by decide +kernel⟩, List.mem_of_getElem? (i := 51) (by decide +kernel), List.mem_of_getElem? (i := 455) (by decide +kernel), List.mem_of_getElem? (i := 456) (by decide +kernel)⟩
theorem lw_p38 : lw_okq (⟨"EnoughServers", "afterOneRound", "(I)LEnoughServers$Service;"⟩, 7) := ⟨⟨by decide +kernel, by decide +kernel⟩, List.mem_of_getElem? (i := 11) (by decide +kernel), List.mem_of_getElem? (i := 472) (by decide +kernel), List.mem_of_getElem? (i := 473) (by decide +kernel)⟩
theorem lw_p39 : lw_okq (⟨"EnoughServers$Service", "isHeldBy", "(I)Z"⟩, 17) := ⟨⟨by decide +kernel, by decide +kernel⟩, List.mem_of_getElem? (i := 58) (by decide +kernel), List.mem_of_getElem? (i := 480) (by decide +kernel), List.mem_of_getElem? (i := 481) (by decide +kernel)⟩
theorem lw_p40 : lw_okq (⟨"EnoughServers$House", "spentByAll", "()I"⟩, 5) := ⟨⟨by decide +kernel, by decide +kernel⟩, List.mem_of_getElem? (i := 51) (by decide +kernel), List.mem_of_getElem? (i := 493) (by decide +kernel), List.mem_of_getElem? (i := 494) (by decide +kernel)⟩
theorem lw_p41 : lw_okq (⟨"EnoughServers$House", "lackOfAll", "()I"⟩, 5) := ⟨⟨by decide +kernel, by decide +kernel⟩, List.mem_of_getElem? (i := 51) (by decide +kernel), List.mem_of_getElem? (i := 497) (by decide +kernel), List.mem_of_getElem? (i := 498) (by decide +kernel)⟩
theorem lw_p42 : lw_okq (⟨"EnoughServers$Measure", "leastValue", "(IIII)I"⟩, 4) := ⟨⟨by decide +kernel, by decide +kernel⟩, List.mem_of_getElem? (i := 65) (by decide +kernel), List.mem_of_getElem? (i := 511) (by decide +kernel), List.mem_of_getElem? (i := 512) (by decide +kernel)⟩
theorem lw_p43 : lw_okq (⟨"EnoughServers$Measure", "leastUpTo", "(IIIII)I"⟩, 4) := ⟨⟨by decide +kernel, by decide +kernel⟩, List.mem_of_getElem? (i := 65) (by decide +kernel), List.mem_of_getElem? (i := 516) (by decide +kernel), List.mem_of_getElem? (i := 517) (by decide +kernel)⟩
theorem lw_p44 : lw_okq (⟨"EnoughServers", "replayed", "(III)LEnoughServers$Service;"⟩, 7) := ⟨⟨by decide +kernel, by decide +kernel⟩, List.mem_of_getElem? (i := 11) (by decide +kernel), List.mem_of_getElem? (i := 524) (by decide +kernel), List.mem_of_getElem? (i := 525) (by decide +kernel)⟩
theorem lw_p45 : lw_okq (⟨"EnoughServers$House", "standAlone", "(LEnoughServers$House;LEnoughServers$Service;)V"⟩, 5) := ⟨⟨by decide +kernel, by decide +kernel⟩, List.mem_of_getElem? (i := 51) (by decide +kernel), List.mem_of_getElem? (i := 528) (by decide +kernel), List.mem_of_getElem? (i := 529) (by decide +kernel)⟩
theorem lw_p46 : lw_okq (⟨"EnoughServers$Service", "tellValues", "(LEnoughServers$Service;I)V"⟩, 17) := ⟨⟨by decide +kernel, by decide +kernel⟩, List.mem_of_getElem? (i := 58) (by decide +kernel), List.mem_of_getElem? (i := 534) (by decide +kernel), List.mem_of_getElem? (i := 535) (by decide +kernel)⟩
theorem lw_p47 : lw_okq (⟨"EnoughServersModel", "lays", "(III)V"⟩, 19) := ⟨⟨by decide +kernel, by decide +kernel⟩, List.mem_of_getElem? (i := 542) (by decide +kernel), List.mem_of_getElem? (i := 620) (by decide +kernel), List.mem_of_getElem? (i := 621) (by decide +kernel)⟩
def lw_privs_3 : List (MethodName × Nat) := [(⟨"EnoughServers$House", "firstInNeed", "()I"⟩, 5), (⟨"EnoughServers$Service", "goesBefore", "(LEnoughServers$Service;)Z"⟩, 17), (⟨"EnoughServers$Service", "get", "(IIII)V"⟩, 17), (⟨"EnoughServers$Service", "close", "(I)V"⟩, 17), (⟨"EnoughServers$Service", "nextReadyRound", "(I)I"⟩, 17), (⟨"EnoughServers$House", "pastRounds", "()I"⟩, 5), (⟨"EnoughServers", "afterOneRound", "(I)LEnoughServers$Service;"⟩, 7), (⟨"EnoughServers$Service", "isHeldBy", "(I)Z"⟩, 17), (⟨"EnoughServers$House", "spentByAll", "()I"⟩, 5), (⟨"EnoughServers$House", "lackOfAll", "()I"⟩, 5), (⟨"EnoughServers$Measure", "leastValue", "(IIII)I"⟩, 4), (⟨"EnoughServers$Measure", "leastUpTo", "(IIIII)I"⟩, 4), (⟨"EnoughServers", "replayed", "(III)LEnoughServers$Service;"⟩, 7), (⟨"EnoughServers$House", "standAlone", "(LEnoughServers$House;LEnoughServers$Service;)V"⟩, 5), (⟨"EnoughServers$Service", "tellValues", "(LEnoughServers$Service;I)V"⟩, 17), (⟨"EnoughServersModel", "lays", "(III)V"⟩, 19)]
theorem lw_r3 : ∀ q ∈ lw_privs_3, lw_okq q := List.forall_mem_cons.mpr ⟨lw_p32, List.forall_mem_cons.mpr ⟨lw_p33, List.forall_mem_cons.mpr ⟨lw_p34, List.forall_mem_cons.mpr ⟨lw_p35, List.forall_mem_cons.mpr ⟨lw_p36, List.forall_mem_cons.mpr ⟨lw_p37, List.forall_mem_cons.mpr ⟨lw_p38, List.forall_mem_cons.mpr ⟨lw_p39, List.forall_mem_cons.mpr ⟨lw_p40, List.forall_mem_cons.mpr ⟨lw_p41, List.forall_mem_cons.mpr ⟨lw_p42, List.forall_mem_cons.mpr ⟨lw_p43, List.forall_mem_cons.mpr ⟨lw_p44, List.forall_mem_cons.mpr ⟨lw_p45, List.forall_mem_cons.mpr ⟨lw_p46, List.forall_mem_cons.mpr ⟨lw_p47, fun _ h => absurd h List.not_mem_nil⟩⟩⟩⟩⟩⟩⟩⟩⟩⟩⟩⟩⟩⟩⟩⟩
theorem lw_p48 : lw_okq (⟨"EnoughServersModel", "reads", "()V"⟩, 19) := ⟨⟨by decide +kernel, by decide +kernel⟩, List.mem_of_getElem? (i := 542) (by decide +kernel), List.mem_of_getElem? (i := 624) (by decide +kernel), List.mem_of_getElem? (i := 625) (by decide +kernel)⟩
theorem lw_p49 : lw_okq (⟨"EnoughServersModel", "readsHead", "()V"⟩, 19) := ⟨⟨by decide +kernel, by decide +kernel⟩, List.mem_of_getElem? (i := 542) (by decide +kernel), List.mem_of_getElem? (i := 630) (by decide +kernel), List.mem_of_getElem? (i := 631) (by decide +kernel)⟩
theorem lw_p50 : lw_okq (⟨"EnoughServersModel", "sign", "(I)V"⟩, 19) := ⟨⟨by decide +kernel, by decide +kernel⟩, List.mem_of_getElem? (i := 542) (by decide +kernel), List.mem_of_getElem? (i := 634) (by decide +kernel), List.mem_of_getElem? (i := 635) (by decide +kernel)⟩
theorem lw_p51 : lw_okq (⟨"EnoughServersModel", "isSign", "(I)Z"⟩, 19) := ⟨⟨by decide +kernel, by decide +kernel⟩, List.mem_of_getElem? (i := 542) (by decide +kernel), List.mem_of_getElem? (i := 638) (by decide +kernel), List.mem_of_getElem? (i := 639) (by decide +kernel)⟩
theorem lw_p52 : lw_okq (⟨"EnoughServersModel", "wrong", "(I)V"⟩, 19) := ⟨⟨by decide +kernel, by decide +kernel⟩, List.mem_of_getElem? (i := 542) (by decide +kernel), List.mem_of_getElem? (i := 642) (by decide +kernel), List.mem_of_getElem? (i := 643) (by decide +kernel)⟩
theorem lw_p53 : lw_okq (⟨"EnoughServersModel", "number", "(III)V"⟩, 19) := ⟨⟨by decide +kernel, by decide +kernel⟩, List.mem_of_getElem? (i := 542) (by decide +kernel), List.mem_of_getElem? (i := 646) (by decide +kernel), List.mem_of_getElem? (i := 647) (by decide +kernel)⟩
theorem lw_p54 : lw_okq (⟨"EnoughServersModel", "goesOn", "(I)V"⟩, 19) := ⟨⟨by decide +kernel, by decide +kernel⟩, List.mem_of_getElem? (i := 542) (by decide +kernel), List.mem_of_getElem? (i := 650) (by decide +kernel), List.mem_of_getElem? (i := 651) (by decide +kernel)⟩
theorem lw_p55 : lw_okq (⟨"EnoughServersModel", "readsService", "()V"⟩, 19) := ⟨⟨by decide +kernel, by decide +kernel⟩, List.mem_of_getElem? (i := 542) (by decide +kernel), List.mem_of_getElem? (i := 654) (by decide +kernel), List.mem_of_getElem? (i := 655) (by decide +kernel)⟩
theorem lw_p56 : lw_okq (⟨"EnoughServersModel", "of", "(II)I"⟩, 19) := ⟨⟨by decide +kernel, by decide +kernel⟩, List.mem_of_getElem? (i := 542) (by decide +kernel), List.mem_of_getElem? (i := 658) (by decide +kernel), List.mem_of_getElem? (i := 659) (by decide +kernel)⟩
theorem lw_p57 : lw_okq (⟨"EnoughServersModel", "leasts", "(I)I"⟩, 19) := ⟨⟨by decide +kernel, by decide +kernel⟩, List.mem_of_getElem? (i := 542) (by decide +kernel), List.mem_of_getElem? (i := 671) (by decide +kernel), List.mem_of_getElem? (i := 672) (by decide +kernel)⟩
theorem lw_p58 : lw_okq (⟨"EnoughServersModel", "kindOf", "()I"⟩, 19) := ⟨⟨by decide +kernel, by decide +kernel⟩, List.mem_of_getElem? (i := 542) (by decide +kernel), List.mem_of_getElem? (i := 675) (by decide +kernel), List.mem_of_getElem? (i := 676) (by decide +kernel)⟩
theorem lw_p59 : lw_okq (⟨"EnoughServersModel", "readsMeasure", "(I)V"⟩, 19) := ⟨⟨by decide +kernel, by decide +kernel⟩, List.mem_of_getElem? (i := 542) (by decide +kernel), List.mem_of_getElem? (i := 679) (by decide +kernel), List.mem_of_getElem? (i := 680) (by decide +kernel)⟩
theorem lw_p60 : lw_okq (⟨"EnoughServersModel", "copies", "(II)V"⟩, 19) := ⟨⟨by decide +kernel, by decide +kernel⟩, List.mem_of_getElem? (i := 542) (by decide +kernel), List.mem_of_getElem? (i := 686) (by decide +kernel), List.mem_of_getElem? (i := 687) (by decide +kernel)⟩
theorem lw_p61 : lw_okq (⟨"EnoughServersModel", "isMeasure", "(II)Z"⟩, 19) := ⟨⟨by decide +kernel, by decide +kernel⟩, List.mem_of_getElem? (i := 542) (by decide +kernel), List.mem_of_getElem? (i := 698) (by decide +kernel), List.mem_of_getElem? (i := 699) (by decide +kernel)⟩
theorem lw_p62 : lw_okq (⟨"EnoughServersModel", "isService", "(I)Z"⟩, 19) := ⟨⟨by decide +kernel, by decide +kernel⟩, List.mem_of_getElem? (i := 542) (by decide +kernel), List.mem_of_getElem? (i := 702) (by decide +kernel), List.mem_of_getElem? (i := 703) (by decide +kernel)⟩
theorem lw_p63 : lw_okq (⟨"EnoughServersModel", "notes", "()V"⟩, 19) := ⟨⟨by decide +kernel, by decide +kernel⟩, List.mem_of_getElem? (i := 542) (by decide +kernel), List.mem_of_getElem? (i := 709) (by decide +kernel), List.mem_of_getElem? (i := 710) (by decide +kernel)⟩
def lw_privs_4 : List (MethodName × Nat) := [(⟨"EnoughServersModel", "reads", "()V"⟩, 19), (⟨"EnoughServersModel", "readsHead", "()V"⟩, 19), (⟨"EnoughServersModel", "sign", "(I)V"⟩, 19), (⟨"EnoughServersModel", "isSign", "(I)Z"⟩, 19), (⟨"EnoughServersModel", "wrong", "(I)V"⟩, 19), (⟨"EnoughServersModel", "number", "(III)V"⟩, 19), (⟨"EnoughServersModel", "goesOn", "(I)V"⟩, 19), (⟨"EnoughServersModel", "readsService", "()V"⟩, 19), (⟨"EnoughServersModel", "of", "(II)I"⟩, 19), (⟨"EnoughServersModel", "leasts", "(I)I"⟩, 19), (⟨"EnoughServersModel", "kindOf", "()I"⟩, 19), (⟨"EnoughServersModel", "readsMeasure", "(I)V"⟩, 19), (⟨"EnoughServersModel", "copies", "(II)V"⟩, 19), (⟨"EnoughServersModel", "isMeasure", "(II)Z"⟩, 19), (⟨"EnoughServersModel", "isService", "(I)Z"⟩, 19), (⟨"EnoughServersModel", "notes", "()V"⟩, 19)]
theorem lw_r4 : ∀ q ∈ lw_privs_4, lw_okq q := List.forall_mem_cons.mpr ⟨lw_p48, List.forall_mem_cons.mpr ⟨lw_p49, List.forall_mem_cons.mpr ⟨lw_p50, List.forall_mem_cons.mpr ⟨lw_p51, List.forall_mem_cons.mpr ⟨lw_p52, List.forall_mem_cons.mpr ⟨lw_p53, List.forall_mem_cons.mpr ⟨lw_p54, List.forall_mem_cons.mpr ⟨lw_p55, List.forall_mem_cons.mpr ⟨lw_p56, List.forall_mem_cons.mpr ⟨lw_p57, List.forall_mem_cons.mpr ⟨lw_p58, List.forall_mem_cons.mpr ⟨lw_p59, List.forall_mem_cons.mpr ⟨lw_p60, List.forall_mem_cons.mpr ⟨lw_p61, List.forall_mem_cons.mpr ⟨lw_p62, List.forall_mem_cons.mpr ⟨lw_p63, fun _ h => absurd h List.not_mem_nil⟩⟩⟩⟩⟩⟩⟩⟩⟩⟩⟩⟩⟩⟩⟩⟩
theorem lw_p64 : lw_okq (⟨"EnoughServersModel", "isHouse", "()Z"⟩, 19) := ⟨⟨by decide +kernel, by decide +kernel⟩, List.mem_of_getElem? (i := 542) (by decide +kernel), List.mem_of_getElem? (i := 723) (by decide +kernel), List.mem_of_getElem? (i := 724) (by decide +kernel)⟩
theorem lw_p65 : lw_okq (⟨"EnoughServersModel", "does", "(I)V"⟩, 19) := ⟨⟨by decide +kernel, by decide +kernel⟩, List.mem_of_getElem? (i := 542) (by decide +kernel), List.mem_of_getElem? (i := 727) (by decide +kernel), List.mem_of_getElem? (i := 728) (by decide +kernel)⟩
theorem lw_p66 : lw_okq (⟨"EnoughServersModel", "starts", "(I)V"⟩, 19) := ⟨⟨by decide +kernel, by decide +kernel⟩, List.mem_of_getElem? (i := 542) (by decide +kernel), List.mem_of_getElem? (i := 731) (by decide +kernel), List.mem_of_getElem? (i := 732) (by decide +kernel)⟩
theorem lw_p67 : lw_okq (⟨"EnoughServersModel", "weighs", "(II)V"⟩, 19) := ⟨⟨by decide +kernel, by decide +kernel⟩, List.mem_of_getElem? (i := 542) (by decide +kernel), List.mem_of_getElem? (i := 735) (by decide +kernel), List.mem_of_getElem? (i := 736) (by decide +kernel)⟩
theorem lw_p68 : lw_okq (⟨"EnoughServersModel", "countOf", "(II)I"⟩, 19) := ⟨⟨by decide +kernel, by decide +kernel⟩, List.mem_of_getElem? (i := 542) (by decide +kernel), List.mem_of_getElem? (i := 739) (by decide +kernel), List.mem_of_getElem? (i := 740) (by decide +kernel)⟩
theorem lw_p69 : lw_okq (⟨"EnoughServersModel", "wanted", "(II)I"⟩, 19) := ⟨⟨by decide +kernel, by decide +kernel⟩, List.mem_of_getElem? (i := 542) (by decide +kernel), List.mem_of_getElem? (i := 743) (by decide +kernel), List.mem_of_getElem? (i := 744) (by decide +kernel)⟩
theorem lw_p70 : lw_okq (⟨"EnoughServersModel", "wantOf", "(IIII)I"⟩, 19) := ⟨⟨by decide +kernel, by decide +kernel⟩, List.mem_of_getElem? (i := 542) (by decide +kernel), List.mem_of_getElem? (i := 747) (by decide +kernel), List.mem_of_getElem? (i := 748) (by decide +kernel)⟩
theorem lw_p71 : lw_okq (⟨"EnoughServersModel", "forecastOf", "(IIII)I"⟩, 19) := ⟨⟨by decide +kernel, by decide +kernel⟩, List.mem_of_getElem? (i := 542) (by decide +kernel), List.mem_of_getElem? (i := 754) (by decide +kernel), List.mem_of_getElem? (i := 755) (by decide +kernel)⟩
theorem lw_p72 : lw_okq (⟨"EnoughServersModel", "pastOf", "(I)I"⟩, 19) := ⟨⟨by decide +kernel, by decide +kernel⟩, List.mem_of_getElem? (i := 542) (by decide +kernel), List.mem_of_getElem? (i := 758) (by decide +kernel), List.mem_of_getElem? (i := 759) (by decide +kernel)⟩
theorem lw_p73 : lw_okq (⟨"EnoughServersModel", "ofWants", "(IIIZ)I"⟩, 19) := ⟨⟨by decide +kernel, by decide +kernel⟩, List.mem_of_getElem? (i := 542) (by decide +kernel), List.mem_of_getElem? (i := 762) (by decide +kernel), List.mem_of_getElem? (i := 763) (by decide +kernel)⟩
theorem lw_p74 : lw_okq (⟨"EnoughServersModel", "sumOf", "(IIII)I"⟩, 19) := ⟨⟨by decide +kernel, by decide +kernel⟩, List.mem_of_getElem? (i := 542) (by decide +kernel), List.mem_of_getElem? (i := 766) (by decide +kernel), List.mem_of_getElem? (i := 767) (by decide +kernel)⟩
theorem lw_p75 : lw_okq (⟨"EnoughServersModel", "givesUp", "(II)V"⟩, 19) := ⟨⟨by decide +kernel, by decide +kernel⟩, List.mem_of_getElem? (i := 542) (by decide +kernel), List.mem_of_getElem? (i := 770) (by decide +kernel), List.mem_of_getElem? (i := 771) (by decide +kernel)⟩
theorem lw_p76 : lw_okq (⟨"EnoughServersModel", "gets", "(I)V"⟩, 19) := ⟨⟨by decide +kernel, by decide +kernel⟩, List.mem_of_getElem? (i := 542) (by decide +kernel), List.mem_of_getElem? (i := 774) (by decide +kernel), List.mem_of_getElem? (i := 775) (by decide +kernel)⟩
theorem lw_p77 : lw_okq (⟨"EnoughServersModel", "isAhead", "(III)Z"⟩, 19) := ⟨⟨by decide +kernel, by decide +kernel⟩, List.mem_of_getElem? (i := 542) (by decide +kernel), List.mem_of_getElem? (i := 778) (by decide +kernel), List.mem_of_getElem? (i := 779) (by decide +kernel)⟩
theorem lw_p78 : lw_okq (⟨"EnoughServersModel", "getsOne", "(II)V"⟩, 19) := ⟨⟨by decide +kernel, by decide +kernel⟩, List.mem_of_getElem? (i := 542) (by decide +kernel), List.mem_of_getElem? (i := 782) (by decide +kernel), List.mem_of_getElem? (i := 783) (by decide +kernel)⟩
theorem lw_p79 : lw_okq (⟨"EnoughServersModel", "allCounts", "(I)I"⟩, 19) := ⟨⟨by decide +kernel, by decide +kernel⟩, List.mem_of_getElem? (i := 542) (by decide +kernel), List.mem_of_getElem? (i := 786) (by decide +kernel), List.mem_of_getElem? (i := 787) (by decide +kernel)⟩
def lw_privs_5 : List (MethodName × Nat) := [(⟨"EnoughServersModel", "isHouse", "()Z"⟩, 19), (⟨"EnoughServersModel", "does", "(I)V"⟩, 19), (⟨"EnoughServersModel", "starts", "(I)V"⟩, 19), (⟨"EnoughServersModel", "weighs", "(II)V"⟩, 19), (⟨"EnoughServersModel", "countOf", "(II)I"⟩, 19), (⟨"EnoughServersModel", "wanted", "(II)I"⟩, 19), (⟨"EnoughServersModel", "wantOf", "(IIII)I"⟩, 19), (⟨"EnoughServersModel", "forecastOf", "(IIII)I"⟩, 19), (⟨"EnoughServersModel", "pastOf", "(I)I"⟩, 19), (⟨"EnoughServersModel", "ofWants", "(IIIZ)I"⟩, 19), (⟨"EnoughServersModel", "sumOf", "(IIII)I"⟩, 19), (⟨"EnoughServersModel", "givesUp", "(II)V"⟩, 19), (⟨"EnoughServersModel", "gets", "(I)V"⟩, 19), (⟨"EnoughServersModel", "isAhead", "(III)Z"⟩, 19), (⟨"EnoughServersModel", "getsOne", "(II)V"⟩, 19), (⟨"EnoughServersModel", "allCounts", "(I)I"⟩, 19)]
theorem lw_r5 : ∀ q ∈ lw_privs_5, lw_okq q := List.forall_mem_cons.mpr ⟨lw_p64, List.forall_mem_cons.mpr ⟨lw_p65, List.forall_mem_cons.mpr ⟨lw_p66, List.forall_mem_cons.mpr ⟨lw_p67, List.forall_mem_cons.mpr ⟨lw_p68, List.forall_mem_cons.mpr ⟨lw_p69, List.forall_mem_cons.mpr ⟨lw_p70, List.forall_mem_cons.mpr ⟨lw_p71, List.forall_mem_cons.mpr ⟨lw_p72, List.forall_mem_cons.mpr ⟨lw_p73, List.forall_mem_cons.mpr ⟨lw_p74, List.forall_mem_cons.mpr ⟨lw_p75, List.forall_mem_cons.mpr ⟨lw_p76, List.forall_mem_cons.mpr ⟨lw_p77, List.forall_mem_cons.mpr ⟨lw_p78, List.forall_mem_cons.mpr ⟨lw_p79, fun _ h => absurd h List.not_mem_nil⟩⟩⟩⟩⟩⟩⟩⟩⟩⟩⟩⟩⟩⟩⟩⟩
theorem lw_p80 : lw_okq (⟨"EnoughServersModel", "sums", "(II)V"⟩, 19) := ⟨⟨by decide +kernel, by decide +kernel⟩, List.mem_of_getElem? (i := 542) (by decide +kernel), List.mem_of_getElem? (i := 790) (by decide +kernel), List.mem_of_getElem? (i := 791) (by decide +kernel)⟩
theorem lw_p81 : lw_okq (⟨"EnoughServersModel", "moves", "(IIII)V"⟩, 19) := ⟨⟨by decide +kernel, by decide +kernel⟩, List.mem_of_getElem? (i := 542) (by decide +kernel), List.mem_of_getElem? (i := 794) (by decide +kernel), List.mem_of_getElem? (i := 795) (by decide +kernel)⟩
theorem lw_p82 : lw_okq (⟨"EnoughServersModel", "nextStarting", "(I)I"⟩, 19) := ⟨⟨by decide +kernel, by decide +kernel⟩, List.mem_of_getElem? (i := 542) (by decide +kernel), List.mem_of_getElem? (i := 806) (by decide +kernel), List.mem_of_getElem? (i := 807) (by decide +kernel)⟩
theorem lw_p83 : lw_okq (⟨"EnoughServersModel", "tries", "()V"⟩, 19) := ⟨⟨by decide +kernel, by decide +kernel⟩, List.mem_of_getElem? (i := 542) (by decide +kernel), List.mem_of_getElem? (i := 815) (by decide +kernel), List.mem_of_getElem? (i := 816) (by decide +kernel)⟩
theorem lw_p84 : lw_okq (⟨"EnoughServersModel", "triesRound", "()V"⟩, 19) := ⟨⟨by decide +kernel, by decide +kernel⟩, List.mem_of_getElem? (i := 542) (by decide +kernel), List.mem_of_getElem? (i := 835) (by decide +kernel), List.mem_of_getElem? (i := 836) (by decide +kernel)⟩
theorem lw_p85 : lw_okq (⟨"EnoughServersModel", "allOf", "(II)I"⟩, 19) := ⟨⟨by decide +kernel, by decide +kernel⟩, List.mem_of_getElem? (i := 542) (by decide +kernel), List.mem_of_getElem? (i := 854) (by decide +kernel), List.mem_of_getElem? (i := 855) (by decide +kernel)⟩
theorem lw_p86 : lw_okq (⟨"EnoughServersModel", "replays", "(III)V"⟩, 19) := ⟨⟨by decide +kernel, by decide +kernel⟩, List.mem_of_getElem? (i := 542) (by decide +kernel), List.mem_of_getElem? (i := 872) (by decide +kernel), List.mem_of_getElem? (i := 873) (by decide +kernel)⟩
def lw_privs_6 : List (MethodName × Nat) := [(⟨"EnoughServersModel", "sums", "(II)V"⟩, 19), (⟨"EnoughServersModel", "moves", "(IIII)V"⟩, 19), (⟨"EnoughServersModel", "nextStarting", "(I)I"⟩, 19), (⟨"EnoughServersModel", "tries", "()V"⟩, 19), (⟨"EnoughServersModel", "triesRound", "()V"⟩, 19), (⟨"EnoughServersModel", "allOf", "(II)I"⟩, 19), (⟨"EnoughServersModel", "replays", "(III)V"⟩, 19)]
theorem lw_r6 : ∀ q ∈ lw_privs_6, lw_okq q := List.forall_mem_cons.mpr ⟨lw_p80, List.forall_mem_cons.mpr ⟨lw_p81, List.forall_mem_cons.mpr ⟨lw_p82, List.forall_mem_cons.mpr ⟨lw_p83, List.forall_mem_cons.mpr ⟨lw_p84, List.forall_mem_cons.mpr ⟨lw_p85, List.forall_mem_cons.mpr ⟨lw_p86, fun _ h => absurd h List.not_mem_nil⟩⟩⟩⟩⟩⟩⟩
def lw_privs : List (MethodName × Nat) := lw_privs_1 ++ (lw_privs_2 ++ (lw_privs_3 ++ (lw_privs_4 ++ (lw_privs_5 ++ (lw_privs_6)))))
def lw_tbl : List Cond := k2_sels lw_privs ++ tables_1
theorem lw_privs_ok : ∀ q ∈ lw_privs, lw_okq q := by
  show ∀ q ∈ lw_privs_1 ++ (lw_privs_2 ++ (lw_privs_3 ++ (lw_privs_4 ++ (lw_privs_5 ++ (lw_privs_6))))), lw_okq q
  exact List.forall_mem_append.mpr ⟨lw_r1, List.forall_mem_append.mpr ⟨lw_r2, List.forall_mem_append.mpr ⟨lw_r3, List.forall_mem_append.mpr ⟨lw_r4, List.forall_mem_append.mpr ⟨lw_r5, lw_r6⟩⟩⟩⟩⟩
end
section
def RX0 : String := "EnoughServers$House"
def TX0 : u_T := fun k => match k with
  | 0 => ("EnoughServers$House", "numbers", "[I", true)
  | 1 => ("EnoughServers$House", "services", "[LEnoughServers$Service;", true)
  | 2 => ("EnoughServers$House", "serviceCount", "I", false)
  | 3 => ("EnoughServers$House", "pool", "I", false)
  | _ => ("EnoughServers$House", "round", "I", false)
def tyX0 : Nat → FieldType := fun k => match k with
  | 0 => .array .int
  | 1 => .array (.object "EnoughServers$Service")
  | 2 => .int
  | 3 => .int
  | _ => .int
abbrev wsX00 : List Cond := u_ws RX0 TX0 5
theorem nmX0 : ∀ a, a < 5 → ∀ b, b < 5 → a ≠ b → (TX0 a).2.1 ≠ (TX0 b).2.1 := by decide +kernel
theorem tyX0_ok : ∀ k, k < 5 → parseFieldDescriptor (TX0 k).2.2.1 = some (tyX0 k) := by decide +kernel
abbrev cX0_init : ByteArray := prog_2_method_1_code
def yX0_init : MethodName := ⟨RX0, "<init>", "()V"⟩
abbrev cX0_begin : ByteArray := prog_2_method_2_code
def yX0_begin : MethodName := ⟨RX0, "begin", "()V"⟩
abbrev cX0_copyFrom : ByteArray := prog_2_method_3_code
def yX0_copyFrom : MethodName := ⟨RX0, "copyFrom", "(LEnoughServers$House;)V"⟩
abbrev cX0_standAlone : ByteArray := prog_2_method_4_code
def yX0_standAlone : MethodName := ⟨RX0, "standAlone", "(LEnoughServers$House;LEnoughServers$Service;)V"⟩
abbrev cX0_pastRounds : ByteArray := prog_2_method_5_code
def yX0_pastRounds : MethodName := ⟨RX0, "pastRounds", "()I"⟩
abbrev cX0_leasts : ByteArray := prog_2_method_6_code
def yX0_leasts : MethodName := ⟨RX0, "leasts", "()I"⟩
abbrev cX0_servers : ByteArray := prog_2_method_7_code
def yX0_servers : MethodName := ⟨RX0, "servers", "()I"⟩
abbrev cX0_spentByAll : ByteArray := prog_2_method_8_code
def yX0_spentByAll : MethodName := ⟨RX0, "spentByAll", "()I"⟩
abbrev cX0_lackOfAll : ByteArray := prog_2_method_9_code
def yX0_lackOfAll : MethodName := ⟨RX0, "lackOfAll", "()I"⟩
abbrev cX0_wantOf : ByteArray := prog_2_method_10_code
def yX0_wantOf : MethodName := ⟨RX0, "wantOf", "(LEnoughServers$Service;LEnoughServers$Measure;)I"⟩
abbrev cX0_wantBeside : ByteArray := prog_2_method_11_code
def yX0_wantBeside : MethodName := ⟨RX0, "wantBeside", "(LEnoughServers$Service;I)I"⟩
abbrev cX0_playRound : ByteArray := prog_2_method_12_code
def yX0_playRound : MethodName := ⟨RX0, "playRound", "()V"⟩
abbrev cX0_giveOut : ByteArray := prog_2_method_13_code
def yX0_giveOut : MethodName := ⟨RX0, "giveOut", "()V"⟩
abbrev cX0_firstInNeed : ByteArray := prog_2_method_14_code
def yX0_firstInNeed : MethodName := ⟨RX0, "firstInNeed", "()I"⟩
def RX1 : String := "EnoughServers$Measure"
def TX1 : u_T := fun k => match k with
  | 0 => ("EnoughServers$Measure", "kind", "I", false)
  | 1 => ("EnoughServers$Measure", "target", "I", false)
  | 2 => ("EnoughServers$Measure", "value", "I", false)
  | _ => ("EnoughServers$Measure", "past", "[I", true)
def tyX1 : Nat → FieldType := fun k => match k with
  | 0 => .int
  | 1 => .int
  | 2 => .int
  | _ => .array .int
abbrev wsX10 : List Cond := u_ws RX1 TX1 4
theorem nmX1 : ∀ a, a < 4 → ∀ b, b < 4 → a ≠ b → (TX1 a).2.1 ≠ (TX1 b).2.1 := by decide +kernel
theorem tyX1_ok : ∀ k, k < 4 → parseFieldDescriptor (TX1 k).2.2.1 = some (tyX1 k) := by decide +kernel
abbrev cX1_init : ByteArray := prog_3_method_1_code
def yX1_init : MethodName := ⟨RX1, "<init>", "()V"⟩
abbrev cX1_wantBy : ByteArray := prog_3_method_2_code
def yX1_wantBy : MethodName := ⟨RX1, "wantBy", "(IIII)I"⟩
abbrev cX1_foresee : ByteArray := prog_3_method_3_code
def yX1_foresee : MethodName := ⟨RX1, "foresee", "(III)I"⟩
abbrev cX1_leastValue : ByteArray := prog_3_method_4_code
def yX1_leastValue : MethodName := ⟨RX1, "leastValue", "(IIII)I"⟩
abbrev cX1_leastUpTo : ByteArray := prog_3_method_5_code
def yX1_leastUpTo : MethodName := ⟨RX1, "leastUpTo", "(IIIII)I"⟩
def RX2 : String := "EnoughServers$Service"
def TX2 : u_T := fun k => match k with
  | 0 => ("EnoughServers$Service", "numbers", "[I", true)
  | 1 => ("EnoughServers$Service", "measures", "[LEnoughServers$Measure;", true)
  | 2 => ("EnoughServers$Service", "measureCount", "I", false)
  | 3 => ("EnoughServers$Service", "count", "I", false)
  | 4 => ("EnoughServers$Service", "ready", "I", false)
  | 5 => ("EnoughServers$Service", "starting", "[I", true)
  | 6 => ("EnoughServers$Service", "wants", "[I", true)
  | 7 => ("EnoughServers$Service", "moves", "[I", true)
  | 8 => ("EnoughServers$Service", "lastMove", "I", false)
  | 9 => ("EnoughServers$Service", "spent", "I", false)
  | 10 => ("EnoughServers$Service", "lack", "I", false)
  | 11 => ("EnoughServers$Service", "flutters", "I", false)
  | 12 => ("EnoughServers$Service", "want", "I", false)
  | 13 => ("EnoughServers$Service", "steady", "I", false)
  | 14 => ("EnoughServers$Service", "bound", "I", false)
  | 15 => ("EnoughServers$Service", "due", "I", false)
  | _ => ("EnoughServers$Service", "place", "I", false)
def tyX2 : Nat → FieldType := fun k => match k with
  | 0 => .array .int
  | 1 => .array (.object "EnoughServers$Measure")
  | 2 => .int
  | 3 => .int
  | 4 => .int
  | 5 => .array .int
  | 6 => .array .int
  | 7 => .array .int
  | 8 => .int
  | 9 => .int
  | 10 => .int
  | 11 => .int
  | 12 => .int
  | 13 => .int
  | 14 => .int
  | 15 => .int
  | _ => .int
abbrev wsX20 : List Cond := u_ws RX2 TX2 17
theorem nmX2 : ∀ a, a < 17 → ∀ b, b < 17 → a ≠ b → (TX2 a).2.1 ≠ (TX2 b).2.1 := by decide +kernel
theorem tyX2_ok : ∀ k, k < 17 → parseFieldDescriptor (TX2 k).2.2.1 = some (tyX2 k) := by decide +kernel
abbrev cX2_init : ByteArray := prog_4_method_1_code
def yX2_init : MethodName := ⟨RX2, "<init>", "()V"⟩
abbrev cX2_begin : ByteArray := prog_4_method_2_code
def yX2_begin : MethodName := ⟨RX2, "begin", "()V"⟩
abbrev cX2_copyFrom : ByteArray := prog_4_method_3_code
def yX2_copyFrom : MethodName := ⟨RX2, "copyFrom", "(LEnoughServers$Service;)V"⟩
abbrev cX2_takeShape : ByteArray := prog_4_method_4_code
def yX2_takeShape : MethodName := ⟨RX2, "takeShape", "(LEnoughServers$Service;)V"⟩
abbrev cX2_tellValues : ByteArray := prog_4_method_5_code
def yX2_tellValues : MethodName := ⟨RX2, "tellValues", "(LEnoughServers$Service;I)V"⟩
abbrev cX2_readyIn : ByteArray := prog_4_method_6_code
def yX2_readyIn : MethodName := ⟨RX2, "readyIn", "(I)I"⟩
abbrev cX2_nextReadyRound : ByteArray := prog_4_method_7_code
def yX2_nextReadyRound : MethodName := ⟨RX2, "nextReadyRound", "(I)I"⟩
abbrev cX2_wake : ByteArray := prog_4_method_8_code
def yX2_wake : MethodName := ⟨RX2, "wake", "(I)V"⟩
abbrev cX2_plan : ByteArray := prog_4_method_9_code
def yX2_plan : MethodName := ⟨RX2, "plan", "(I)V"⟩
abbrev cX2_steadied : ByteArray := prog_4_method_10_code
def yX2_steadied : MethodName := ⟨RX2, "steadied", "(I)I"⟩
abbrev cX2_bounded : ByteArray := prog_4_method_11_code
def yX2_bounded : MethodName := ⟨RX2, "bounded", "(I)I"⟩
abbrev cX2_giveUpTooMany : ByteArray := prog_4_method_12_code
def yX2_giveUpTooMany : MethodName := ⟨RX2, "giveUpTooMany", "(I)V"⟩
abbrev cX2_goesBefore : ByteArray := prog_4_method_13_code
def yX2_goesBefore : MethodName := ⟨RX2, "goesBefore", "(LEnoughServers$Service;)Z"⟩
abbrev cX2_get : ByteArray := prog_4_method_14_code
def yX2_get : MethodName := ⟨RX2, "get", "(IIII)V"⟩
abbrev cX2_close : ByteArray := prog_4_method_15_code
def yX2_close : MethodName := ⟨RX2, "close", "(I)V"⟩
abbrev cX2_isHeldBy : ByteArray := prog_4_method_16_code
def yX2_isHeldBy : MethodName := ⟨RX2, "isHeldBy", "(I)Z"⟩
def RX3 : String := "EnoughServers$Text"
def TX3 : u_T := fun k => match k with
  | 0 => ("EnoughServers$Text", "bytes", "[I", true)
  | 1 => ("EnoughServers$Text", "size", "I", false)
  | 2 => ("EnoughServers$Text", "next", "I", false)
  | 3 => ("EnoughServers$Text", "place", "I", false)
  | 4 => ("EnoughServers$Text", "token", "I", false)
  | 5 => ("EnoughServers$Text", "number", "I", false)
  | _ => ("EnoughServers$Text", "faultKind", "I", false)
def tyX3 : Nat → FieldType := fun k => match k with
  | 0 => .array .int
  | 1 => .int
  | 2 => .int
  | 3 => .int
  | 4 => .int
  | 5 => .int
  | _ => .int
abbrev wsX30 : List Cond := u_ws RX3 TX3 7
theorem nmX3 : ∀ a, a < 7 → ∀ b, b < 7 → a ≠ b → (TX3 a).2.1 ≠ (TX3 b).2.1 := by decide +kernel
theorem tyX3_ok : ∀ k, k < 7 → parseFieldDescriptor (TX3 k).2.2.1 = some (tyX3 k) := by decide +kernel
abbrev cX3_init : ByteArray := prog_5_method_1_code
def yX3_init : MethodName := ⟨RX3, "<init>", "()V"⟩
abbrev cX3_takesIn : ByteArray := prog_5_method_2_code
def yX3_takesIn : MethodName := ⟨RX3, "takesIn", "(I)Z"⟩
abbrev cX3_readInto : ByteArray := prog_5_method_3_code
def yX3_readInto : MethodName := ⟨RX3, "readInto", "(LEnoughServers$House;)Z"⟩
abbrev cX3_readHouse : ByteArray := prog_5_method_4_code
def yX3_readHouse : MethodName := ⟨RX3, "readHouse", "(LEnoughServers$House;)Z"⟩
abbrev cX3_readServices : ByteArray := prog_5_method_5_code
def yX3_readServices : MethodName := ⟨RX3, "readServices", "(LEnoughServers$House;)Z"⟩
abbrev cX3_readNumbers : ByteArray := prog_5_method_6_code
def yX3_readNumbers : MethodName := ⟨RX3, "readNumbers", "(LEnoughServers$House;LEnoughServers$Service;)Z"⟩
abbrev cX3_readMeasures : ByteArray := prog_5_method_7_code
def yX3_readMeasures : MethodName := ⟨RX3, "readMeasures", "(LEnoughServers$Service;)Z"⟩
abbrev cX3_kindOf : ByteArray := prog_5_method_8_code
def yX3_kindOf : MethodName := ⟨RX3, "kindOf", "(I)I"⟩
abbrev cX3_passes : ByteArray := prog_5_method_9_code
def yX3_passes : MethodName := ⟨RX3, "passes", "(I)Z"⟩
abbrev cX3_isNumber : ByteArray := prog_5_method_10_code
def yX3_isNumber : MethodName := ⟨RX3, "isNumber", "(II)Z"⟩
abbrev cX3_fails : ByteArray := prog_5_method_11_code
def yX3_fails : MethodName := ⟨RX3, "fails", "(I)Z"⟩
abbrev cX3_step : ByteArray := prog_5_method_12_code
def yX3_step : MethodName := ⟨RX3, "step", "()V"⟩
abbrev cX3_isDigit : ByteArray := prog_5_method_13_code
def yX3_isDigit : MethodName := ⟨RX3, "isDigit", "(I)Z"⟩
def RX4 : String := "EnoughServers"
def TX4 : u_T := fun k => match k with
  | 0 => ("EnoughServers", "text", "LEnoughServers$Text;", true)
  | 1 => ("EnoughServers", "current", "LEnoughServers$House;", true)
  | 2 => ("EnoughServers", "tried", "LEnoughServers$House;", true)
  | 3 => ("EnoughServers", "kept", "[LEnoughServers$House;", true)
  | 4 => ("EnoughServers", "nextKept", "I", false)
  | 5 => ("EnoughServers", "undoable", "I", false)
  | _ => ("EnoughServers", "standing", "Z", false)
def tyX4 : Nat → FieldType := fun k => match k with
  | 0 => .object "EnoughServers$Text"
  | 1 => .object "EnoughServers$House"
  | 2 => .object "EnoughServers$House"
  | 3 => .array (.object "EnoughServers$House")
  | 4 => .int
  | 5 => .int
  | _ => .boolean
abbrev wsX40 : List Cond := u_ws RX4 TX4 7
theorem nmX4 : ∀ a, a < 7 → ∀ b, b < 7 → a ≠ b → (TX4 a).2.1 ≠ (TX4 b).2.1 := by decide +kernel
theorem tyX4_ok : ∀ k, k < 7 → parseFieldDescriptor (TX4 k).2.2.1 = some (tyX4 k) := by decide +kernel
abbrev cX4_init : ByteArray := prog_1_method_1_code
def yX4_init : MethodName := ⟨RX4, "<init>", "()V"⟩
abbrev cX4_write : ByteArray := prog_1_method_2_code
def yX4_write : MethodName := ⟨RX4, "write", "(I)I"⟩
abbrev cX4_house : ByteArray := prog_1_method_3_code
def yX4_house : MethodName := ⟨RX4, "house", "()I"⟩
abbrev cX4_fault : ByteArray := prog_1_method_4_code
def yX4_fault : MethodName := ⟨RX4, "fault", "()I"⟩
abbrev cX4_load : ByteArray := prog_1_method_5_code
def yX4_load : MethodName := ⟨RX4, "load", "(III)I"⟩
abbrev cX4_set : ByteArray := prog_1_method_6_code
def yX4_set : MethodName := ⟨RX4, "set", "(III)I"⟩
abbrev cX4_round : ByteArray := prog_1_method_7_code
def yX4_round : MethodName := ⟨RX4, "round", "()I"⟩
abbrev cX4_undo : ByteArray := prog_1_method_8_code
def yX4_undo : MethodName := ⟨RX4, "undo", "()I"⟩
abbrev cX4_service : ByteArray := prog_1_method_9_code
def yX4_service : MethodName := ⟨RX4, "service", "(II)I"⟩
abbrev cX4_measure : ByteArray := prog_1_method_10_code
def yX4_measure : MethodName := ⟨RX4, "measure", "(III)I"⟩
abbrev cX4_starting : ByteArray := prog_1_method_11_code
def yX4_starting : MethodName := ⟨RX4, "starting", "(II)I"⟩
abbrev cX4_count : ByteArray := prog_1_method_12_code
def yX4_count : MethodName := ⟨RX4, "count", "(I)I"⟩
abbrev cX4_would : ByteArray := prog_1_method_13_code
def yX4_would : MethodName := ⟨RX4, "would", "(II)I"⟩
abbrev cX4_why : ByteArray := prog_1_method_14_code
def yX4_why : MethodName := ⟨RX4, "why", "(II)I"⟩
abbrev cX4_forecast : ByteArray := prog_1_method_15_code
def yX4_forecast : MethodName := ⟨RX4, "forecast", "(III)I"⟩
abbrev cX4_ahead : ByteArray := prog_1_method_16_code
def yX4_ahead : MethodName := ⟨RX4, "ahead", "(II)I"⟩
abbrev cX4_until : ByteArray := prog_1_method_17_code
def yX4_until : MethodName := ⟨RX4, "until", "(II)I"⟩
abbrev cX4_needs : ByteArray := prog_1_method_18_code
def yX4_needs : MethodName := ⟨RX4, "needs", "(III)I"⟩
abbrev cX4_replay : ByteArray := prog_1_method_19_code
def yX4_replay : MethodName := ⟨RX4, "replay", "(IIII)I"⟩
abbrev cX4_best : ByteArray := prog_1_method_20_code
def yX4_best : MethodName := ⟨RX4, "best", "(I)I"⟩
abbrev cX4_hasService : ByteArray := prog_1_method_21_code
def yX4_hasService : MethodName := ⟨RX4, "hasService", "(I)Z"⟩
abbrev cX4_hasMeasure : ByteArray := prog_1_method_22_code
def yX4_hasMeasure : MethodName := ⟨RX4, "hasMeasure", "(II)Z"⟩
abbrev cX4_keepForUndo : ByteArray := prog_1_method_23_code
def yX4_keepForUndo : MethodName := ⟨RX4, "keepForUndo", "()V"⟩
abbrev cX4_afterOneRound : ByteArray := prog_1_method_24_code
def yX4_afterOneRound : MethodName := ⟨RX4, "afterOneRound", "(I)LEnoughServers$Service;"⟩
abbrev cX4_replayed : ByteArray := prog_1_method_25_code
def yX4_replayed : MethodName := ⟨RX4, "replayed", "(III)LEnoughServers$Service;"⟩
abbrev cX4_cut : ByteArray := prog_1_method_26_code
def yX4_cut : MethodName := ⟨RX4, "cut", "(II)I"⟩
abbrev cX4_cutUp : ByteArray := prog_1_method_27_code
def yX4_cutUp : MethodName := ⟨RX4, "cutUp", "(II)I"⟩
def RX5 : String := "EnoughServersModel"
def TX5 : u_T := fun k => match k with
  | 0 => ("EnoughServersModel", "row", "[I", true)
  | 1 => ("EnoughServersModel", "undos", "I", false)
  | 2 => ("EnoughServersModel", "want", "[I", true)
  | 3 => ("EnoughServersModel", "steady", "[I", true)
  | 4 => ("EnoughServersModel", "bound", "[I", true)
  | 5 => ("EnoughServersModel", "due", "[I", true)
  | 6 => ("EnoughServersModel", "count", "[I", true)
  | 7 => ("EnoughServersModel", "place", "[I", true)
  | 8 => ("EnoughServersModel", "got", "[I", true)
  | 9 => ("EnoughServersModel", "gave", "[I", true)
  | 10 => ("EnoughServersModel", "text", "[I", true)
  | 11 => ("EnoughServersModel", "size", "I", false)
  | 12 => ("EnoughServersModel", "latest", "I", false)
  | 13 => ("EnoughServersModel", "at", "I", false)
  | 14 => ("EnoughServersModel", "begin", "I", false)
  | 15 => ("EnoughServersModel", "digits", "I", false)
  | 16 => ("EnoughServersModel", "value", "I", false)
  | 17 => ("EnoughServersModel", "token", "I", false)
  | _ => ("EnoughServersModel", "bad", "I", false)
def tyX5 : Nat → FieldType := fun k => match k with
  | 0 => .array .int
  | 1 => .int
  | 2 => .array .int
  | 3 => .array .int
  | 4 => .array .int
  | 5 => .array .int
  | 6 => .array .int
  | 7 => .array .int
  | 8 => .array .int
  | 9 => .array .int
  | 10 => .array .int
  | 11 => .int
  | 12 => .int
  | 13 => .int
  | 14 => .int
  | 15 => .int
  | 16 => .int
  | 17 => .int
  | _ => .int
abbrev wsX50 : List Cond := u_ws RX5 TX5 19
theorem nmX5 : ∀ a, a < 19 → ∀ b, b < 19 → a ≠ b → (TX5 a).2.1 ≠ (TX5 b).2.1 := by decide +kernel
theorem tyX5_ok : ∀ k, k < 19 → parseFieldDescriptor (TX5 k).2.2.1 = some (tyX5 k) := by decide +kernel
abbrev cX5_init : ByteArray := prog_7_method_1_code
def yX5_init : MethodName := ⟨RX5, "<init>", "()V"⟩
abbrev cX5_in : ByteArray := prog_7_method_2_code
def yX5_in : MethodName := ⟨RX5, "in", "(JJJ)Z"⟩
abbrev cX5_copies : ByteArray := prog_7_method_3_code
def yX5_copies : MethodName := ⟨RX5, "copies", "(II)V"⟩
abbrev cX5_of : ByteArray := prog_7_method_4_code
def yX5_of : MethodName := ⟨RX5, "of", "(II)I"⟩
abbrev cX5_lays : ByteArray := prog_7_method_5_code
def yX5_lays : MethodName := ⟨RX5, "lays", "(III)V"⟩
abbrev cX5_at : ByteArray := prog_7_method_6_code
def yX5_at : MethodName := ⟨RX5, "at", "(III)I"⟩
abbrev cX5_atMeasure : ByteArray := prog_7_method_7_code
def yX5_atMeasure : MethodName := ⟨RX5, "atMeasure", "(IIII)I"⟩
abbrev cX5_isHouse : ByteArray := prog_7_method_8_code
def yX5_isHouse : MethodName := ⟨RX5, "isHouse", "()Z"⟩
abbrev cX5_isService : ByteArray := prog_7_method_9_code
def yX5_isService : MethodName := ⟨RX5, "isService", "(I)Z"⟩
abbrev cX5_isMeasure : ByteArray := prog_7_method_10_code
def yX5_isMeasure : MethodName := ⟨RX5, "isMeasure", "(II)Z"⟩
abbrev cX5_up : ByteArray := prog_7_method_11_code
def yX5_up : MethodName := ⟨RX5, "up", "(II)I"⟩
abbrev cX5_countOf : ByteArray := prog_7_method_12_code
def yX5_countOf : MethodName := ⟨RX5, "countOf", "(II)I"⟩
abbrev cX5_allCounts : ByteArray := prog_7_method_13_code
def yX5_allCounts : MethodName := ⟨RX5, "allCounts", "(I)I"⟩
abbrev cX5_pastOf : ByteArray := prog_7_method_14_code
def yX5_pastOf : MethodName := ⟨RX5, "pastOf", "(I)I"⟩
abbrev cX5_forecastOf : ByteArray := prog_7_method_15_code
def yX5_forecastOf : MethodName := ⟨RX5, "forecastOf", "(IIII)I"⟩
abbrev cX5_wantOf : ByteArray := prog_7_method_16_code
def yX5_wantOf : MethodName := ⟨RX5, "wantOf", "(IIII)I"⟩
abbrev cX5_wanted : ByteArray := prog_7_method_17_code
def yX5_wanted : MethodName := ⟨RX5, "wanted", "(II)I"⟩
abbrev cX5_starts : ByteArray := prog_7_method_18_code
def yX5_starts : MethodName := ⟨RX5, "starts", "(I)V"⟩
abbrev cX5_ofWants : ByteArray := prog_7_method_19_code
def yX5_ofWants : MethodName := ⟨RX5, "ofWants", "(IIIZ)I"⟩
abbrev cX5_sumOf : ByteArray := prog_7_method_20_code
def yX5_sumOf : MethodName := ⟨RX5, "sumOf", "(IIII)I"⟩
abbrev cX5_weighs : ByteArray := prog_7_method_21_code
def yX5_weighs : MethodName := ⟨RX5, "weighs", "(II)V"⟩
abbrev cX5_givesUp : ByteArray := prog_7_method_22_code
def yX5_givesUp : MethodName := ⟨RX5, "givesUp", "(II)V"⟩
abbrev cX5_isAhead : ByteArray := prog_7_method_23_code
def yX5_isAhead : MethodName := ⟨RX5, "isAhead", "(III)Z"⟩
abbrev cX5_gets : ByteArray := prog_7_method_24_code
def yX5_gets : MethodName := ⟨RX5, "gets", "(I)V"⟩
abbrev cX5_getsOne : ByteArray := prog_7_method_25_code
def yX5_getsOne : MethodName := ⟨RX5, "getsOne", "(II)V"⟩
abbrev cX5_moves : ByteArray := prog_7_method_26_code
def yX5_moves : MethodName := ⟨RX5, "moves", "(IIII)V"⟩
abbrev cX5_sums : ByteArray := prog_7_method_27_code
def yX5_sums : MethodName := ⟨RX5, "sums", "(II)V"⟩
abbrev cX5_does : ByteArray := prog_7_method_28_code
def yX5_does : MethodName := ⟨RX5, "does", "(I)V"⟩
abbrev cX5_write : ByteArray := prog_7_method_29_code
def yX5_write : MethodName := ⟨RX5, "write", "(I)I"⟩
abbrev cX5_reads : ByteArray := prog_7_method_30_code
def yX5_reads : MethodName := ⟨RX5, "reads", "()V"⟩
abbrev cX5_wrong : ByteArray := prog_7_method_31_code
def yX5_wrong : MethodName := ⟨RX5, "wrong", "(I)V"⟩
abbrev cX5_isSign : ByteArray := prog_7_method_32_code
def yX5_isSign : MethodName := ⟨RX5, "isSign", "(I)Z"⟩
abbrev cX5_sign : ByteArray := prog_7_method_33_code
def yX5_sign : MethodName := ⟨RX5, "sign", "(I)V"⟩
abbrev cX5_number : ByteArray := prog_7_method_34_code
def yX5_number : MethodName := ⟨RX5, "number", "(III)V"⟩
abbrev cX5_goesOn : ByteArray := prog_7_method_35_code
def yX5_goesOn : MethodName := ⟨RX5, "goesOn", "(I)V"⟩
abbrev cX5_leasts : ByteArray := prog_7_method_36_code
def yX5_leasts : MethodName := ⟨RX5, "leasts", "(I)I"⟩
abbrev cX5_lowOf : ByteArray := prog_7_method_37_code
def yX5_lowOf : MethodName := ⟨RX5, "lowOf", "(I)I"⟩
abbrev cX5_highOf : ByteArray := prog_7_method_38_code
def yX5_highOf : MethodName := ⟨RX5, "highOf", "(I)I"⟩
abbrev cX5_readsService : ByteArray := prog_7_method_39_code
def yX5_readsService : MethodName := ⟨RX5, "readsService", "()V"⟩
abbrev cX5_kindOf : ByteArray := prog_7_method_40_code
def yX5_kindOf : MethodName := ⟨RX5, "kindOf", "()I"⟩
abbrev cX5_readsMeasure : ByteArray := prog_7_method_41_code
def yX5_readsMeasure : MethodName := ⟨RX5, "readsMeasure", "(I)V"⟩
abbrev cX5_readsHead : ByteArray := prog_7_method_42_code
def yX5_readsHead : MethodName := ⟨RX5, "readsHead", "()V"⟩
abbrev cX5_house : ByteArray := prog_7_method_43_code
def yX5_house : MethodName := ⟨RX5, "house", "()I"⟩
abbrev cX5_fault : ByteArray := prog_7_method_44_code
def yX5_fault : MethodName := ⟨RX5, "fault", "()I"⟩
abbrev cX5_notes : ByteArray := prog_7_method_45_code
def yX5_notes : MethodName := ⟨RX5, "notes", "()V"⟩
abbrev cX5_load : ByteArray := prog_7_method_46_code
def yX5_load : MethodName := ⟨RX5, "load", "(III)I"⟩
abbrev cX5_set : ByteArray := prog_7_method_47_code
def yX5_set : MethodName := ⟨RX5, "set", "(III)I"⟩
abbrev cX5_round : ByteArray := prog_7_method_48_code
def yX5_round : MethodName := ⟨RX5, "round", "()I"⟩
abbrev cX5_undo : ByteArray := prog_7_method_49_code
def yX5_undo : MethodName := ⟨RX5, "undo", "()I"⟩
abbrev cX5_nextStarting : ByteArray := prog_7_method_50_code
def yX5_nextStarting : MethodName := ⟨RX5, "nextStarting", "(I)I"⟩
abbrev cX5_service : ByteArray := prog_7_method_51_code
def yX5_service : MethodName := ⟨RX5, "service", "(II)I"⟩
abbrev cX5_tries : ByteArray := prog_7_method_52_code
def yX5_tries : MethodName := ⟨RX5, "tries", "()V"⟩
abbrev cX5_measure : ByteArray := prog_7_method_53_code
def yX5_measure : MethodName := ⟨RX5, "measure", "(III)I"⟩
abbrev cX5_starting : ByteArray := prog_7_method_54_code
def yX5_starting : MethodName := ⟨RX5, "starting", "(II)I"⟩
abbrev cX5_count : ByteArray := prog_7_method_55_code
def yX5_count : MethodName := ⟨RX5, "count", "(I)I"⟩
abbrev cX5_triesRound : ByteArray := prog_7_method_56_code
def yX5_triesRound : MethodName := ⟨RX5, "triesRound", "()V"⟩
abbrev cX5_would : ByteArray := prog_7_method_57_code
def yX5_would : MethodName := ⟨RX5, "would", "(II)I"⟩
abbrev cX5_why : ByteArray := prog_7_method_58_code
def yX5_why : MethodName := ⟨RX5, "why", "(II)I"⟩
abbrev cX5_forecast : ByteArray := prog_7_method_59_code
def yX5_forecast : MethodName := ⟨RX5, "forecast", "(III)I"⟩
abbrev cX5_allOf : ByteArray := prog_7_method_60_code
def yX5_allOf : MethodName := ⟨RX5, "allOf", "(II)I"⟩
abbrev cX5_ahead : ByteArray := prog_7_method_61_code
def yX5_ahead : MethodName := ⟨RX5, "ahead", "(II)I"⟩
abbrev cX5_until : ByteArray := prog_7_method_62_code
def yX5_until : MethodName := ⟨RX5, "until", "(II)I"⟩
abbrev cX5_needs : ByteArray := prog_7_method_63_code
def yX5_needs : MethodName := ⟨RX5, "needs", "(III)I"⟩
abbrev cX5_replays : ByteArray := prog_7_method_64_code
def yX5_replays : MethodName := ⟨RX5, "replays", "(III)V"⟩
abbrev cX5_replay : ByteArray := prog_7_method_65_code
def yX5_replay : MethodName := ⟨RX5, "replay", "(IIII)I"⟩
abbrev cX5_best : ByteArray := prog_7_method_66_code
def yX5_best : MethodName := ⟨RX5, "best", "(I)I"⟩
def RJ9 : String := "java/lang/Math"
def TJ9 : u_T := fun k => match k with
  | _ => ("", "", "", false)
def tyJ9 : Nat → FieldType := fun k => match k with
  | _ => .int
abbrev wsJ90 : List Cond := u_ws RJ9 TJ9 0
theorem nmJ9 : ∀ a, a < 0 → ∀ b, b < 0 → a ≠ b → (TJ9 a).2.1 ≠ (TJ9 b).2.1 := by decide +kernel
theorem tyJ9_ok : ∀ k, k < 0 → parseFieldDescriptor (TJ9 k).2.2.1 = some (tyJ9 k) := by decide +kernel
abbrev cJ9_abs_0f7a4 : ByteArray := prog_8_method_59_code
def yJ9_abs_0f7a4 : MethodName := ⟨RJ9, "abs", "(I)I"⟩
abbrev cJ9_max_7cf53 : ByteArray := prog_8_method_65_code
def yJ9_max_7cf53 : MethodName := ⟨RJ9, "max", "(II)I"⟩
abbrev cJ9_min_7cf53 : ByteArray := prog_8_method_69_code
def yJ9_min_7cf53 : MethodName := ⟨RJ9, "min", "(II)I"⟩
def RJ10 : String := "java/lang/System"
def TJ10 : u_T := fun k => match k with
  | _ => ("", "", "", false)
def tyJ10 : Nat → FieldType := fun k => match k with
  | _ => .int
abbrev wsJ100 : List Cond := u_ws RJ10 TJ10 0
theorem nmJ10 : ∀ a, a < 0 → ∀ b, b < 0 → a ≠ b → (TJ10 a).2.1 ≠ (TJ10 b).2.1 := by decide +kernel
theorem tyJ10_ok : ∀ k, k < 0 → parseFieldDescriptor (TJ10 k).2.2.1 = some (tyJ10 k) := by decide +kernel
def RJ7 : String := "java/util/Arrays"
def TJ7 : u_T := fun k => match k with
  | _ => ("", "", "", false)
def tyJ7 : Nat → FieldType := fun k => match k with
  | _ => .int
abbrev wsJ70 : List Cond := u_ws RJ7 TJ7 0
theorem nmJ7 : ∀ a, a < 0 → ∀ b, b < 0 → a ≠ b → (TJ7 a).2.1 ≠ (TJ7 b).2.1 := by decide +kernel
theorem tyJ7_ok : ∀ k, k < 0 → parseFieldDescriptor (TJ7 k).2.2.1 = some (tyJ7 k) := by decide +kernel
abbrev cJ7_fill_53178 : ByteArray := prog_10_method_103_code
def yJ7_fill_53178 : MethodName := ⟨RJ7, "fill", "([II)V"⟩
def RL : String := "EnoughServersLaw"
abbrev cL_law : ByteArray := code
def yL_law : MethodName := ⟨RL, "law", "([I)Z"⟩
abbrev vwCl : List vw_C := [(RX0, TX0, 5), (RX1, TX1, 4), (RX2, TX2, 17), (RX3, TX3, 7), (RX4, TX4, 7), (RX5, TX5, 19)]
end
section
theorem dX0_init_0 : decode cX0_init 0 = .ok (.aload_n 0, 1) := by decide +kernel
theorem dX0_init_1 : decode cX0_init 1 = .ok (.invokespecial 3, 3) := by decide +kernel
theorem dX0_init_4 : decode cX0_init 4 = .ok (.aload_n 0, 1) := by decide +kernel
theorem dX0_init_5 : decode cX0_init 5 = .ok (.iconst 5, 1) := by decide +kernel
theorem dX0_init_6 : decode cX0_init 6 = .ok (.newarray .int, 2) := by decide +kernel
theorem dX0_init_8 : decode cX0_init 8 = .ok (.putfield 9, 3) := by decide +kernel
theorem dX0_init_11 : decode cX0_init 11 = .ok (.aload_n 0, 1) := by decide +kernel
theorem dX0_init_12 : decode cX0_init 12 = .ok (.iconst 4, 1) := by decide +kernel
theorem dX0_init_13 : decode cX0_init 13 = .ok (.anewarray 15, 3) := by decide +kernel
theorem dX0_init_16 : decode cX0_init 16 = .ok (.putfield 17, 3) := by decide +kernel
theorem dX0_init_19 : decode cX0_init 19 = .ok (.aload_n 0, 1) := by decide +kernel
theorem dX0_init_20 : decode cX0_init 20 = .ok (.iconst 0, 1) := by decide +kernel
theorem dX0_init_21 : decode cX0_init 21 = .ok (.putfield 21, 3) := by decide +kernel
theorem dX0_init_24 : decode cX0_init 24 = .ok (.aload_n 0, 1) := by decide +kernel
theorem dX0_init_25 : decode cX0_init 25 = .ok (.iconst 0, 1) := by decide +kernel
theorem dX0_init_26 : decode cX0_init 26 = .ok (.putfield 25, 3) := by decide +kernel
theorem dX0_init_29 : decode cX0_init 29 = .ok (.aload_n 0, 1) := by decide +kernel
theorem dX0_init_30 : decode cX0_init 30 = .ok (.iconst 0, 1) := by decide +kernel
theorem dX0_init_31 : decode cX0_init 31 = .ok (.putfield 28, 3) := by decide +kernel
theorem dX0_init_34 : decode cX0_init 34 = .ok (.iconst 0, 1) := by decide +kernel
theorem dX0_init_35 : decode cX0_init 35 = .ok (.istore_n 1, 1) := by decide +kernel
theorem dX0_init_36 : decode cX0_init 36 = .ok (.iload_n 1, 1) := by decide +kernel
theorem dX0_init_37 : decode cX0_init 37 = .ok (.iconst 4, 1) := by decide +kernel
theorem dX0_init_38 : decode cX0_init 38 = .ok (.if_icmp .ge 22, 3) := by decide +kernel
theorem dX0_init_41 : decode cX0_init 41 = .ok (.aload_n 0, 1) := by decide +kernel
theorem dX0_init_42 : decode cX0_init 42 = .ok (.getfield 17, 3) := by decide +kernel
theorem dX0_init_45 : decode cX0_init 45 = .ok (.iload_n 1, 1) := by decide +kernel
theorem dX0_init_46 : decode cX0_init 46 = .ok (.new 15, 3) := by decide +kernel
theorem dX0_init_49 : decode cX0_init 49 = .ok (.dup, 1) := by decide +kernel
theorem dX0_init_50 : decode cX0_init 50 = .ok (.invokespecial 31, 3) := by decide +kernel
theorem dX0_init_53 : decode cX0_init 53 = .ok (.aastore, 1) := by decide +kernel
theorem dX0_init_54 : decode cX0_init 54 = .ok (.iinc 1 1, 3) := by decide +kernel
theorem dX0_init_57 : decode cX0_init 57 = .ok (.goto (-21), 3) := by decide +kernel
theorem dX0_init_60 : decode cX0_init 60 = .ok (.return_, 1) := by decide +kernel
theorem dX0_begin_0 : decode cX0_begin 0 = .ok (.aload_n 0, 1) := by decide +kernel
theorem dX0_begin_1 : decode cX0_begin 1 = .ok (.iconst 0, 1) := by decide +kernel
theorem dX0_begin_2 : decode cX0_begin 2 = .ok (.putfield 28, 3) := by decide +kernel
theorem dX0_begin_5 : decode cX0_begin 5 = .ok (.aload_n 0, 1) := by decide +kernel
theorem dX0_begin_6 : decode cX0_begin 6 = .ok (.aload_n 0, 1) := by decide +kernel
theorem dX0_begin_7 : decode cX0_begin 7 = .ok (.getfield 9, 3) := by decide +kernel
theorem dX0_begin_10 : decode cX0_begin 10 = .ok (.iconst 2, 1) := by decide +kernel
theorem dX0_begin_11 : decode cX0_begin 11 = .ok (.iaload, 1) := by decide +kernel
theorem dX0_begin_12 : decode cX0_begin 12 = .ok (.putfield 25, 3) := by decide +kernel
theorem dX0_begin_15 : decode cX0_begin 15 = .ok (.iconst 0, 1) := by decide +kernel
theorem dX0_begin_16 : decode cX0_begin 16 = .ok (.istore_n 1, 1) := by decide +kernel
theorem dX0_begin_17 : decode cX0_begin 17 = .ok (.iload_n 1, 1) := by decide +kernel
theorem dX0_begin_18 : decode cX0_begin 18 = .ok (.aload_n 0, 1) := by decide +kernel
theorem dX0_begin_19 : decode cX0_begin 19 = .ok (.getfield 21, 3) := by decide +kernel
theorem dX0_begin_22 : decode cX0_begin 22 = .ok (.if_icmp .ge 18, 3) := by decide +kernel
theorem dX0_begin_25 : decode cX0_begin 25 = .ok (.aload_n 0, 1) := by decide +kernel
theorem dX0_begin_26 : decode cX0_begin 26 = .ok (.getfield 17, 3) := by decide +kernel
theorem dX0_begin_29 : decode cX0_begin 29 = .ok (.iload_n 1, 1) := by decide +kernel
theorem dX0_begin_30 : decode cX0_begin 30 = .ok (.aaload, 1) := by decide +kernel
theorem dX0_begin_31 : decode cX0_begin 31 = .ok (.invokevirtual 32, 3) := by decide +kernel
theorem dX0_begin_34 : decode cX0_begin 34 = .ok (.iinc 1 1, 3) := by decide +kernel
theorem dX0_begin_37 : decode cX0_begin 37 = .ok (.goto (-20), 3) := by decide +kernel
theorem dX0_begin_40 : decode cX0_begin 40 = .ok (.return_, 1) := by decide +kernel
theorem dX0_copyFrom_0 : decode cX0_copyFrom 0 = .ok (.aload_n 1, 1) := by decide +kernel
theorem dX0_copyFrom_1 : decode cX0_copyFrom 1 = .ok (.getfield 9, 3) := by decide +kernel
theorem dX0_copyFrom_4 : decode cX0_copyFrom 4 = .ok (.iconst 0, 1) := by decide +kernel
theorem dX0_copyFrom_5 : decode cX0_copyFrom 5 = .ok (.aload_n 0, 1) := by decide +kernel
theorem dX0_copyFrom_6 : decode cX0_copyFrom 6 = .ok (.getfield 9, 3) := by decide +kernel
theorem dX0_copyFrom_9 : decode cX0_copyFrom 9 = .ok (.iconst 0, 1) := by decide +kernel
theorem dX0_copyFrom_10 : decode cX0_copyFrom 10 = .ok (.iconst 5, 1) := by decide +kernel
theorem dX0_copyFrom_11 : decode cX0_copyFrom 11 = .ok (.invokestatic 35, 3) := by decide +kernel
theorem dX0_copyFrom_14 : decode cX0_copyFrom 14 = .ok (.aload_n 0, 1) := by decide +kernel
theorem dX0_copyFrom_15 : decode cX0_copyFrom 15 = .ok (.aload_n 1, 1) := by decide +kernel
theorem dX0_copyFrom_16 : decode cX0_copyFrom 16 = .ok (.getfield 21, 3) := by decide +kernel
theorem dX0_copyFrom_19 : decode cX0_copyFrom 19 = .ok (.putfield 21, 3) := by decide +kernel
theorem dX0_copyFrom_22 : decode cX0_copyFrom 22 = .ok (.aload_n 0, 1) := by decide +kernel
theorem dX0_copyFrom_23 : decode cX0_copyFrom 23 = .ok (.aload_n 1, 1) := by decide +kernel
theorem dX0_copyFrom_24 : decode cX0_copyFrom 24 = .ok (.getfield 25, 3) := by decide +kernel
theorem dX0_copyFrom_27 : decode cX0_copyFrom 27 = .ok (.putfield 25, 3) := by decide +kernel
theorem dX0_copyFrom_30 : decode cX0_copyFrom 30 = .ok (.aload_n 0, 1) := by decide +kernel
theorem dX0_copyFrom_31 : decode cX0_copyFrom 31 = .ok (.aload_n 1, 1) := by decide +kernel
theorem dX0_copyFrom_32 : decode cX0_copyFrom 32 = .ok (.getfield 28, 3) := by decide +kernel
theorem dX0_copyFrom_35 : decode cX0_copyFrom 35 = .ok (.putfield 28, 3) := by decide +kernel
theorem dX0_copyFrom_38 : decode cX0_copyFrom 38 = .ok (.iconst 0, 1) := by decide +kernel
theorem dX0_copyFrom_39 : decode cX0_copyFrom 39 = .ok (.istore_n 2, 1) := by decide +kernel
theorem dX0_copyFrom_40 : decode cX0_copyFrom 40 = .ok (.iload_n 2, 1) := by decide +kernel
theorem dX0_copyFrom_41 : decode cX0_copyFrom 41 = .ok (.aload_n 0, 1) := by decide +kernel
theorem dX0_copyFrom_42 : decode cX0_copyFrom 42 = .ok (.getfield 21, 3) := by decide +kernel
theorem dX0_copyFrom_45 : decode cX0_copyFrom 45 = .ok (.if_icmp .ge 24, 3) := by decide +kernel
theorem dX0_copyFrom_48 : decode cX0_copyFrom 48 = .ok (.aload_n 0, 1) := by decide +kernel
theorem dX0_copyFrom_49 : decode cX0_copyFrom 49 = .ok (.getfield 17, 3) := by decide +kernel
theorem dX0_copyFrom_52 : decode cX0_copyFrom 52 = .ok (.iload_n 2, 1) := by decide +kernel
theorem dX0_copyFrom_53 : decode cX0_copyFrom 53 = .ok (.aaload, 1) := by decide +kernel
theorem dX0_copyFrom_54 : decode cX0_copyFrom 54 = .ok (.aload_n 1, 1) := by decide +kernel
theorem dX0_copyFrom_55 : decode cX0_copyFrom 55 = .ok (.getfield 17, 3) := by decide +kernel
theorem dX0_copyFrom_58 : decode cX0_copyFrom 58 = .ok (.iload_n 2, 1) := by decide +kernel
theorem dX0_copyFrom_59 : decode cX0_copyFrom 59 = .ok (.aaload, 1) := by decide +kernel
theorem dX0_copyFrom_60 : decode cX0_copyFrom 60 = .ok (.invokevirtual 41, 3) := by decide +kernel
theorem dX0_copyFrom_63 : decode cX0_copyFrom 63 = .ok (.iinc 2 1, 3) := by decide +kernel
theorem dX0_copyFrom_66 : decode cX0_copyFrom 66 = .ok (.goto (-26), 3) := by decide +kernel
theorem dX0_copyFrom_69 : decode cX0_copyFrom 69 = .ok (.return_, 1) := by decide +kernel
theorem dX0_standAlone_0 : decode cX0_standAlone 0 = .ok (.aload_n 1, 1) := by decide +kernel
theorem dX0_standAlone_1 : decode cX0_standAlone 1 = .ok (.getfield 9, 3) := by decide +kernel
theorem dX0_standAlone_4 : decode cX0_standAlone 4 = .ok (.iconst 0, 1) := by decide +kernel
theorem dX0_standAlone_5 : decode cX0_standAlone 5 = .ok (.aload_n 0, 1) := by decide +kernel
theorem dX0_standAlone_6 : decode cX0_standAlone 6 = .ok (.getfield 9, 3) := by decide +kernel
theorem dX0_standAlone_9 : decode cX0_standAlone 9 = .ok (.iconst 0, 1) := by decide +kernel
theorem dX0_standAlone_10 : decode cX0_standAlone 10 = .ok (.iconst 5, 1) := by decide +kernel
theorem dX0_standAlone_11 : decode cX0_standAlone 11 = .ok (.invokestatic 35, 3) := by decide +kernel
theorem dX0_standAlone_14 : decode cX0_standAlone 14 = .ok (.aload_n 0, 1) := by decide +kernel
theorem dX0_standAlone_15 : decode cX0_standAlone 15 = .ok (.getfield 9, 3) := by decide +kernel
theorem dX0_standAlone_18 : decode cX0_standAlone 18 = .ok (.iconst 0, 1) := by decide +kernel
theorem dX0_standAlone_19 : decode cX0_standAlone 19 = .ok (.bipush 60, 2) := by decide +kernel
theorem dX0_standAlone_21 : decode cX0_standAlone 21 = .ok (.iastore, 1) := by decide +kernel
theorem dX0_standAlone_22 : decode cX0_standAlone 22 = .ok (.aload_n 0, 1) := by decide +kernel
theorem dX0_standAlone_23 : decode cX0_standAlone 23 = .ok (.getfield 9, 3) := by decide +kernel
theorem dX0_standAlone_26 : decode cX0_standAlone 26 = .ok (.iconst 2, 1) := by decide +kernel
theorem dX0_standAlone_27 : decode cX0_standAlone 27 = .ok (.iconst 0, 1) := by decide +kernel
theorem dX0_standAlone_28 : decode cX0_standAlone 28 = .ok (.iastore, 1) := by decide +kernel
theorem dX0_standAlone_29 : decode cX0_standAlone 29 = .ok (.aload_n 0, 1) := by decide +kernel
theorem dX0_standAlone_30 : decode cX0_standAlone 30 = .ok (.iconst 1, 1) := by decide +kernel
theorem dX0_standAlone_31 : decode cX0_standAlone 31 = .ok (.putfield 21, 3) := by decide +kernel
theorem dX0_standAlone_34 : decode cX0_standAlone 34 = .ok (.aload_n 0, 1) := by decide +kernel
theorem dX0_standAlone_35 : decode cX0_standAlone 35 = .ok (.getfield 17, 3) := by decide +kernel
theorem dX0_standAlone_38 : decode cX0_standAlone 38 = .ok (.iconst 0, 1) := by decide +kernel
theorem dX0_standAlone_39 : decode cX0_standAlone 39 = .ok (.aaload, 1) := by decide +kernel
theorem dX0_standAlone_40 : decode cX0_standAlone 40 = .ok (.aload_n 2, 1) := by decide +kernel
theorem dX0_standAlone_41 : decode cX0_standAlone 41 = .ok (.invokevirtual 45, 3) := by decide +kernel
theorem dX0_standAlone_44 : decode cX0_standAlone 44 = .ok (.aload_n 0, 1) := by decide +kernel
theorem dX0_standAlone_45 : decode cX0_standAlone 45 = .ok (.invokevirtual 48, 3) := by decide +kernel
theorem dX0_standAlone_48 : decode cX0_standAlone 48 = .ok (.return_, 1) := by decide +kernel
theorem dX0_pastRounds_0 : decode cX0_pastRounds 0 = .ok (.aload_n 0, 1) := by decide +kernel
theorem dX0_pastRounds_1 : decode cX0_pastRounds 1 = .ok (.getfield 28, 3) := by decide +kernel
theorem dX0_pastRounds_4 : decode cX0_pastRounds 4 = .ok (.bipush 18, 2) := by decide +kernel
theorem dX0_pastRounds_6 : decode cX0_pastRounds 6 = .ok (.invokestatic 49, 3) := by decide +kernel
theorem dX0_pastRounds_9 : decode cX0_pastRounds 9 = .ok (.ireturn, 1) := by decide +kernel
theorem dX0_leasts_0 : decode cX0_leasts 0 = .ok (.iconst 0, 1) := by decide +kernel
theorem dX0_leasts_1 : decode cX0_leasts 1 = .ok (.istore_n 1, 1) := by decide +kernel
theorem dX0_leasts_2 : decode cX0_leasts 2 = .ok (.iconst 0, 1) := by decide +kernel
theorem dX0_leasts_3 : decode cX0_leasts 3 = .ok (.istore_n 2, 1) := by decide +kernel
theorem dX0_leasts_4 : decode cX0_leasts 4 = .ok (.iload_n 2, 1) := by decide +kernel
theorem dX0_leasts_5 : decode cX0_leasts 5 = .ok (.aload_n 0, 1) := by decide +kernel
theorem dX0_leasts_6 : decode cX0_leasts 6 = .ok (.getfield 21, 3) := by decide +kernel
theorem dX0_leasts_9 : decode cX0_leasts 9 = .ok (.if_icmp .ge 23, 3) := by decide +kernel
theorem dX0_leasts_12 : decode cX0_leasts 12 = .ok (.iload_n 1, 1) := by decide +kernel
theorem dX0_leasts_13 : decode cX0_leasts 13 = .ok (.aload_n 0, 1) := by decide +kernel
theorem dX0_leasts_14 : decode cX0_leasts 14 = .ok (.getfield 17, 3) := by decide +kernel
theorem dX0_leasts_17 : decode cX0_leasts 17 = .ok (.iload_n 2, 1) := by decide +kernel
theorem dX0_leasts_18 : decode cX0_leasts 18 = .ok (.aaload, 1) := by decide +kernel
theorem dX0_leasts_19 : decode cX0_leasts 19 = .ok (.getfield 55, 3) := by decide +kernel
theorem dX0_leasts_22 : decode cX0_leasts 22 = .ok (.iconst 0, 1) := by decide +kernel
theorem dX0_leasts_23 : decode cX0_leasts 23 = .ok (.iaload, 1) := by decide +kernel
theorem dX0_leasts_24 : decode cX0_leasts 24 = .ok (.iadd, 1) := by decide +kernel
theorem dX0_leasts_25 : decode cX0_leasts 25 = .ok (.istore_n 1, 1) := by decide +kernel
theorem dX0_leasts_26 : decode cX0_leasts 26 = .ok (.iinc 2 1, 3) := by decide +kernel
theorem dX0_leasts_29 : decode cX0_leasts 29 = .ok (.goto (-25), 3) := by decide +kernel
theorem dX0_leasts_32 : decode cX0_leasts 32 = .ok (.iload_n 1, 1) := by decide +kernel
theorem dX0_leasts_33 : decode cX0_leasts 33 = .ok (.ireturn, 1) := by decide +kernel
theorem dX0_servers_0 : decode cX0_servers 0 = .ok (.iconst 0, 1) := by decide +kernel
theorem dX0_servers_1 : decode cX0_servers 1 = .ok (.istore_n 1, 1) := by decide +kernel
theorem dX0_servers_2 : decode cX0_servers 2 = .ok (.iconst 0, 1) := by decide +kernel
theorem dX0_servers_3 : decode cX0_servers 3 = .ok (.istore_n 2, 1) := by decide +kernel
theorem dX0_servers_4 : decode cX0_servers 4 = .ok (.iload_n 2, 1) := by decide +kernel
theorem dX0_servers_5 : decode cX0_servers 5 = .ok (.aload_n 0, 1) := by decide +kernel
theorem dX0_servers_6 : decode cX0_servers 6 = .ok (.getfield 21, 3) := by decide +kernel
theorem dX0_servers_9 : decode cX0_servers 9 = .ok (.if_icmp .ge 21, 3) := by decide +kernel
theorem dX0_servers_12 : decode cX0_servers 12 = .ok (.iload_n 1, 1) := by decide +kernel
theorem dX0_servers_13 : decode cX0_servers 13 = .ok (.aload_n 0, 1) := by decide +kernel
theorem dX0_servers_14 : decode cX0_servers 14 = .ok (.getfield 17, 3) := by decide +kernel
theorem dX0_servers_17 : decode cX0_servers 17 = .ok (.iload_n 2, 1) := by decide +kernel
theorem dX0_servers_18 : decode cX0_servers 18 = .ok (.aaload, 1) := by decide +kernel
theorem dX0_servers_19 : decode cX0_servers 19 = .ok (.getfield 56, 3) := by decide +kernel
theorem dX0_servers_22 : decode cX0_servers 22 = .ok (.iadd, 1) := by decide +kernel
theorem dX0_servers_23 : decode cX0_servers 23 = .ok (.istore_n 1, 1) := by decide +kernel
theorem dX0_servers_24 : decode cX0_servers 24 = .ok (.iinc 2 1, 3) := by decide +kernel
theorem dX0_servers_27 : decode cX0_servers 27 = .ok (.goto (-23), 3) := by decide +kernel
theorem dX0_servers_30 : decode cX0_servers 30 = .ok (.iload_n 1, 1) := by decide +kernel
theorem dX0_servers_31 : decode cX0_servers 31 = .ok (.ireturn, 1) := by decide +kernel
theorem dX0_spentByAll_0 : decode cX0_spentByAll 0 = .ok (.iconst 0, 1) := by decide +kernel
theorem dX0_spentByAll_1 : decode cX0_spentByAll 1 = .ok (.istore_n 1, 1) := by decide +kernel
theorem dX0_spentByAll_2 : decode cX0_spentByAll 2 = .ok (.iconst 0, 1) := by decide +kernel
theorem dX0_spentByAll_3 : decode cX0_spentByAll 3 = .ok (.istore_n 2, 1) := by decide +kernel
theorem dX0_spentByAll_4 : decode cX0_spentByAll 4 = .ok (.iload_n 2, 1) := by decide +kernel
theorem dX0_spentByAll_5 : decode cX0_spentByAll 5 = .ok (.aload_n 0, 1) := by decide +kernel
theorem dX0_spentByAll_6 : decode cX0_spentByAll 6 = .ok (.getfield 21, 3) := by decide +kernel
theorem dX0_spentByAll_9 : decode cX0_spentByAll 9 = .ok (.if_icmp .ge 21, 3) := by decide +kernel
theorem dX0_spentByAll_12 : decode cX0_spentByAll 12 = .ok (.iload_n 1, 1) := by decide +kernel
theorem dX0_spentByAll_13 : decode cX0_spentByAll 13 = .ok (.aload_n 0, 1) := by decide +kernel
theorem dX0_spentByAll_14 : decode cX0_spentByAll 14 = .ok (.getfield 17, 3) := by decide +kernel
theorem dX0_spentByAll_17 : decode cX0_spentByAll 17 = .ok (.iload_n 2, 1) := by decide +kernel
theorem dX0_spentByAll_18 : decode cX0_spentByAll 18 = .ok (.aaload, 1) := by decide +kernel
theorem dX0_spentByAll_19 : decode cX0_spentByAll 19 = .ok (.getfield 59, 3) := by decide +kernel
theorem dX0_spentByAll_22 : decode cX0_spentByAll 22 = .ok (.iadd, 1) := by decide +kernel
theorem dX0_spentByAll_23 : decode cX0_spentByAll 23 = .ok (.istore_n 1, 1) := by decide +kernel
theorem dX0_spentByAll_24 : decode cX0_spentByAll 24 = .ok (.iinc 2 1, 3) := by decide +kernel
theorem dX0_spentByAll_27 : decode cX0_spentByAll 27 = .ok (.goto (-23), 3) := by decide +kernel
theorem dX0_spentByAll_30 : decode cX0_spentByAll 30 = .ok (.iload_n 1, 1) := by decide +kernel
theorem dX0_spentByAll_31 : decode cX0_spentByAll 31 = .ok (.ireturn, 1) := by decide +kernel
theorem dX0_lackOfAll_0 : decode cX0_lackOfAll 0 = .ok (.iconst 0, 1) := by decide +kernel
theorem dX0_lackOfAll_1 : decode cX0_lackOfAll 1 = .ok (.istore_n 1, 1) := by decide +kernel
theorem dX0_lackOfAll_2 : decode cX0_lackOfAll 2 = .ok (.iconst 0, 1) := by decide +kernel
theorem dX0_lackOfAll_3 : decode cX0_lackOfAll 3 = .ok (.istore_n 2, 1) := by decide +kernel
theorem dX0_lackOfAll_4 : decode cX0_lackOfAll 4 = .ok (.iload_n 2, 1) := by decide +kernel
theorem dX0_lackOfAll_5 : decode cX0_lackOfAll 5 = .ok (.aload_n 0, 1) := by decide +kernel
theorem dX0_lackOfAll_6 : decode cX0_lackOfAll 6 = .ok (.getfield 21, 3) := by decide +kernel
theorem dX0_lackOfAll_9 : decode cX0_lackOfAll 9 = .ok (.if_icmp .ge 21, 3) := by decide +kernel
theorem dX0_lackOfAll_12 : decode cX0_lackOfAll 12 = .ok (.iload_n 1, 1) := by decide +kernel
theorem dX0_lackOfAll_13 : decode cX0_lackOfAll 13 = .ok (.aload_n 0, 1) := by decide +kernel
theorem dX0_lackOfAll_14 : decode cX0_lackOfAll 14 = .ok (.getfield 17, 3) := by decide +kernel
theorem dX0_lackOfAll_17 : decode cX0_lackOfAll 17 = .ok (.iload_n 2, 1) := by decide +kernel
theorem dX0_lackOfAll_18 : decode cX0_lackOfAll 18 = .ok (.aaload, 1) := by decide +kernel
theorem dX0_lackOfAll_19 : decode cX0_lackOfAll 19 = .ok (.getfield 62, 3) := by decide +kernel
theorem dX0_lackOfAll_22 : decode cX0_lackOfAll 22 = .ok (.iadd, 1) := by decide +kernel
theorem dX0_lackOfAll_23 : decode cX0_lackOfAll 23 = .ok (.istore_n 1, 1) := by decide +kernel
theorem dX0_lackOfAll_24 : decode cX0_lackOfAll 24 = .ok (.iinc 2 1, 3) := by decide +kernel
theorem dX0_lackOfAll_27 : decode cX0_lackOfAll 27 = .ok (.goto (-23), 3) := by decide +kernel
theorem dX0_lackOfAll_30 : decode cX0_lackOfAll 30 = .ok (.iload_n 1, 1) := by decide +kernel
theorem dX0_lackOfAll_31 : decode cX0_lackOfAll 31 = .ok (.ireturn, 1) := by decide +kernel
theorem dX0_wantOf_0 : decode cX0_wantOf 0 = .ok (.aload_n 2, 1) := by decide +kernel
theorem dX0_wantOf_1 : decode cX0_wantOf 1 = .ok (.getfield 65, 3) := by decide +kernel
theorem dX0_wantOf_4 : decode cX0_wantOf 4 = .ok (.iconst 2, 1) := by decide +kernel
theorem dX0_wantOf_5 : decode cX0_wantOf 5 = .ok (.if_icmp .ne 26, 3) := by decide +kernel
theorem dX0_wantOf_8 : decode cX0_wantOf 8 = .ok (.aload_n 2, 1) := by decide +kernel
theorem dX0_wantOf_9 : decode cX0_wantOf 9 = .ok (.aload_n 0, 1) := by decide +kernel
theorem dX0_wantOf_10 : decode cX0_wantOf 10 = .ok (.getfield 28, 3) := by decide +kernel
theorem dX0_wantOf_13 : decode cX0_wantOf 13 = .ok (.aload_n 0, 1) := by decide +kernel
theorem dX0_wantOf_14 : decode cX0_wantOf 14 = .ok (.getfield 9, 3) := by decide +kernel
theorem dX0_wantOf_17 : decode cX0_wantOf 17 = .ok (.iconst 1, 1) := by decide +kernel
theorem dX0_wantOf_18 : decode cX0_wantOf 18 = .ok (.iaload, 1) := by decide +kernel
theorem dX0_wantOf_19 : decode cX0_wantOf 19 = .ok (.aload_n 0, 1) := by decide +kernel
theorem dX0_wantOf_20 : decode cX0_wantOf 20 = .ok (.getfield 9, 3) := by decide +kernel
theorem dX0_wantOf_23 : decode cX0_wantOf 23 = .ok (.iconst 4, 1) := by decide +kernel
theorem dX0_wantOf_24 : decode cX0_wantOf 24 = .ok (.iaload, 1) := by decide +kernel
theorem dX0_wantOf_25 : decode cX0_wantOf 25 = .ok (.invokevirtual 70, 3) := by decide +kernel
theorem dX0_wantOf_28 : decode cX0_wantOf 28 = .ok (.goto 4, 3) := by decide +kernel
theorem dX0_wantOf_31 : decode cX0_wantOf 31 = .ok (.iconst 0, 1) := by decide +kernel
theorem dX0_wantOf_32 : decode cX0_wantOf 32 = .ok (.istore_n 3, 1) := by decide +kernel
theorem dX0_wantOf_33 : decode cX0_wantOf 33 = .ok (.aload_n 2, 1) := by decide +kernel
theorem dX0_wantOf_34 : decode cX0_wantOf 34 = .ok (.aload_n 2, 1) := by decide +kernel
theorem dX0_wantOf_35 : decode cX0_wantOf 35 = .ok (.getfield 74, 3) := by decide +kernel
theorem dX0_wantOf_38 : decode cX0_wantOf 38 = .ok (.aload_n 1, 1) := by decide +kernel
theorem dX0_wantOf_39 : decode cX0_wantOf 39 = .ok (.getfield 56, 3) := by decide +kernel
theorem dX0_wantOf_42 : decode cX0_wantOf 42 = .ok (.aload_n 1, 1) := by decide +kernel
theorem dX0_wantOf_43 : decode cX0_wantOf 43 = .ok (.aload_n 0, 1) := by decide +kernel
theorem dX0_wantOf_44 : decode cX0_wantOf 44 = .ok (.getfield 28, 3) := by decide +kernel
theorem dX0_wantOf_47 : decode cX0_wantOf 47 = .ok (.invokevirtual 77, 3) := by decide +kernel
theorem dX0_wantOf_50 : decode cX0_wantOf 50 = .ok (.iload_n 3, 1) := by decide +kernel
theorem dX0_wantOf_51 : decode cX0_wantOf 51 = .ok (.invokevirtual 81, 3) := by decide +kernel
theorem dX0_wantOf_54 : decode cX0_wantOf 54 = .ok (.ireturn, 1) := by decide +kernel
theorem dX0_wantBeside_0 : decode cX0_wantBeside 0 = .ok (.iconst 0, 1) := by decide +kernel
theorem dX0_wantBeside_1 : decode cX0_wantBeside 1 = .ok (.istore_n 3, 1) := by decide +kernel
theorem dX0_wantBeside_2 : decode cX0_wantBeside 2 = .ok (.iconst 0, 1) := by decide +kernel
theorem dX0_wantBeside_3 : decode cX0_wantBeside 3 = .ok (.istore 4, 2) := by decide +kernel
theorem dX0_wantBeside_5 : decode cX0_wantBeside 5 = .ok (.iload 4, 2) := by decide +kernel
theorem dX0_wantBeside_7 : decode cX0_wantBeside 7 = .ok (.aload_n 1, 1) := by decide +kernel
theorem dX0_wantBeside_8 : decode cX0_wantBeside 8 = .ok (.getfield 85, 3) := by decide +kernel
theorem dX0_wantBeside_11 : decode cX0_wantBeside 11 = .ok (.if_icmp .ge 32, 3) := by decide +kernel
theorem dX0_wantBeside_14 : decode cX0_wantBeside 14 = .ok (.iload 4, 2) := by decide +kernel
theorem dX0_wantBeside_16 : decode cX0_wantBeside 16 = .ok (.iload_n 2, 1) := by decide +kernel
theorem dX0_wantBeside_17 : decode cX0_wantBeside 17 = .ok (.if_icmp .eq 20, 3) := by decide +kernel
theorem dX0_wantBeside_20 : decode cX0_wantBeside 20 = .ok (.iload_n 3, 1) := by decide +kernel
theorem dX0_wantBeside_21 : decode cX0_wantBeside 21 = .ok (.aload_n 0, 1) := by decide +kernel
theorem dX0_wantBeside_22 : decode cX0_wantBeside 22 = .ok (.aload_n 1, 1) := by decide +kernel
theorem dX0_wantBeside_23 : decode cX0_wantBeside 23 = .ok (.aload_n 1, 1) := by decide +kernel
theorem dX0_wantBeside_24 : decode cX0_wantBeside 24 = .ok (.getfield 88, 3) := by decide +kernel
theorem dX0_wantBeside_27 : decode cX0_wantBeside 27 = .ok (.iload 4, 2) := by decide +kernel
theorem dX0_wantBeside_29 : decode cX0_wantBeside 29 = .ok (.aaload, 1) := by decide +kernel
theorem dX0_wantBeside_30 : decode cX0_wantBeside 30 = .ok (.invokevirtual 92, 3) := by decide +kernel
theorem dX0_wantBeside_33 : decode cX0_wantBeside 33 = .ok (.invokestatic 96, 3) := by decide +kernel
theorem dX0_wantBeside_36 : decode cX0_wantBeside 36 = .ok (.istore_n 3, 1) := by decide +kernel
theorem dX0_wantBeside_37 : decode cX0_wantBeside 37 = .ok (.iinc 4 1, 3) := by decide +kernel
theorem dX0_wantBeside_40 : decode cX0_wantBeside 40 = .ok (.goto (-35), 3) := by decide +kernel
theorem dX0_wantBeside_43 : decode cX0_wantBeside 43 = .ok (.iload_n 3, 1) := by decide +kernel
theorem dX0_wantBeside_44 : decode cX0_wantBeside 44 = .ok (.ireturn, 1) := by decide +kernel
theorem dX0_playRound_0 : decode cX0_playRound 0 = .ok (.iconst 0, 1) := by decide +kernel
theorem dX0_playRound_1 : decode cX0_playRound 1 = .ok (.istore_n 1, 1) := by decide +kernel
theorem dX0_playRound_2 : decode cX0_playRound 2 = .ok (.iload_n 1, 1) := by decide +kernel
theorem dX0_playRound_3 : decode cX0_playRound 3 = .ok (.aload_n 0, 1) := by decide +kernel
theorem dX0_playRound_4 : decode cX0_playRound 4 = .ok (.getfield 21, 3) := by decide +kernel
theorem dX0_playRound_7 : decode cX0_playRound 7 = .ok (.if_icmp .ge 22, 3) := by decide +kernel
theorem dX0_playRound_10 : decode cX0_playRound 10 = .ok (.aload_n 0, 1) := by decide +kernel
theorem dX0_playRound_11 : decode cX0_playRound 11 = .ok (.getfield 17, 3) := by decide +kernel
theorem dX0_playRound_14 : decode cX0_playRound 14 = .ok (.iload_n 1, 1) := by decide +kernel
theorem dX0_playRound_15 : decode cX0_playRound 15 = .ok (.aaload, 1) := by decide +kernel
theorem dX0_playRound_16 : decode cX0_playRound 16 = .ok (.aload_n 0, 1) := by decide +kernel
theorem dX0_playRound_17 : decode cX0_playRound 17 = .ok (.getfield 28, 3) := by decide +kernel
theorem dX0_playRound_20 : decode cX0_playRound 20 = .ok (.invokevirtual 99, 3) := by decide +kernel
theorem dX0_playRound_23 : decode cX0_playRound 23 = .ok (.iinc 1 1, 3) := by decide +kernel
theorem dX0_playRound_26 : decode cX0_playRound 26 = .ok (.goto (-24), 3) := by decide +kernel
theorem dX0_playRound_29 : decode cX0_playRound 29 = .ok (.iconst 0, 1) := by decide +kernel
theorem dX0_playRound_30 : decode cX0_playRound 30 = .ok (.istore_n 1, 1) := by decide +kernel
theorem dX0_playRound_31 : decode cX0_playRound 31 = .ok (.iload_n 1, 1) := by decide +kernel
theorem dX0_playRound_32 : decode cX0_playRound 32 = .ok (.aload_n 0, 1) := by decide +kernel
theorem dX0_playRound_33 : decode cX0_playRound 33 = .ok (.getfield 21, 3) := by decide +kernel
theorem dX0_playRound_36 : decode cX0_playRound 36 = .ok (.if_icmp .ge 50, 3) := by decide +kernel
theorem dX0_playRound_39 : decode cX0_playRound 39 = .ok (.aload_n 0, 1) := by decide +kernel
theorem dX0_playRound_40 : decode cX0_playRound 40 = .ok (.getfield 17, 3) := by decide +kernel
theorem dX0_playRound_43 : decode cX0_playRound 43 = .ok (.iload_n 1, 1) := by decide +kernel
theorem dX0_playRound_44 : decode cX0_playRound 44 = .ok (.aaload, 1) := by decide +kernel
theorem dX0_playRound_45 : decode cX0_playRound 45 = .ok (.astore_n 2, 1) := by decide +kernel
theorem dX0_playRound_46 : decode cX0_playRound 46 = .ok (.aload_n 2, 1) := by decide +kernel
theorem dX0_playRound_47 : decode cX0_playRound 47 = .ok (.aload_n 2, 1) := by decide +kernel
theorem dX0_playRound_48 : decode cX0_playRound 48 = .ok (.getfield 85, 3) := by decide +kernel
theorem dX0_playRound_51 : decode cX0_playRound 51 = .ok (.ifCond .ne 12, 3) := by decide +kernel
theorem dX0_playRound_54 : decode cX0_playRound 54 = .ok (.aload_n 2, 1) := by decide +kernel
theorem dX0_playRound_55 : decode cX0_playRound 55 = .ok (.getfield 55, 3) := by decide +kernel
theorem dX0_playRound_58 : decode cX0_playRound 58 = .ok (.iconst 0, 1) := by decide +kernel
theorem dX0_playRound_59 : decode cX0_playRound 59 = .ok (.iaload, 1) := by decide +kernel
theorem dX0_playRound_60 : decode cX0_playRound 60 = .ok (.goto 9, 3) := by decide +kernel
theorem dX0_playRound_63 : decode cX0_playRound 63 = .ok (.aload_n 0, 1) := by decide +kernel
theorem dX0_playRound_64 : decode cX0_playRound 64 = .ok (.aload_n 2, 1) := by decide +kernel
theorem dX0_playRound_65 : decode cX0_playRound 65 = .ok (.iconst (-1), 1) := by decide +kernel
theorem dX0_playRound_66 : decode cX0_playRound 66 = .ok (.invokevirtual 103, 3) := by decide +kernel
theorem dX0_playRound_69 : decode cX0_playRound 69 = .ok (.putfield 107, 3) := by decide +kernel
theorem dX0_playRound_72 : decode cX0_playRound 72 = .ok (.aload_n 2, 1) := by decide +kernel
theorem dX0_playRound_73 : decode cX0_playRound 73 = .ok (.aload_n 0, 1) := by decide +kernel
theorem dX0_playRound_74 : decode cX0_playRound 74 = .ok (.getfield 28, 3) := by decide +kernel
theorem dX0_playRound_77 : decode cX0_playRound 77 = .ok (.invokevirtual 110, 3) := by decide +kernel
theorem dX0_playRound_80 : decode cX0_playRound 80 = .ok (.iinc 1 1, 3) := by decide +kernel
theorem dX0_playRound_83 : decode cX0_playRound 83 = .ok (.goto (-52), 3) := by decide +kernel
theorem dX0_playRound_86 : decode cX0_playRound 86 = .ok (.iconst 0, 1) := by decide +kernel
theorem dX0_playRound_87 : decode cX0_playRound 87 = .ok (.istore_n 1, 1) := by decide +kernel
theorem dX0_playRound_88 : decode cX0_playRound 88 = .ok (.iload_n 1, 1) := by decide +kernel
theorem dX0_playRound_89 : decode cX0_playRound 89 = .ok (.aload_n 0, 1) := by decide +kernel
theorem dX0_playRound_90 : decode cX0_playRound 90 = .ok (.getfield 21, 3) := by decide +kernel
theorem dX0_playRound_93 : decode cX0_playRound 93 = .ok (.if_icmp .ge 22, 3) := by decide +kernel
theorem dX0_playRound_96 : decode cX0_playRound 96 = .ok (.aload_n 0, 1) := by decide +kernel
theorem dX0_playRound_97 : decode cX0_playRound 97 = .ok (.getfield 17, 3) := by decide +kernel
theorem dX0_playRound_100 : decode cX0_playRound 100 = .ok (.iload_n 1, 1) := by decide +kernel
theorem dX0_playRound_101 : decode cX0_playRound 101 = .ok (.aaload, 1) := by decide +kernel
theorem dX0_playRound_102 : decode cX0_playRound 102 = .ok (.aload_n 0, 1) := by decide +kernel
theorem dX0_playRound_103 : decode cX0_playRound 103 = .ok (.getfield 28, 3) := by decide +kernel
theorem dX0_playRound_106 : decode cX0_playRound 106 = .ok (.invokevirtual 113, 3) := by decide +kernel
theorem dX0_playRound_109 : decode cX0_playRound 109 = .ok (.iinc 1 1, 3) := by decide +kernel
theorem dX0_playRound_112 : decode cX0_playRound 112 = .ok (.goto (-24), 3) := by decide +kernel
theorem dX0_playRound_115 : decode cX0_playRound 115 = .ok (.aload_n 0, 1) := by decide +kernel
theorem dX0_playRound_116 : decode cX0_playRound 116 = .ok (.invokevirtual 116, 3) := by decide +kernel
theorem dX0_playRound_119 : decode cX0_playRound 119 = .ok (.aload_n 0, 1) := by decide +kernel
theorem dX0_playRound_120 : decode cX0_playRound 120 = .ok (.aload_n 0, 1) := by decide +kernel
theorem dX0_playRound_121 : decode cX0_playRound 121 = .ok (.getfield 25, 3) := by decide +kernel
theorem dX0_playRound_124 : decode cX0_playRound 124 = .ok (.aload_n 0, 1) := by decide +kernel
theorem dX0_playRound_125 : decode cX0_playRound 125 = .ok (.getfield 9, 3) := by decide +kernel
theorem dX0_playRound_128 : decode cX0_playRound 128 = .ok (.iconst 3, 1) := by decide +kernel
theorem dX0_playRound_129 : decode cX0_playRound 129 = .ok (.iaload, 1) := by decide +kernel
theorem dX0_playRound_130 : decode cX0_playRound 130 = .ok (.iadd, 1) := by decide +kernel
theorem dX0_playRound_131 : decode cX0_playRound 131 = .ok (.aload_n 0, 1) := by decide +kernel
theorem dX0_playRound_132 : decode cX0_playRound 132 = .ok (.getfield 9, 3) := by decide +kernel
theorem dX0_playRound_135 : decode cX0_playRound 135 = .ok (.iconst 2, 1) := by decide +kernel
theorem dX0_playRound_136 : decode cX0_playRound 136 = .ok (.iaload, 1) := by decide +kernel
theorem dX0_playRound_137 : decode cX0_playRound 137 = .ok (.invokestatic 49, 3) := by decide +kernel
theorem dX0_playRound_140 : decode cX0_playRound 140 = .ok (.putfield 25, 3) := by decide +kernel
theorem dX0_playRound_143 : decode cX0_playRound 143 = .ok (.iconst 0, 1) := by decide +kernel
theorem dX0_playRound_144 : decode cX0_playRound 144 = .ok (.istore_n 1, 1) := by decide +kernel
theorem dX0_playRound_145 : decode cX0_playRound 145 = .ok (.iload_n 1, 1) := by decide +kernel
theorem dX0_playRound_146 : decode cX0_playRound 146 = .ok (.aload_n 0, 1) := by decide +kernel
theorem dX0_playRound_147 : decode cX0_playRound 147 = .ok (.getfield 21, 3) := by decide +kernel
theorem dX0_playRound_150 : decode cX0_playRound 150 = .ok (.if_icmp .ge 22, 3) := by decide +kernel
theorem dX0_playRound_153 : decode cX0_playRound 153 = .ok (.aload_n 0, 1) := by decide +kernel
theorem dX0_playRound_154 : decode cX0_playRound 154 = .ok (.getfield 17, 3) := by decide +kernel
theorem dX0_playRound_157 : decode cX0_playRound 157 = .ok (.iload_n 1, 1) := by decide +kernel
theorem dX0_playRound_158 : decode cX0_playRound 158 = .ok (.aaload, 1) := by decide +kernel
theorem dX0_playRound_159 : decode cX0_playRound 159 = .ok (.aload_n 0, 1) := by decide +kernel
theorem dX0_playRound_160 : decode cX0_playRound 160 = .ok (.getfield 28, 3) := by decide +kernel
theorem dX0_playRound_163 : decode cX0_playRound 163 = .ok (.invokevirtual 119, 3) := by decide +kernel
theorem dX0_playRound_166 : decode cX0_playRound 166 = .ok (.iinc 1 1, 3) := by decide +kernel
theorem dX0_playRound_169 : decode cX0_playRound 169 = .ok (.goto (-24), 3) := by decide +kernel
theorem dX0_playRound_172 : decode cX0_playRound 172 = .ok (.aload_n 0, 1) := by decide +kernel
theorem dX0_playRound_173 : decode cX0_playRound 173 = .ok (.dup, 1) := by decide +kernel
theorem dX0_playRound_174 : decode cX0_playRound 174 = .ok (.getfield 28, 3) := by decide +kernel
theorem dX0_playRound_177 : decode cX0_playRound 177 = .ok (.iconst 1, 1) := by decide +kernel
theorem dX0_playRound_178 : decode cX0_playRound 178 = .ok (.iadd, 1) := by decide +kernel
theorem dX0_playRound_179 : decode cX0_playRound 179 = .ok (.putfield 28, 3) := by decide +kernel
theorem dX0_playRound_182 : decode cX0_playRound 182 = .ok (.return_, 1) := by decide +kernel
theorem dX0_giveOut_0 : decode cX0_giveOut 0 = .ok (.aload_n 0, 1) := by decide +kernel
theorem dX0_giveOut_1 : decode cX0_giveOut 1 = .ok (.getfield 9, 3) := by decide +kernel
theorem dX0_giveOut_4 : decode cX0_giveOut 4 = .ok (.iconst 0, 1) := by decide +kernel
theorem dX0_giveOut_5 : decode cX0_giveOut 5 = .ok (.iaload, 1) := by decide +kernel
theorem dX0_giveOut_6 : decode cX0_giveOut 6 = .ok (.aload_n 0, 1) := by decide +kernel
theorem dX0_giveOut_7 : decode cX0_giveOut 7 = .ok (.invokevirtual 122, 3) := by decide +kernel
theorem dX0_giveOut_10 : decode cX0_giveOut 10 = .ok (.isub, 1) := by decide +kernel
theorem dX0_giveOut_11 : decode cX0_giveOut 11 = .ok (.iconst 0, 1) := by decide +kernel
theorem dX0_giveOut_12 : decode cX0_giveOut 12 = .ok (.invokestatic 96, 3) := by decide +kernel
theorem dX0_giveOut_15 : decode cX0_giveOut 15 = .ok (.istore_n 1, 1) := by decide +kernel
theorem dX0_giveOut_16 : decode cX0_giveOut 16 = .ok (.iconst 0, 1) := by decide +kernel
theorem dX0_giveOut_17 : decode cX0_giveOut 17 = .ok (.istore_n 2, 1) := by decide +kernel
theorem dX0_giveOut_18 : decode cX0_giveOut 18 = .ok (.iload_n 2, 1) := by decide +kernel
theorem dX0_giveOut_19 : decode cX0_giveOut 19 = .ok (.aload_n 0, 1) := by decide +kernel
theorem dX0_giveOut_20 : decode cX0_giveOut 20 = .ok (.getfield 21, 3) := by decide +kernel
theorem dX0_giveOut_23 : decode cX0_giveOut 23 = .ok (.if_icmp .ge 97, 3) := by decide +kernel
theorem dX0_giveOut_26 : decode cX0_giveOut 26 = .ok (.aload_n 0, 1) := by decide +kernel
theorem dX0_giveOut_27 : decode cX0_giveOut 27 = .ok (.invokevirtual 126, 3) := by decide +kernel
theorem dX0_giveOut_30 : decode cX0_giveOut 30 = .ok (.istore_n 3, 1) := by decide +kernel
theorem dX0_giveOut_31 : decode cX0_giveOut 31 = .ok (.iload_n 3, 1) := by decide +kernel
theorem dX0_giveOut_32 : decode cX0_giveOut 32 = .ok (.iconst (-1), 1) := by decide +kernel
theorem dX0_giveOut_33 : decode cX0_giveOut 33 = .ok (.if_icmp .ne 4, 3) := by decide +kernel
theorem dX0_giveOut_36 : decode cX0_giveOut 36 = .ok (.return_, 1) := by decide +kernel
theorem dX0_giveOut_37 : decode cX0_giveOut 37 = .ok (.aload_n 0, 1) := by decide +kernel
theorem dX0_giveOut_38 : decode cX0_giveOut 38 = .ok (.getfield 17, 3) := by decide +kernel
theorem dX0_giveOut_41 : decode cX0_giveOut 41 = .ok (.iload_n 3, 1) := by decide +kernel
theorem dX0_giveOut_42 : decode cX0_giveOut 42 = .ok (.aaload, 1) := by decide +kernel
theorem dX0_giveOut_43 : decode cX0_giveOut 43 = .ok (.astore 4, 2) := by decide +kernel
theorem dX0_giveOut_45 : decode cX0_giveOut 45 = .ok (.aload 4, 2) := by decide +kernel
theorem dX0_giveOut_47 : decode cX0_giveOut 47 = .ok (.getfield 129, 3) := by decide +kernel
theorem dX0_giveOut_50 : decode cX0_giveOut 50 = .ok (.aload 4, 2) := by decide +kernel
theorem dX0_giveOut_52 : decode cX0_giveOut 52 = .ok (.getfield 56, 3) := by decide +kernel
theorem dX0_giveOut_55 : decode cX0_giveOut 55 = .ok (.isub, 1) := by decide +kernel
theorem dX0_giveOut_56 : decode cX0_giveOut 56 = .ok (.iload_n 1, 1) := by decide +kernel
theorem dX0_giveOut_57 : decode cX0_giveOut 57 = .ok (.invokestatic 49, 3) := by decide +kernel
theorem dX0_giveOut_60 : decode cX0_giveOut 60 = .ok (.istore 5, 2) := by decide +kernel
theorem dX0_giveOut_62 : decode cX0_giveOut 62 = .ok (.iload 5, 2) := by decide +kernel
theorem dX0_giveOut_64 : decode cX0_giveOut 64 = .ok (.aload_n 0, 1) := by decide +kernel
theorem dX0_giveOut_65 : decode cX0_giveOut 65 = .ok (.getfield 25, 3) := by decide +kernel
theorem dX0_giveOut_68 : decode cX0_giveOut 68 = .ok (.invokestatic 49, 3) := by decide +kernel
theorem dX0_giveOut_71 : decode cX0_giveOut 71 = .ok (.istore 6, 2) := by decide +kernel
theorem dX0_giveOut_73 : decode cX0_giveOut 73 = .ok (.aload 4, 2) := by decide +kernel
theorem dX0_giveOut_75 : decode cX0_giveOut 75 = .ok (.iload_n 2, 1) := by decide +kernel
theorem dX0_giveOut_76 : decode cX0_giveOut 76 = .ok (.putfield 132, 3) := by decide +kernel
theorem dX0_giveOut_79 : decode cX0_giveOut 79 = .ok (.aload 4, 2) := by decide +kernel
theorem dX0_giveOut_81 : decode cX0_giveOut 81 = .ok (.aload_n 0, 1) := by decide +kernel
theorem dX0_giveOut_82 : decode cX0_giveOut 82 = .ok (.getfield 28, 3) := by decide +kernel
theorem dX0_giveOut_85 : decode cX0_giveOut 85 = .ok (.iload 5, 2) := by decide +kernel
theorem dX0_giveOut_87 : decode cX0_giveOut 87 = .ok (.iload 6, 2) := by decide +kernel
theorem dX0_giveOut_89 : decode cX0_giveOut 89 = .ok (.aload_n 0, 1) := by decide +kernel
theorem dX0_giveOut_90 : decode cX0_giveOut 90 = .ok (.getfield 9, 3) := by decide +kernel
theorem dX0_giveOut_93 : decode cX0_giveOut 93 = .ok (.iconst 1, 1) := by decide +kernel
theorem dX0_giveOut_94 : decode cX0_giveOut 94 = .ok (.iaload, 1) := by decide +kernel
theorem dX0_giveOut_95 : decode cX0_giveOut 95 = .ok (.invokevirtual 135, 3) := by decide +kernel
theorem dX0_giveOut_98 : decode cX0_giveOut 98 = .ok (.iload_n 1, 1) := by decide +kernel
theorem dX0_giveOut_99 : decode cX0_giveOut 99 = .ok (.iload 5, 2) := by decide +kernel
theorem dX0_giveOut_101 : decode cX0_giveOut 101 = .ok (.isub, 1) := by decide +kernel
theorem dX0_giveOut_102 : decode cX0_giveOut 102 = .ok (.istore_n 1, 1) := by decide +kernel
theorem dX0_giveOut_103 : decode cX0_giveOut 103 = .ok (.aload_n 0, 1) := by decide +kernel
theorem dX0_giveOut_104 : decode cX0_giveOut 104 = .ok (.dup, 1) := by decide +kernel
theorem dX0_giveOut_105 : decode cX0_giveOut 105 = .ok (.getfield 25, 3) := by decide +kernel
theorem dX0_giveOut_108 : decode cX0_giveOut 108 = .ok (.iload 6, 2) := by decide +kernel
theorem dX0_giveOut_110 : decode cX0_giveOut 110 = .ok (.isub, 1) := by decide +kernel
theorem dX0_giveOut_111 : decode cX0_giveOut 111 = .ok (.putfield 25, 3) := by decide +kernel
theorem dX0_giveOut_114 : decode cX0_giveOut 114 = .ok (.iinc 2 1, 3) := by decide +kernel
theorem dX0_giveOut_117 : decode cX0_giveOut 117 = .ok (.goto (-99), 3) := by decide +kernel
theorem dX0_giveOut_120 : decode cX0_giveOut 120 = .ok (.return_, 1) := by decide +kernel
theorem dX0_firstInNeed_0 : decode cX0_firstInNeed 0 = .ok (.iconst (-1), 1) := by decide +kernel
theorem dX0_firstInNeed_1 : decode cX0_firstInNeed 1 = .ok (.istore_n 1, 1) := by decide +kernel
theorem dX0_firstInNeed_2 : decode cX0_firstInNeed 2 = .ok (.iconst 0, 1) := by decide +kernel
theorem dX0_firstInNeed_3 : decode cX0_firstInNeed 3 = .ok (.istore_n 2, 1) := by decide +kernel
theorem dX0_firstInNeed_4 : decode cX0_firstInNeed 4 = .ok (.iload_n 2, 1) := by decide +kernel
theorem dX0_firstInNeed_5 : decode cX0_firstInNeed 5 = .ok (.aload_n 0, 1) := by decide +kernel
theorem dX0_firstInNeed_6 : decode cX0_firstInNeed 6 = .ok (.getfield 21, 3) := by decide +kernel
theorem dX0_firstInNeed_9 : decode cX0_firstInNeed 9 = .ok (.if_icmp .ge 67, 3) := by decide +kernel
theorem dX0_firstInNeed_12 : decode cX0_firstInNeed 12 = .ok (.aload_n 0, 1) := by decide +kernel
theorem dX0_firstInNeed_13 : decode cX0_firstInNeed 13 = .ok (.getfield 17, 3) := by decide +kernel
theorem dX0_firstInNeed_16 : decode cX0_firstInNeed 16 = .ok (.iload_n 2, 1) := by decide +kernel
theorem dX0_firstInNeed_17 : decode cX0_firstInNeed 17 = .ok (.aaload, 1) := by decide +kernel
theorem dX0_firstInNeed_18 : decode cX0_firstInNeed 18 = .ok (.astore_n 3, 1) := by decide +kernel
theorem dX0_firstInNeed_19 : decode cX0_firstInNeed 19 = .ok (.aload_n 3, 1) := by decide +kernel
theorem dX0_firstInNeed_20 : decode cX0_firstInNeed 20 = .ok (.getfield 132, 3) := by decide +kernel
theorem dX0_firstInNeed_23 : decode cX0_firstInNeed 23 = .ok (.iconst (-1), 1) := by decide +kernel
theorem dX0_firstInNeed_24 : decode cX0_firstInNeed 24 = .ok (.if_icmp .ne 18, 3) := by decide +kernel
theorem dX0_firstInNeed_27 : decode cX0_firstInNeed 27 = .ok (.aload_n 3, 1) := by decide +kernel
theorem dX0_firstInNeed_28 : decode cX0_firstInNeed 28 = .ok (.getfield 56, 3) := by decide +kernel
theorem dX0_firstInNeed_31 : decode cX0_firstInNeed 31 = .ok (.aload_n 3, 1) := by decide +kernel
theorem dX0_firstInNeed_32 : decode cX0_firstInNeed 32 = .ok (.getfield 129, 3) := by decide +kernel
theorem dX0_firstInNeed_35 : decode cX0_firstInNeed 35 = .ok (.if_icmp .ge 7, 3) := by decide +kernel
theorem dX0_firstInNeed_38 : decode cX0_firstInNeed 38 = .ok (.iconst 1, 1) := by decide +kernel
theorem dX0_firstInNeed_39 : decode cX0_firstInNeed 39 = .ok (.goto 4, 3) := by decide +kernel
theorem dX0_firstInNeed_42 : decode cX0_firstInNeed 42 = .ok (.iconst 0, 1) := by decide +kernel
theorem dX0_firstInNeed_43 : decode cX0_firstInNeed 43 = .ok (.istore 4, 2) := by decide +kernel
theorem dX0_firstInNeed_45 : decode cX0_firstInNeed 45 = .ok (.iload 4, 2) := by decide +kernel
theorem dX0_firstInNeed_47 : decode cX0_firstInNeed 47 = .ok (.ifCond .eq 23, 3) := by decide +kernel
theorem dX0_firstInNeed_50 : decode cX0_firstInNeed 50 = .ok (.iload_n 1, 1) := by decide +kernel
theorem dX0_firstInNeed_51 : decode cX0_firstInNeed 51 = .ok (.iconst (-1), 1) := by decide +kernel
theorem dX0_firstInNeed_52 : decode cX0_firstInNeed 52 = .ok (.if_icmp .eq 16, 3) := by decide +kernel
theorem dX0_firstInNeed_55 : decode cX0_firstInNeed 55 = .ok (.aload_n 3, 1) := by decide +kernel
theorem dX0_firstInNeed_56 : decode cX0_firstInNeed 56 = .ok (.aload_n 0, 1) := by decide +kernel
theorem dX0_firstInNeed_57 : decode cX0_firstInNeed 57 = .ok (.getfield 17, 3) := by decide +kernel
theorem dX0_firstInNeed_60 : decode cX0_firstInNeed 60 = .ok (.iload_n 1, 1) := by decide +kernel
theorem dX0_firstInNeed_61 : decode cX0_firstInNeed 61 = .ok (.aaload, 1) := by decide +kernel
theorem dX0_firstInNeed_62 : decode cX0_firstInNeed 62 = .ok (.invokevirtual 139, 3) := by decide +kernel
theorem dX0_firstInNeed_65 : decode cX0_firstInNeed 65 = .ok (.ifCond .eq 5, 3) := by decide +kernel
theorem dX0_firstInNeed_68 : decode cX0_firstInNeed 68 = .ok (.iload_n 2, 1) := by decide +kernel
theorem dX0_firstInNeed_69 : decode cX0_firstInNeed 69 = .ok (.istore_n 1, 1) := by decide +kernel
theorem dX0_firstInNeed_70 : decode cX0_firstInNeed 70 = .ok (.iinc 2 1, 3) := by decide +kernel
theorem dX0_firstInNeed_73 : decode cX0_firstInNeed 73 = .ok (.goto (-69), 3) := by decide +kernel
theorem dX0_firstInNeed_76 : decode cX0_firstInNeed 76 = .ok (.iload_n 1, 1) := by decide +kernel
theorem dX0_firstInNeed_77 : decode cX0_firstInNeed 77 = .ok (.ireturn, 1) := by decide +kernel
theorem dX1_init_0 : decode cX1_init 0 = .ok (.aload_n 0, 1) := by decide +kernel
theorem dX1_init_1 : decode cX1_init 1 = .ok (.invokespecial 3, 3) := by decide +kernel
theorem dX1_init_4 : decode cX1_init 4 = .ok (.aload_n 0, 1) := by decide +kernel
theorem dX1_init_5 : decode cX1_init 5 = .ok (.iconst 1, 1) := by decide +kernel
theorem dX1_init_6 : decode cX1_init 6 = .ok (.putfield 9, 3) := by decide +kernel
theorem dX1_init_9 : decode cX1_init 9 = .ok (.aload_n 0, 1) := by decide +kernel
theorem dX1_init_10 : decode cX1_init 10 = .ok (.iconst 1, 1) := by decide +kernel
theorem dX1_init_11 : decode cX1_init 11 = .ok (.putfield 15, 3) := by decide +kernel
theorem dX1_init_14 : decode cX1_init 14 = .ok (.aload_n 0, 1) := by decide +kernel
theorem dX1_init_15 : decode cX1_init 15 = .ok (.iconst (-1), 1) := by decide +kernel
theorem dX1_init_16 : decode cX1_init 16 = .ok (.putfield 18, 3) := by decide +kernel
theorem dX1_init_19 : decode cX1_init 19 = .ok (.aload_n 0, 1) := by decide +kernel
theorem dX1_init_20 : decode cX1_init 20 = .ok (.bipush 32, 2) := by decide +kernel
theorem dX1_init_22 : decode cX1_init 22 = .ok (.newarray .int, 2) := by decide +kernel
theorem dX1_init_24 : decode cX1_init 24 = .ok (.putfield 21, 3) := by decide +kernel
theorem dX1_init_27 : decode cX1_init 27 = .ok (.return_, 1) := by decide +kernel
theorem dX1_wantBy_0 : decode cX1_wantBy 0 = .ok (.iload_n 1, 1) := by decide +kernel
theorem dX1_wantBy_1 : decode cX1_wantBy 1 = .ok (.iconst (-1), 1) := by decide +kernel
theorem dX1_wantBy_2 : decode cX1_wantBy 2 = .ok (.if_icmp .ne 5, 3) := by decide +kernel
theorem dX1_wantBy_5 : decode cX1_wantBy 5 = .ok (.iload_n 2, 1) := by decide +kernel
theorem dX1_wantBy_6 : decode cX1_wantBy 6 = .ok (.ireturn, 1) := by decide +kernel
theorem dX1_wantBy_7 : decode cX1_wantBy 7 = .ok (.aload_n 0, 1) := by decide +kernel
theorem dX1_wantBy_8 : decode cX1_wantBy 8 = .ok (.getfield 9, 3) := by decide +kernel
theorem dX1_wantBy_11 : decode cX1_wantBy 11 = .ok (.tableswitch 104 2 4 #[25, 39, 77], 25) := by decide +kernel
theorem dX1_wantBy_36 : decode cX1_wantBy 36 = .ok (.iload_n 1, 1) := by decide +kernel
theorem dX1_wantBy_37 : decode cX1_wantBy 37 = .ok (.iload 4, 2) := by decide +kernel
theorem dX1_wantBy_39 : decode cX1_wantBy 39 = .ok (.invokestatic 25, 3) := by decide +kernel
theorem dX1_wantBy_42 : decode cX1_wantBy 42 = .ok (.aload_n 0, 1) := by decide +kernel
theorem dX1_wantBy_43 : decode cX1_wantBy 43 = .ok (.getfield 15, 3) := by decide +kernel
theorem dX1_wantBy_46 : decode cX1_wantBy 46 = .ok (.invokestatic 31, 3) := by decide +kernel
theorem dX1_wantBy_49 : decode cX1_wantBy 49 = .ok (.ireturn, 1) := by decide +kernel
theorem dX1_wantBy_50 : decode cX1_wantBy 50 = .ok (.bipush 10, 2) := by decide +kernel
theorem dX1_wantBy_52 : decode cX1_wantBy 52 = .ok (.iload_n 1, 1) := by decide +kernel
theorem dX1_wantBy_53 : decode cX1_wantBy 53 = .ok (.aload_n 0, 1) := by decide +kernel
theorem dX1_wantBy_54 : decode cX1_wantBy 54 = .ok (.getfield 15, 3) := by decide +kernel
theorem dX1_wantBy_57 : decode cX1_wantBy 57 = .ok (.isub, 1) := by decide +kernel
theorem dX1_wantBy_58 : decode cX1_wantBy 58 = .ok (.invokestatic 34, 3) := by decide +kernel
theorem dX1_wantBy_61 : decode cX1_wantBy 61 = .ok (.imul, 1) := by decide +kernel
theorem dX1_wantBy_62 : decode cX1_wantBy 62 = .ok (.aload_n 0, 1) := by decide +kernel
theorem dX1_wantBy_63 : decode cX1_wantBy 63 = .ok (.getfield 15, 3) := by decide +kernel
theorem dX1_wantBy_66 : decode cX1_wantBy 66 = .ok (.if_icmp .gt 7, 3) := by decide +kernel
theorem dX1_wantBy_69 : decode cX1_wantBy 69 = .ok (.iload_n 2, 1) := by decide +kernel
theorem dX1_wantBy_70 : decode cX1_wantBy 70 = .ok (.goto 17, 3) := by decide +kernel
theorem dX1_wantBy_73 : decode cX1_wantBy 73 = .ok (.iload_n 3, 1) := by decide +kernel
theorem dX1_wantBy_74 : decode cX1_wantBy 74 = .ok (.iconst 1, 1) := by decide +kernel
theorem dX1_wantBy_75 : decode cX1_wantBy 75 = .ok (.invokestatic 25, 3) := by decide +kernel
theorem dX1_wantBy_78 : decode cX1_wantBy 78 = .ok (.iload_n 1, 1) := by decide +kernel
theorem dX1_wantBy_79 : decode cX1_wantBy 79 = .ok (.imul, 1) := by decide +kernel
theorem dX1_wantBy_80 : decode cX1_wantBy 80 = .ok (.aload_n 0, 1) := by decide +kernel
theorem dX1_wantBy_81 : decode cX1_wantBy 81 = .ok (.getfield 15, 3) := by decide +kernel
theorem dX1_wantBy_84 : decode cX1_wantBy 84 = .ok (.invokestatic 31, 3) := by decide +kernel
theorem dX1_wantBy_87 : decode cX1_wantBy 87 = .ok (.ireturn, 1) := by decide +kernel
theorem dX1_wantBy_88 : decode cX1_wantBy 88 = .ok (.iload_n 1, 1) := by decide +kernel
theorem dX1_wantBy_89 : decode cX1_wantBy 89 = .ok (.ifCond .ne 13, 3) := by decide +kernel
theorem dX1_wantBy_92 : decode cX1_wantBy 92 = .ok (.iload_n 2, 1) := by decide +kernel
theorem dX1_wantBy_93 : decode cX1_wantBy 93 = .ok (.iconst 1, 1) := by decide +kernel
theorem dX1_wantBy_94 : decode cX1_wantBy 94 = .ok (.isub, 1) := by decide +kernel
theorem dX1_wantBy_95 : decode cX1_wantBy 95 = .ok (.iconst 0, 1) := by decide +kernel
theorem dX1_wantBy_96 : decode cX1_wantBy 96 = .ok (.invokestatic 25, 3) := by decide +kernel
theorem dX1_wantBy_99 : decode cX1_wantBy 99 = .ok (.goto 15, 3) := by decide +kernel
theorem dX1_wantBy_102 : decode cX1_wantBy 102 = .ok (.iload_n 2, 1) := by decide +kernel
theorem dX1_wantBy_103 : decode cX1_wantBy 103 = .ok (.iload_n 1, 1) := by decide +kernel
theorem dX1_wantBy_104 : decode cX1_wantBy 104 = .ok (.iconst 1, 1) := by decide +kernel
theorem dX1_wantBy_105 : decode cX1_wantBy 105 = .ok (.isub, 1) := by decide +kernel
theorem dX1_wantBy_106 : decode cX1_wantBy 106 = .ok (.aload_n 0, 1) := by decide +kernel
theorem dX1_wantBy_107 : decode cX1_wantBy 107 = .ok (.getfield 15, 3) := by decide +kernel
theorem dX1_wantBy_110 : decode cX1_wantBy 110 = .ok (.invokestatic 38, 3) := by decide +kernel
theorem dX1_wantBy_113 : decode cX1_wantBy 113 = .ok (.iadd, 1) := by decide +kernel
theorem dX1_wantBy_114 : decode cX1_wantBy 114 = .ok (.ireturn, 1) := by decide +kernel
theorem dX1_wantBy_115 : decode cX1_wantBy 115 = .ok (.iload_n 1, 1) := by decide +kernel
theorem dX1_wantBy_116 : decode cX1_wantBy 116 = .ok (.aload_n 0, 1) := by decide +kernel
theorem dX1_wantBy_117 : decode cX1_wantBy 117 = .ok (.getfield 15, 3) := by decide +kernel
theorem dX1_wantBy_120 : decode cX1_wantBy 120 = .ok (.invokestatic 31, 3) := by decide +kernel
theorem dX1_wantBy_123 : decode cX1_wantBy 123 = .ok (.ireturn, 1) := by decide +kernel
theorem dX1_foresee_0 : decode cX1_foresee 0 = .ok (.iconst 0, 1) := by decide +kernel
theorem dX1_foresee_1 : decode cX1_foresee 1 = .ok (.istore 4, 2) := by decide +kernel
theorem dX1_foresee_3 : decode cX1_foresee 3 = .ok (.iconst 0, 1) := by decide +kernel
theorem dX1_foresee_4 : decode cX1_foresee 4 = .ok (.istore 5, 2) := by decide +kernel
theorem dX1_foresee_6 : decode cX1_foresee 6 = .ok (.iconst 1, 1) := by decide +kernel
theorem dX1_foresee_7 : decode cX1_foresee 7 = .ok (.istore 6, 2) := by decide +kernel
theorem dX1_foresee_9 : decode cX1_foresee 9 = .ok (.iload 6, 2) := by decide +kernel
theorem dX1_foresee_11 : decode cX1_foresee 11 = .ok (.iconst 3, 1) := by decide +kernel
theorem dX1_foresee_12 : decode cX1_foresee 12 = .ok (.if_icmp .gt 71, 3) := by decide +kernel
theorem dX1_foresee_15 : decode cX1_foresee 15 = .ok (.iload_n 1, 1) := by decide +kernel
theorem dX1_foresee_16 : decode cX1_foresee 16 = .ok (.iload_n 2, 1) := by decide +kernel
theorem dX1_foresee_17 : decode cX1_foresee 17 = .ok (.iadd, 1) := by decide +kernel
theorem dX1_foresee_18 : decode cX1_foresee 18 = .ok (.iload 6, 2) := by decide +kernel
theorem dX1_foresee_20 : decode cX1_foresee 20 = .ok (.iload_n 3, 1) := by decide +kernel
theorem dX1_foresee_21 : decode cX1_foresee 21 = .ok (.imul, 1) := by decide +kernel
theorem dX1_foresee_22 : decode cX1_foresee 22 = .ok (.isub, 1) := by decide +kernel
theorem dX1_foresee_23 : decode cX1_foresee 23 = .ok (.istore 7, 2) := by decide +kernel
theorem dX1_foresee_25 : decode cX1_foresee 25 = .ok (.iload 7, 2) := by decide +kernel
theorem dX1_foresee_27 : decode cX1_foresee 27 = .ok (.iload_n 1, 1) := by decide +kernel
theorem dX1_foresee_28 : decode cX1_foresee 28 = .ok (.if_icmp .ge 49, 3) := by decide +kernel
theorem dX1_foresee_31 : decode cX1_foresee 31 = .ok (.iload 7, 2) := by decide +kernel
theorem dX1_foresee_33 : decode cX1_foresee 33 = .ok (.ifCond .lt 44, 3) := by decide +kernel
theorem dX1_foresee_36 : decode cX1_foresee 36 = .ok (.iload 7, 2) := by decide +kernel
theorem dX1_foresee_38 : decode cX1_foresee 38 = .ok (.iload_n 1, 1) := by decide +kernel
theorem dX1_foresee_39 : decode cX1_foresee 39 = .ok (.bipush 18, 2) := by decide +kernel
theorem dX1_foresee_41 : decode cX1_foresee 41 = .ok (.isub, 1) := by decide +kernel
theorem dX1_foresee_42 : decode cX1_foresee 42 = .ok (.if_icmp .lt 35, 3) := by decide +kernel
theorem dX1_foresee_45 : decode cX1_foresee 45 = .ok (.aload_n 0, 1) := by decide +kernel
theorem dX1_foresee_46 : decode cX1_foresee 46 = .ok (.getfield 21, 3) := by decide +kernel
theorem dX1_foresee_49 : decode cX1_foresee 49 = .ok (.iload 7, 2) := by decide +kernel
theorem dX1_foresee_51 : decode cX1_foresee 51 = .ok (.bipush 31, 2) := by decide +kernel
theorem dX1_foresee_53 : decode cX1_foresee 53 = .ok (.iand, 1) := by decide +kernel
theorem dX1_foresee_54 : decode cX1_foresee 54 = .ok (.iaload, 1) := by decide +kernel
theorem dX1_foresee_55 : decode cX1_foresee 55 = .ok (.iconst (-1), 1) := by decide +kernel
theorem dX1_foresee_56 : decode cX1_foresee 56 = .ok (.if_icmp .eq 21, 3) := by decide +kernel
theorem dX1_foresee_59 : decode cX1_foresee 59 = .ok (.iload 4, 2) := by decide +kernel
theorem dX1_foresee_61 : decode cX1_foresee 61 = .ok (.aload_n 0, 1) := by decide +kernel
theorem dX1_foresee_62 : decode cX1_foresee 62 = .ok (.getfield 21, 3) := by decide +kernel
theorem dX1_foresee_65 : decode cX1_foresee 65 = .ok (.iload 7, 2) := by decide +kernel
theorem dX1_foresee_67 : decode cX1_foresee 67 = .ok (.bipush 31, 2) := by decide +kernel
theorem dX1_foresee_69 : decode cX1_foresee 69 = .ok (.iand, 1) := by decide +kernel
theorem dX1_foresee_70 : decode cX1_foresee 70 = .ok (.iaload, 1) := by decide +kernel
theorem dX1_foresee_71 : decode cX1_foresee 71 = .ok (.iadd, 1) := by decide +kernel
theorem dX1_foresee_72 : decode cX1_foresee 72 = .ok (.istore 4, 2) := by decide +kernel
theorem dX1_foresee_74 : decode cX1_foresee 74 = .ok (.iinc 5 1, 3) := by decide +kernel
theorem dX1_foresee_77 : decode cX1_foresee 77 = .ok (.iinc 6 1, 3) := by decide +kernel
theorem dX1_foresee_80 : decode cX1_foresee 80 = .ok (.goto (-71), 3) := by decide +kernel
theorem dX1_foresee_83 : decode cX1_foresee 83 = .ok (.iload 4, 2) := by decide +kernel
theorem dX1_foresee_85 : decode cX1_foresee 85 = .ok (.iload 5, 2) := by decide +kernel
theorem dX1_foresee_87 : decode cX1_foresee 87 = .ok (.invokestatic 31, 3) := by decide +kernel
theorem dX1_foresee_90 : decode cX1_foresee 90 = .ok (.ireturn, 1) := by decide +kernel
theorem dX1_leastValue_0 : decode cX1_leastValue 0 = .ok (.aload_n 0, 1) := by decide +kernel
theorem dX1_leastValue_1 : decode cX1_leastValue 1 = .ok (.getfield 15, 3) := by decide +kernel
theorem dX1_leastValue_4 : decode cX1_leastValue 4 = .ok (.bipush 10, 2) := by decide +kernel
theorem dX1_leastValue_6 : decode cX1_leastValue 6 = .ok (.invokestatic 38, 3) := by decide +kernel
theorem dX1_leastValue_9 : decode cX1_leastValue 9 = .ok (.istore 5, 2) := by decide +kernel
theorem dX1_leastValue_11 : decode cX1_leastValue 11 = .ok (.aload_n 0, 1) := by decide +kernel
theorem dX1_leastValue_12 : decode cX1_leastValue 12 = .ok (.getfield 15, 3) := by decide +kernel
theorem dX1_leastValue_15 : decode cX1_leastValue 15 = .ok (.iload 5, 2) := by decide +kernel
theorem dX1_leastValue_17 : decode cX1_leastValue 17 = .ok (.isub, 1) := by decide +kernel
theorem dX1_leastValue_18 : decode cX1_leastValue 18 = .ok (.iconst 1, 1) := by decide +kernel
theorem dX1_leastValue_19 : decode cX1_leastValue 19 = .ok (.isub, 1) := by decide +kernel
theorem dX1_leastValue_20 : decode cX1_leastValue 20 = .ok (.istore 6, 2) := by decide +kernel
theorem dX1_leastValue_22 : decode cX1_leastValue 22 = .ok (.iconst 0, 1) := by decide +kernel
theorem dX1_leastValue_23 : decode cX1_leastValue 23 = .ok (.istore 7, 2) := by decide +kernel
theorem dX1_leastValue_25 : decode cX1_leastValue 25 = .ok (.iload 7, 2) := by decide +kernel
theorem dX1_leastValue_27 : decode cX1_leastValue 27 = .ok (.iconst 3, 1) := by decide +kernel
theorem dX1_leastValue_28 : decode cX1_leastValue 28 = .ok (.if_icmp .ge 55, 3) := by decide +kernel
theorem dX1_leastValue_31 : decode cX1_leastValue 31 = .ok (.aload_n 0, 1) := by decide +kernel
theorem dX1_leastValue_32 : decode cX1_leastValue 32 = .ok (.iload 6, 2) := by decide +kernel
theorem dX1_leastValue_34 : decode cX1_leastValue 34 = .ok (.iload_n 2, 1) := by decide +kernel
theorem dX1_leastValue_35 : decode cX1_leastValue 35 = .ok (.iload_n 3, 1) := by decide +kernel
theorem dX1_leastValue_36 : decode cX1_leastValue 36 = .ok (.iload 4, 2) := by decide +kernel
theorem dX1_leastValue_38 : decode cX1_leastValue 38 = .ok (.invokevirtual 41, 3) := by decide +kernel
theorem dX1_leastValue_41 : decode cX1_leastValue 41 = .ok (.iload_n 1, 1) := by decide +kernel
theorem dX1_leastValue_42 : decode cX1_leastValue 42 = .ok (.if_icmp .lt 15, 3) := by decide +kernel
theorem dX1_leastValue_45 : decode cX1_leastValue 45 = .ok (.aload_n 0, 1) := by decide +kernel
theorem dX1_leastValue_46 : decode cX1_leastValue 46 = .ok (.iload 6, 2) := by decide +kernel
theorem dX1_leastValue_48 : decode cX1_leastValue 48 = .ok (.iload_n 1, 1) := by decide +kernel
theorem dX1_leastValue_49 : decode cX1_leastValue 49 = .ok (.iload_n 2, 1) := by decide +kernel
theorem dX1_leastValue_50 : decode cX1_leastValue 50 = .ok (.iload_n 3, 1) := by decide +kernel
theorem dX1_leastValue_51 : decode cX1_leastValue 51 = .ok (.iload 4, 2) := by decide +kernel
theorem dX1_leastValue_53 : decode cX1_leastValue 53 = .ok (.invokevirtual 45, 3) := by decide +kernel
theorem dX1_leastValue_56 : decode cX1_leastValue 56 = .ok (.ireturn, 1) := by decide +kernel
theorem dX1_leastValue_57 : decode cX1_leastValue 57 = .ok (.iload 7, 2) := by decide +kernel
theorem dX1_leastValue_59 : decode cX1_leastValue 59 = .ok (.ifCond .ne 13, 3) := by decide +kernel
theorem dX1_leastValue_62 : decode cX1_leastValue 62 = .ok (.aload_n 0, 1) := by decide +kernel
theorem dX1_leastValue_63 : decode cX1_leastValue 63 = .ok (.getfield 15, 3) := by decide +kernel
theorem dX1_leastValue_66 : decode cX1_leastValue 66 = .ok (.iload 5, 2) := by decide +kernel
theorem dX1_leastValue_68 : decode cX1_leastValue 68 = .ok (.iadd, 1) := by decide +kernel
theorem dX1_leastValue_69 : decode cX1_leastValue 69 = .ok (.goto 6, 3) := by decide +kernel
theorem dX1_leastValue_72 : decode cX1_leastValue 72 = .ok (.sipush 9999, 3) := by decide +kernel
theorem dX1_leastValue_75 : decode cX1_leastValue 75 = .ok (.istore 6, 2) := by decide +kernel
theorem dX1_leastValue_77 : decode cX1_leastValue 77 = .ok (.iinc 7 1, 3) := by decide +kernel
theorem dX1_leastValue_80 : decode cX1_leastValue 80 = .ok (.goto (-55), 3) := by decide +kernel
theorem dX1_leastValue_83 : decode cX1_leastValue 83 = .ok (.iconst (-1), 1) := by decide +kernel
theorem dX1_leastValue_84 : decode cX1_leastValue 84 = .ok (.ireturn, 1) := by decide +kernel
theorem dX1_leastUpTo_0 : decode cX1_leastUpTo 0 = .ok (.iconst 0, 1) := by decide +kernel
theorem dX1_leastUpTo_1 : decode cX1_leastUpTo 1 = .ok (.istore 6, 2) := by decide +kernel
theorem dX1_leastUpTo_3 : decode cX1_leastUpTo 3 = .ok (.iload_n 1, 1) := by decide +kernel
theorem dX1_leastUpTo_4 : decode cX1_leastUpTo 4 = .ok (.istore 7, 2) := by decide +kernel
theorem dX1_leastUpTo_6 : decode cX1_leastUpTo 6 = .ok (.iconst 0, 1) := by decide +kernel
theorem dX1_leastUpTo_7 : decode cX1_leastUpTo 7 = .ok (.istore 8, 2) := by decide +kernel
theorem dX1_leastUpTo_9 : decode cX1_leastUpTo 9 = .ok (.iload 8, 2) := by decide +kernel
theorem dX1_leastUpTo_11 : decode cX1_leastUpTo 11 = .ok (.bipush 14, 2) := by decide +kernel
theorem dX1_leastUpTo_13 : decode cX1_leastUpTo 13 = .ok (.if_icmp .ge 53, 3) := by decide +kernel
theorem dX1_leastUpTo_16 : decode cX1_leastUpTo 16 = .ok (.iload 6, 2) := by decide +kernel
theorem dX1_leastUpTo_18 : decode cX1_leastUpTo 18 = .ok (.iload 7, 2) := by decide +kernel
theorem dX1_leastUpTo_20 : decode cX1_leastUpTo 20 = .ok (.if_icmp .ge 46, 3) := by decide +kernel
theorem dX1_leastUpTo_23 : decode cX1_leastUpTo 23 = .ok (.iload 6, 2) := by decide +kernel
theorem dX1_leastUpTo_25 : decode cX1_leastUpTo 25 = .ok (.iload 7, 2) := by decide +kernel
theorem dX1_leastUpTo_27 : decode cX1_leastUpTo 27 = .ok (.iadd, 1) := by decide +kernel
theorem dX1_leastUpTo_28 : decode cX1_leastUpTo 28 = .ok (.iconst 2, 1) := by decide +kernel
theorem dX1_leastUpTo_29 : decode cX1_leastUpTo 29 = .ok (.idiv, 1) := by decide +kernel
theorem dX1_leastUpTo_30 : decode cX1_leastUpTo 30 = .ok (.istore 9, 2) := by decide +kernel
theorem dX1_leastUpTo_32 : decode cX1_leastUpTo 32 = .ok (.aload_n 0, 1) := by decide +kernel
theorem dX1_leastUpTo_33 : decode cX1_leastUpTo 33 = .ok (.iload 9, 2) := by decide +kernel
theorem dX1_leastUpTo_35 : decode cX1_leastUpTo 35 = .ok (.iload_n 3, 1) := by decide +kernel
theorem dX1_leastUpTo_36 : decode cX1_leastUpTo 36 = .ok (.iload 4, 2) := by decide +kernel
theorem dX1_leastUpTo_38 : decode cX1_leastUpTo 38 = .ok (.iload 5, 2) := by decide +kernel
theorem dX1_leastUpTo_40 : decode cX1_leastUpTo 40 = .ok (.invokevirtual 41, 3) := by decide +kernel
theorem dX1_leastUpTo_43 : decode cX1_leastUpTo 43 = .ok (.iload_n 2, 1) := by decide +kernel
theorem dX1_leastUpTo_44 : decode cX1_leastUpTo 44 = .ok (.if_icmp .lt 10, 3) := by decide +kernel
theorem dX1_leastUpTo_47 : decode cX1_leastUpTo 47 = .ok (.iload 9, 2) := by decide +kernel
theorem dX1_leastUpTo_49 : decode cX1_leastUpTo 49 = .ok (.istore 7, 2) := by decide +kernel
theorem dX1_leastUpTo_51 : decode cX1_leastUpTo 51 = .ok (.goto 9, 3) := by decide +kernel
theorem dX1_leastUpTo_54 : decode cX1_leastUpTo 54 = .ok (.iload 9, 2) := by decide +kernel
theorem dX1_leastUpTo_56 : decode cX1_leastUpTo 56 = .ok (.iconst 1, 1) := by decide +kernel
theorem dX1_leastUpTo_57 : decode cX1_leastUpTo 57 = .ok (.iadd, 1) := by decide +kernel
theorem dX1_leastUpTo_58 : decode cX1_leastUpTo 58 = .ok (.istore 6, 2) := by decide +kernel
theorem dX1_leastUpTo_60 : decode cX1_leastUpTo 60 = .ok (.iinc 8 1, 3) := by decide +kernel
theorem dX1_leastUpTo_63 : decode cX1_leastUpTo 63 = .ok (.goto (-54), 3) := by decide +kernel
theorem dX1_leastUpTo_66 : decode cX1_leastUpTo 66 = .ok (.iload 7, 2) := by decide +kernel
theorem dX1_leastUpTo_68 : decode cX1_leastUpTo 68 = .ok (.ireturn, 1) := by decide +kernel
theorem dX2_init_0 : decode cX2_init 0 = .ok (.aload_n 0, 1) := by decide +kernel
theorem dX2_init_1 : decode cX2_init 1 = .ok (.invokespecial 3, 3) := by decide +kernel
theorem dX2_init_4 : decode cX2_init 4 = .ok (.aload_n 0, 1) := by decide +kernel
theorem dX2_init_5 : decode cX2_init 5 = .ok (.bipush 9, 2) := by decide +kernel
theorem dX2_init_7 : decode cX2_init 7 = .ok (.newarray .int, 2) := by decide +kernel
theorem dX2_init_9 : decode cX2_init 9 = .ok (.putfield 9, 3) := by decide +kernel
theorem dX2_init_12 : decode cX2_init 12 = .ok (.aload_n 0, 1) := by decide +kernel
theorem dX2_init_13 : decode cX2_init 13 = .ok (.iconst 3, 1) := by decide +kernel
theorem dX2_init_14 : decode cX2_init 14 = .ok (.anewarray 15, 3) := by decide +kernel
theorem dX2_init_17 : decode cX2_init 17 = .ok (.putfield 17, 3) := by decide +kernel
theorem dX2_init_20 : decode cX2_init 20 = .ok (.aload_n 0, 1) := by decide +kernel
theorem dX2_init_21 : decode cX2_init 21 = .ok (.iconst 0, 1) := by decide +kernel
theorem dX2_init_22 : decode cX2_init 22 = .ok (.putfield 21, 3) := by decide +kernel
theorem dX2_init_25 : decode cX2_init 25 = .ok (.aload_n 0, 1) := by decide +kernel
theorem dX2_init_26 : decode cX2_init 26 = .ok (.iconst 0, 1) := by decide +kernel
theorem dX2_init_27 : decode cX2_init 27 = .ok (.putfield 25, 3) := by decide +kernel
theorem dX2_init_30 : decode cX2_init 30 = .ok (.aload_n 0, 1) := by decide +kernel
theorem dX2_init_31 : decode cX2_init 31 = .ok (.iconst 0, 1) := by decide +kernel
theorem dX2_init_32 : decode cX2_init 32 = .ok (.putfield 28, 3) := by decide +kernel
theorem dX2_init_35 : decode cX2_init 35 = .ok (.aload_n 0, 1) := by decide +kernel
theorem dX2_init_36 : decode cX2_init 36 = .ok (.bipush 8, 2) := by decide +kernel
theorem dX2_init_38 : decode cX2_init 38 = .ok (.newarray .int, 2) := by decide +kernel
theorem dX2_init_40 : decode cX2_init 40 = .ok (.putfield 31, 3) := by decide +kernel
theorem dX2_init_43 : decode cX2_init 43 = .ok (.aload_n 0, 1) := by decide +kernel
theorem dX2_init_44 : decode cX2_init 44 = .ok (.bipush 8, 2) := by decide +kernel
theorem dX2_init_46 : decode cX2_init 46 = .ok (.newarray .int, 2) := by decide +kernel
theorem dX2_init_48 : decode cX2_init 48 = .ok (.putfield 34, 3) := by decide +kernel
theorem dX2_init_51 : decode cX2_init 51 = .ok (.aload_n 0, 1) := by decide +kernel
theorem dX2_init_52 : decode cX2_init 52 = .ok (.iconst 4, 1) := by decide +kernel
theorem dX2_init_53 : decode cX2_init 53 = .ok (.newarray .int, 2) := by decide +kernel
theorem dX2_init_55 : decode cX2_init 55 = .ok (.putfield 37, 3) := by decide +kernel
theorem dX2_init_58 : decode cX2_init 58 = .ok (.aload_n 0, 1) := by decide +kernel
theorem dX2_init_59 : decode cX2_init 59 = .ok (.iconst 0, 1) := by decide +kernel
theorem dX2_init_60 : decode cX2_init 60 = .ok (.putfield 40, 3) := by decide +kernel
theorem dX2_init_63 : decode cX2_init 63 = .ok (.aload_n 0, 1) := by decide +kernel
theorem dX2_init_64 : decode cX2_init 64 = .ok (.iconst 0, 1) := by decide +kernel
theorem dX2_init_65 : decode cX2_init 65 = .ok (.putfield 43, 3) := by decide +kernel
theorem dX2_init_68 : decode cX2_init 68 = .ok (.aload_n 0, 1) := by decide +kernel
theorem dX2_init_69 : decode cX2_init 69 = .ok (.iconst 0, 1) := by decide +kernel
theorem dX2_init_70 : decode cX2_init 70 = .ok (.putfield 46, 3) := by decide +kernel
theorem dX2_init_73 : decode cX2_init 73 = .ok (.aload_n 0, 1) := by decide +kernel
theorem dX2_init_74 : decode cX2_init 74 = .ok (.iconst 0, 1) := by decide +kernel
theorem dX2_init_75 : decode cX2_init 75 = .ok (.putfield 49, 3) := by decide +kernel
theorem dX2_init_78 : decode cX2_init 78 = .ok (.aload_n 0, 1) := by decide +kernel
theorem dX2_init_79 : decode cX2_init 79 = .ok (.iconst 0, 1) := by decide +kernel
theorem dX2_init_80 : decode cX2_init 80 = .ok (.putfield 52, 3) := by decide +kernel
theorem dX2_init_83 : decode cX2_init 83 = .ok (.aload_n 0, 1) := by decide +kernel
theorem dX2_init_84 : decode cX2_init 84 = .ok (.iconst 0, 1) := by decide +kernel
theorem dX2_init_85 : decode cX2_init 85 = .ok (.putfield 55, 3) := by decide +kernel
theorem dX2_init_88 : decode cX2_init 88 = .ok (.aload_n 0, 1) := by decide +kernel
theorem dX2_init_89 : decode cX2_init 89 = .ok (.iconst 0, 1) := by decide +kernel
theorem dX2_init_90 : decode cX2_init 90 = .ok (.putfield 58, 3) := by decide +kernel
theorem dX2_init_93 : decode cX2_init 93 = .ok (.aload_n 0, 1) := by decide +kernel
theorem dX2_init_94 : decode cX2_init 94 = .ok (.iconst 0, 1) := by decide +kernel
theorem dX2_init_95 : decode cX2_init 95 = .ok (.putfield 61, 3) := by decide +kernel
theorem dX2_init_98 : decode cX2_init 98 = .ok (.aload_n 0, 1) := by decide +kernel
theorem dX2_init_99 : decode cX2_init 99 = .ok (.iconst (-1), 1) := by decide +kernel
theorem dX2_init_100 : decode cX2_init 100 = .ok (.putfield 64, 3) := by decide +kernel
theorem dX2_init_103 : decode cX2_init 103 = .ok (.iconst 0, 1) := by decide +kernel
theorem dX2_init_104 : decode cX2_init 104 = .ok (.istore_n 1, 1) := by decide +kernel
theorem dX2_init_105 : decode cX2_init 105 = .ok (.iload_n 1, 1) := by decide +kernel
theorem dX2_init_106 : decode cX2_init 106 = .ok (.iconst 3, 1) := by decide +kernel
theorem dX2_init_107 : decode cX2_init 107 = .ok (.if_icmp .ge 22, 3) := by decide +kernel
theorem dX2_init_110 : decode cX2_init 110 = .ok (.aload_n 0, 1) := by decide +kernel
theorem dX2_init_111 : decode cX2_init 111 = .ok (.getfield 17, 3) := by decide +kernel
theorem dX2_init_114 : decode cX2_init 114 = .ok (.iload_n 1, 1) := by decide +kernel
theorem dX2_init_115 : decode cX2_init 115 = .ok (.new 15, 3) := by decide +kernel
theorem dX2_init_118 : decode cX2_init 118 = .ok (.dup, 1) := by decide +kernel
theorem dX2_init_119 : decode cX2_init 119 = .ok (.invokespecial 67, 3) := by decide +kernel
theorem dX2_init_122 : decode cX2_init 122 = .ok (.aastore, 1) := by decide +kernel
theorem dX2_init_123 : decode cX2_init 123 = .ok (.iinc 1 1, 3) := by decide +kernel
theorem dX2_init_126 : decode cX2_init 126 = .ok (.goto (-21), 3) := by decide +kernel
theorem dX2_init_129 : decode cX2_init 129 = .ok (.return_, 1) := by decide +kernel
theorem dX2_begin_0 : decode cX2_begin 0 = .ok (.aload_n 0, 1) := by decide +kernel
theorem dX2_begin_1 : decode cX2_begin 1 = .ok (.aload_n 0, 1) := by decide +kernel
theorem dX2_begin_2 : decode cX2_begin 2 = .ok (.getfield 9, 3) := by decide +kernel
theorem dX2_begin_5 : decode cX2_begin 5 = .ok (.iconst 0, 1) := by decide +kernel
theorem dX2_begin_6 : decode cX2_begin 6 = .ok (.iaload, 1) := by decide +kernel
theorem dX2_begin_7 : decode cX2_begin 7 = .ok (.putfield 25, 3) := by decide +kernel
theorem dX2_begin_10 : decode cX2_begin 10 = .ok (.aload_n 0, 1) := by decide +kernel
theorem dX2_begin_11 : decode cX2_begin 11 = .ok (.aload_n 0, 1) := by decide +kernel
theorem dX2_begin_12 : decode cX2_begin 12 = .ok (.getfield 25, 3) := by decide +kernel
theorem dX2_begin_15 : decode cX2_begin 15 = .ok (.putfield 28, 3) := by decide +kernel
theorem dX2_begin_18 : decode cX2_begin 18 = .ok (.aload_n 0, 1) := by decide +kernel
theorem dX2_begin_19 : decode cX2_begin 19 = .ok (.getfield 31, 3) := by decide +kernel
theorem dX2_begin_22 : decode cX2_begin 22 = .ok (.iconst 0, 1) := by decide +kernel
theorem dX2_begin_23 : decode cX2_begin 23 = .ok (.invokestatic 68, 3) := by decide +kernel
theorem dX2_begin_26 : decode cX2_begin 26 = .ok (.aload_n 0, 1) := by decide +kernel
theorem dX2_begin_27 : decode cX2_begin 27 = .ok (.iconst 0, 1) := by decide +kernel
theorem dX2_begin_28 : decode cX2_begin 28 = .ok (.putfield 40, 3) := by decide +kernel
theorem dX2_begin_31 : decode cX2_begin 31 = .ok (.aload_n 0, 1) := by decide +kernel
theorem dX2_begin_32 : decode cX2_begin 32 = .ok (.iconst 0, 1) := by decide +kernel
theorem dX2_begin_33 : decode cX2_begin 33 = .ok (.putfield 43, 3) := by decide +kernel
theorem dX2_begin_36 : decode cX2_begin 36 = .ok (.aload_n 0, 1) := by decide +kernel
theorem dX2_begin_37 : decode cX2_begin 37 = .ok (.iconst 0, 1) := by decide +kernel
theorem dX2_begin_38 : decode cX2_begin 38 = .ok (.putfield 46, 3) := by decide +kernel
theorem dX2_begin_41 : decode cX2_begin 41 = .ok (.aload_n 0, 1) := by decide +kernel
theorem dX2_begin_42 : decode cX2_begin 42 = .ok (.iconst 0, 1) := by decide +kernel
theorem dX2_begin_43 : decode cX2_begin 43 = .ok (.putfield 49, 3) := by decide +kernel
theorem dX2_begin_46 : decode cX2_begin 46 = .ok (.iconst 0, 1) := by decide +kernel
theorem dX2_begin_47 : decode cX2_begin 47 = .ok (.istore_n 1, 1) := by decide +kernel
theorem dX2_begin_48 : decode cX2_begin 48 = .ok (.iload_n 1, 1) := by decide +kernel
theorem dX2_begin_49 : decode cX2_begin 49 = .ok (.aload_n 0, 1) := by decide +kernel
theorem dX2_begin_50 : decode cX2_begin 50 = .ok (.getfield 21, 3) := by decide +kernel
theorem dX2_begin_53 : decode cX2_begin 53 = .ok (.if_icmp .ge 19, 3) := by decide +kernel
theorem dX2_begin_56 : decode cX2_begin 56 = .ok (.aload_n 0, 1) := by decide +kernel
theorem dX2_begin_57 : decode cX2_begin 57 = .ok (.getfield 17, 3) := by decide +kernel
theorem dX2_begin_60 : decode cX2_begin 60 = .ok (.iload_n 1, 1) := by decide +kernel
theorem dX2_begin_61 : decode cX2_begin 61 = .ok (.aaload, 1) := by decide +kernel
theorem dX2_begin_62 : decode cX2_begin 62 = .ok (.iconst (-1), 1) := by decide +kernel
theorem dX2_begin_63 : decode cX2_begin 63 = .ok (.putfield 74, 3) := by decide +kernel
theorem dX2_begin_66 : decode cX2_begin 66 = .ok (.iinc 1 1, 3) := by decide +kernel
theorem dX2_begin_69 : decode cX2_begin 69 = .ok (.goto (-21), 3) := by decide +kernel
theorem dX2_begin_72 : decode cX2_begin 72 = .ok (.return_, 1) := by decide +kernel
theorem dX2_copyFrom_0 : decode cX2_copyFrom 0 = .ok (.aload_n 0, 1) := by decide +kernel
theorem dX2_copyFrom_1 : decode cX2_copyFrom 1 = .ok (.aload_n 1, 1) := by decide +kernel
theorem dX2_copyFrom_2 : decode cX2_copyFrom 2 = .ok (.invokevirtual 77, 3) := by decide +kernel
theorem dX2_copyFrom_5 : decode cX2_copyFrom 5 = .ok (.aload_n 0, 1) := by decide +kernel
theorem dX2_copyFrom_6 : decode cX2_copyFrom 6 = .ok (.aload_n 1, 1) := by decide +kernel
theorem dX2_copyFrom_7 : decode cX2_copyFrom 7 = .ok (.getfield 25, 3) := by decide +kernel
theorem dX2_copyFrom_10 : decode cX2_copyFrom 10 = .ok (.putfield 25, 3) := by decide +kernel
theorem dX2_copyFrom_13 : decode cX2_copyFrom 13 = .ok (.aload_n 0, 1) := by decide +kernel
theorem dX2_copyFrom_14 : decode cX2_copyFrom 14 = .ok (.aload_n 1, 1) := by decide +kernel
theorem dX2_copyFrom_15 : decode cX2_copyFrom 15 = .ok (.getfield 28, 3) := by decide +kernel
theorem dX2_copyFrom_18 : decode cX2_copyFrom 18 = .ok (.putfield 28, 3) := by decide +kernel
theorem dX2_copyFrom_21 : decode cX2_copyFrom 21 = .ok (.aload_n 1, 1) := by decide +kernel
theorem dX2_copyFrom_22 : decode cX2_copyFrom 22 = .ok (.getfield 31, 3) := by decide +kernel
theorem dX2_copyFrom_25 : decode cX2_copyFrom 25 = .ok (.iconst 0, 1) := by decide +kernel
theorem dX2_copyFrom_26 : decode cX2_copyFrom 26 = .ok (.aload_n 0, 1) := by decide +kernel
theorem dX2_copyFrom_27 : decode cX2_copyFrom 27 = .ok (.getfield 31, 3) := by decide +kernel
theorem dX2_copyFrom_30 : decode cX2_copyFrom 30 = .ok (.iconst 0, 1) := by decide +kernel
theorem dX2_copyFrom_31 : decode cX2_copyFrom 31 = .ok (.bipush 8, 2) := by decide +kernel
theorem dX2_copyFrom_33 : decode cX2_copyFrom 33 = .ok (.invokestatic 81, 3) := by decide +kernel
theorem dX2_copyFrom_36 : decode cX2_copyFrom 36 = .ok (.aload_n 1, 1) := by decide +kernel
theorem dX2_copyFrom_37 : decode cX2_copyFrom 37 = .ok (.getfield 34, 3) := by decide +kernel
theorem dX2_copyFrom_40 : decode cX2_copyFrom 40 = .ok (.iconst 0, 1) := by decide +kernel
theorem dX2_copyFrom_41 : decode cX2_copyFrom 41 = .ok (.aload_n 0, 1) := by decide +kernel
theorem dX2_copyFrom_42 : decode cX2_copyFrom 42 = .ok (.getfield 34, 3) := by decide +kernel
theorem dX2_copyFrom_45 : decode cX2_copyFrom 45 = .ok (.iconst 0, 1) := by decide +kernel
theorem dX2_copyFrom_46 : decode cX2_copyFrom 46 = .ok (.bipush 8, 2) := by decide +kernel
theorem dX2_copyFrom_48 : decode cX2_copyFrom 48 = .ok (.invokestatic 81, 3) := by decide +kernel
theorem dX2_copyFrom_51 : decode cX2_copyFrom 51 = .ok (.aload_n 1, 1) := by decide +kernel
theorem dX2_copyFrom_52 : decode cX2_copyFrom 52 = .ok (.getfield 37, 3) := by decide +kernel
theorem dX2_copyFrom_55 : decode cX2_copyFrom 55 = .ok (.iconst 0, 1) := by decide +kernel
theorem dX2_copyFrom_56 : decode cX2_copyFrom 56 = .ok (.aload_n 0, 1) := by decide +kernel
theorem dX2_copyFrom_57 : decode cX2_copyFrom 57 = .ok (.getfield 37, 3) := by decide +kernel
theorem dX2_copyFrom_60 : decode cX2_copyFrom 60 = .ok (.iconst 0, 1) := by decide +kernel
theorem dX2_copyFrom_61 : decode cX2_copyFrom 61 = .ok (.iconst 4, 1) := by decide +kernel
theorem dX2_copyFrom_62 : decode cX2_copyFrom 62 = .ok (.invokestatic 81, 3) := by decide +kernel
theorem dX2_copyFrom_65 : decode cX2_copyFrom 65 = .ok (.aload_n 0, 1) := by decide +kernel
theorem dX2_copyFrom_66 : decode cX2_copyFrom 66 = .ok (.aload_n 1, 1) := by decide +kernel
theorem dX2_copyFrom_67 : decode cX2_copyFrom 67 = .ok (.getfield 40, 3) := by decide +kernel
theorem dX2_copyFrom_70 : decode cX2_copyFrom 70 = .ok (.putfield 40, 3) := by decide +kernel
theorem dX2_copyFrom_73 : decode cX2_copyFrom 73 = .ok (.aload_n 0, 1) := by decide +kernel
theorem dX2_copyFrom_74 : decode cX2_copyFrom 74 = .ok (.aload_n 1, 1) := by decide +kernel
theorem dX2_copyFrom_75 : decode cX2_copyFrom 75 = .ok (.getfield 43, 3) := by decide +kernel
theorem dX2_copyFrom_78 : decode cX2_copyFrom 78 = .ok (.putfield 43, 3) := by decide +kernel
theorem dX2_copyFrom_81 : decode cX2_copyFrom 81 = .ok (.aload_n 0, 1) := by decide +kernel
theorem dX2_copyFrom_82 : decode cX2_copyFrom 82 = .ok (.aload_n 1, 1) := by decide +kernel
theorem dX2_copyFrom_83 : decode cX2_copyFrom 83 = .ok (.getfield 46, 3) := by decide +kernel
theorem dX2_copyFrom_86 : decode cX2_copyFrom 86 = .ok (.putfield 46, 3) := by decide +kernel
theorem dX2_copyFrom_89 : decode cX2_copyFrom 89 = .ok (.aload_n 0, 1) := by decide +kernel
theorem dX2_copyFrom_90 : decode cX2_copyFrom 90 = .ok (.aload_n 1, 1) := by decide +kernel
theorem dX2_copyFrom_91 : decode cX2_copyFrom 91 = .ok (.getfield 49, 3) := by decide +kernel
theorem dX2_copyFrom_94 : decode cX2_copyFrom 94 = .ok (.putfield 49, 3) := by decide +kernel
theorem dX2_copyFrom_97 : decode cX2_copyFrom 97 = .ok (.iconst 0, 1) := by decide +kernel
theorem dX2_copyFrom_98 : decode cX2_copyFrom 98 = .ok (.istore_n 2, 1) := by decide +kernel
theorem dX2_copyFrom_99 : decode cX2_copyFrom 99 = .ok (.iload_n 2, 1) := by decide +kernel
theorem dX2_copyFrom_100 : decode cX2_copyFrom 100 = .ok (.aload_n 0, 1) := by decide +kernel
theorem dX2_copyFrom_101 : decode cX2_copyFrom 101 = .ok (.getfield 21, 3) := by decide +kernel
theorem dX2_copyFrom_104 : decode cX2_copyFrom 104 = .ok (.if_icmp .ge 52, 3) := by decide +kernel
theorem dX2_copyFrom_107 : decode cX2_copyFrom 107 = .ok (.aload_n 0, 1) := by decide +kernel
theorem dX2_copyFrom_108 : decode cX2_copyFrom 108 = .ok (.getfield 17, 3) := by decide +kernel
theorem dX2_copyFrom_111 : decode cX2_copyFrom 111 = .ok (.iload_n 2, 1) := by decide +kernel
theorem dX2_copyFrom_112 : decode cX2_copyFrom 112 = .ok (.aaload, 1) := by decide +kernel
theorem dX2_copyFrom_113 : decode cX2_copyFrom 113 = .ok (.aload_n 1, 1) := by decide +kernel
theorem dX2_copyFrom_114 : decode cX2_copyFrom 114 = .ok (.getfield 17, 3) := by decide +kernel
theorem dX2_copyFrom_117 : decode cX2_copyFrom 117 = .ok (.iload_n 2, 1) := by decide +kernel
theorem dX2_copyFrom_118 : decode cX2_copyFrom 118 = .ok (.aaload, 1) := by decide +kernel
theorem dX2_copyFrom_119 : decode cX2_copyFrom 119 = .ok (.getfield 74, 3) := by decide +kernel
theorem dX2_copyFrom_122 : decode cX2_copyFrom 122 = .ok (.putfield 74, 3) := by decide +kernel
theorem dX2_copyFrom_125 : decode cX2_copyFrom 125 = .ok (.aload_n 1, 1) := by decide +kernel
theorem dX2_copyFrom_126 : decode cX2_copyFrom 126 = .ok (.getfield 17, 3) := by decide +kernel
theorem dX2_copyFrom_129 : decode cX2_copyFrom 129 = .ok (.iload_n 2, 1) := by decide +kernel
theorem dX2_copyFrom_130 : decode cX2_copyFrom 130 = .ok (.aaload, 1) := by decide +kernel
theorem dX2_copyFrom_131 : decode cX2_copyFrom 131 = .ok (.getfield 87, 3) := by decide +kernel
theorem dX2_copyFrom_134 : decode cX2_copyFrom 134 = .ok (.iconst 0, 1) := by decide +kernel
theorem dX2_copyFrom_135 : decode cX2_copyFrom 135 = .ok (.aload_n 0, 1) := by decide +kernel
theorem dX2_copyFrom_136 : decode cX2_copyFrom 136 = .ok (.getfield 17, 3) := by decide +kernel
theorem dX2_copyFrom_139 : decode cX2_copyFrom 139 = .ok (.iload_n 2, 1) := by decide +kernel
theorem dX2_copyFrom_140 : decode cX2_copyFrom 140 = .ok (.aaload, 1) := by decide +kernel
theorem dX2_copyFrom_141 : decode cX2_copyFrom 141 = .ok (.getfield 87, 3) := by decide +kernel
theorem dX2_copyFrom_144 : decode cX2_copyFrom 144 = .ok (.iconst 0, 1) := by decide +kernel
theorem dX2_copyFrom_145 : decode cX2_copyFrom 145 = .ok (.bipush 32, 2) := by decide +kernel
theorem dX2_copyFrom_147 : decode cX2_copyFrom 147 = .ok (.invokestatic 81, 3) := by decide +kernel
theorem dX2_copyFrom_150 : decode cX2_copyFrom 150 = .ok (.iinc 2 1, 3) := by decide +kernel
theorem dX2_copyFrom_153 : decode cX2_copyFrom 153 = .ok (.goto (-54), 3) := by decide +kernel
theorem dX2_copyFrom_156 : decode cX2_copyFrom 156 = .ok (.return_, 1) := by decide +kernel
theorem dX2_takeShape_0 : decode cX2_takeShape 0 = .ok (.aload_n 1, 1) := by decide +kernel
theorem dX2_takeShape_1 : decode cX2_takeShape 1 = .ok (.getfield 9, 3) := by decide +kernel
theorem dX2_takeShape_4 : decode cX2_takeShape 4 = .ok (.iconst 0, 1) := by decide +kernel
theorem dX2_takeShape_5 : decode cX2_takeShape 5 = .ok (.aload_n 0, 1) := by decide +kernel
theorem dX2_takeShape_6 : decode cX2_takeShape 6 = .ok (.getfield 9, 3) := by decide +kernel
theorem dX2_takeShape_9 : decode cX2_takeShape 9 = .ok (.iconst 0, 1) := by decide +kernel
theorem dX2_takeShape_10 : decode cX2_takeShape 10 = .ok (.bipush 9, 2) := by decide +kernel
theorem dX2_takeShape_12 : decode cX2_takeShape 12 = .ok (.invokestatic 81, 3) := by decide +kernel
theorem dX2_takeShape_15 : decode cX2_takeShape 15 = .ok (.aload_n 0, 1) := by decide +kernel
theorem dX2_takeShape_16 : decode cX2_takeShape 16 = .ok (.aload_n 1, 1) := by decide +kernel
theorem dX2_takeShape_17 : decode cX2_takeShape 17 = .ok (.getfield 21, 3) := by decide +kernel
theorem dX2_takeShape_20 : decode cX2_takeShape 20 = .ok (.putfield 21, 3) := by decide +kernel
theorem dX2_takeShape_23 : decode cX2_takeShape 23 = .ok (.iconst 0, 1) := by decide +kernel
theorem dX2_takeShape_24 : decode cX2_takeShape 24 = .ok (.istore_n 2, 1) := by decide +kernel
theorem dX2_takeShape_25 : decode cX2_takeShape 25 = .ok (.iload_n 2, 1) := by decide +kernel
theorem dX2_takeShape_26 : decode cX2_takeShape 26 = .ok (.aload_n 0, 1) := by decide +kernel
theorem dX2_takeShape_27 : decode cX2_takeShape 27 = .ok (.getfield 21, 3) := by decide +kernel
theorem dX2_takeShape_30 : decode cX2_takeShape 30 = .ok (.if_icmp .ge 45, 3) := by decide +kernel
theorem dX2_takeShape_33 : decode cX2_takeShape 33 = .ok (.aload_n 0, 1) := by decide +kernel
theorem dX2_takeShape_34 : decode cX2_takeShape 34 = .ok (.getfield 17, 3) := by decide +kernel
theorem dX2_takeShape_37 : decode cX2_takeShape 37 = .ok (.iload_n 2, 1) := by decide +kernel
theorem dX2_takeShape_38 : decode cX2_takeShape 38 = .ok (.aaload, 1) := by decide +kernel
theorem dX2_takeShape_39 : decode cX2_takeShape 39 = .ok (.aload_n 1, 1) := by decide +kernel
theorem dX2_takeShape_40 : decode cX2_takeShape 40 = .ok (.getfield 17, 3) := by decide +kernel
theorem dX2_takeShape_43 : decode cX2_takeShape 43 = .ok (.iload_n 2, 1) := by decide +kernel
theorem dX2_takeShape_44 : decode cX2_takeShape 44 = .ok (.aaload, 1) := by decide +kernel
theorem dX2_takeShape_45 : decode cX2_takeShape 45 = .ok (.getfield 90, 3) := by decide +kernel
theorem dX2_takeShape_48 : decode cX2_takeShape 48 = .ok (.putfield 90, 3) := by decide +kernel
theorem dX2_takeShape_51 : decode cX2_takeShape 51 = .ok (.aload_n 0, 1) := by decide +kernel
theorem dX2_takeShape_52 : decode cX2_takeShape 52 = .ok (.getfield 17, 3) := by decide +kernel
theorem dX2_takeShape_55 : decode cX2_takeShape 55 = .ok (.iload_n 2, 1) := by decide +kernel
theorem dX2_takeShape_56 : decode cX2_takeShape 56 = .ok (.aaload, 1) := by decide +kernel
theorem dX2_takeShape_57 : decode cX2_takeShape 57 = .ok (.aload_n 1, 1) := by decide +kernel
theorem dX2_takeShape_58 : decode cX2_takeShape 58 = .ok (.getfield 17, 3) := by decide +kernel
theorem dX2_takeShape_61 : decode cX2_takeShape 61 = .ok (.iload_n 2, 1) := by decide +kernel
theorem dX2_takeShape_62 : decode cX2_takeShape 62 = .ok (.aaload, 1) := by decide +kernel
theorem dX2_takeShape_63 : decode cX2_takeShape 63 = .ok (.getfield 93, 3) := by decide +kernel
theorem dX2_takeShape_66 : decode cX2_takeShape 66 = .ok (.putfield 93, 3) := by decide +kernel
theorem dX2_takeShape_69 : decode cX2_takeShape 69 = .ok (.iinc 2 1, 3) := by decide +kernel
theorem dX2_takeShape_72 : decode cX2_takeShape 72 = .ok (.goto (-47), 3) := by decide +kernel
theorem dX2_takeShape_75 : decode cX2_takeShape 75 = .ok (.return_, 1) := by decide +kernel
theorem dX2_tellValues_0 : decode cX2_tellValues 0 = .ok (.iconst 0, 1) := by decide +kernel
theorem dX2_tellValues_1 : decode cX2_tellValues 1 = .ok (.istore_n 3, 1) := by decide +kernel
theorem dX2_tellValues_2 : decode cX2_tellValues 2 = .ok (.iload_n 3, 1) := by decide +kernel
theorem dX2_tellValues_3 : decode cX2_tellValues 3 = .ok (.aload_n 0, 1) := by decide +kernel
theorem dX2_tellValues_4 : decode cX2_tellValues 4 = .ok (.getfield 21, 3) := by decide +kernel
theorem dX2_tellValues_7 : decode cX2_tellValues 7 = .ok (.if_icmp .ge 32, 3) := by decide +kernel
theorem dX2_tellValues_10 : decode cX2_tellValues 10 = .ok (.aload_n 0, 1) := by decide +kernel
theorem dX2_tellValues_11 : decode cX2_tellValues 11 = .ok (.getfield 17, 3) := by decide +kernel
theorem dX2_tellValues_14 : decode cX2_tellValues 14 = .ok (.iload_n 3, 1) := by decide +kernel
theorem dX2_tellValues_15 : decode cX2_tellValues 15 = .ok (.aaload, 1) := by decide +kernel
theorem dX2_tellValues_16 : decode cX2_tellValues 16 = .ok (.aload_n 1, 1) := by decide +kernel
theorem dX2_tellValues_17 : decode cX2_tellValues 17 = .ok (.getfield 17, 3) := by decide +kernel
theorem dX2_tellValues_20 : decode cX2_tellValues 20 = .ok (.iload_n 3, 1) := by decide +kernel
theorem dX2_tellValues_21 : decode cX2_tellValues 21 = .ok (.aaload, 1) := by decide +kernel
theorem dX2_tellValues_22 : decode cX2_tellValues 22 = .ok (.getfield 87, 3) := by decide +kernel
theorem dX2_tellValues_25 : decode cX2_tellValues 25 = .ok (.iload_n 2, 1) := by decide +kernel
theorem dX2_tellValues_26 : decode cX2_tellValues 26 = .ok (.bipush 31, 2) := by decide +kernel
theorem dX2_tellValues_28 : decode cX2_tellValues 28 = .ok (.iand, 1) := by decide +kernel
theorem dX2_tellValues_29 : decode cX2_tellValues 29 = .ok (.iaload, 1) := by decide +kernel
theorem dX2_tellValues_30 : decode cX2_tellValues 30 = .ok (.putfield 74, 3) := by decide +kernel
theorem dX2_tellValues_33 : decode cX2_tellValues 33 = .ok (.iinc 3 1, 3) := by decide +kernel
theorem dX2_tellValues_36 : decode cX2_tellValues 36 = .ok (.goto (-34), 3) := by decide +kernel
theorem dX2_tellValues_39 : decode cX2_tellValues 39 = .ok (.return_, 1) := by decide +kernel
theorem dX2_readyIn_0 : decode cX2_readyIn 0 = .ok (.aload_n 0, 1) := by decide +kernel
theorem dX2_readyIn_1 : decode cX2_readyIn 1 = .ok (.getfield 28, 3) := by decide +kernel
theorem dX2_readyIn_4 : decode cX2_readyIn 4 = .ok (.aload_n 0, 1) := by decide +kernel
theorem dX2_readyIn_5 : decode cX2_readyIn 5 = .ok (.getfield 31, 3) := by decide +kernel
theorem dX2_readyIn_8 : decode cX2_readyIn 8 = .ok (.iload_n 1, 1) := by decide +kernel
theorem dX2_readyIn_9 : decode cX2_readyIn 9 = .ok (.bipush 7, 2) := by decide +kernel
theorem dX2_readyIn_11 : decode cX2_readyIn 11 = .ok (.iand, 1) := by decide +kernel
theorem dX2_readyIn_12 : decode cX2_readyIn 12 = .ok (.iaload, 1) := by decide +kernel
theorem dX2_readyIn_13 : decode cX2_readyIn 13 = .ok (.iadd, 1) := by decide +kernel
theorem dX2_readyIn_14 : decode cX2_readyIn 14 = .ok (.ireturn, 1) := by decide +kernel
theorem dX2_nextReadyRound_0 : decode cX2_nextReadyRound 0 = .ok (.iconst 0, 1) := by decide +kernel
theorem dX2_nextReadyRound_1 : decode cX2_nextReadyRound 1 = .ok (.istore_n 2, 1) := by decide +kernel
theorem dX2_nextReadyRound_2 : decode cX2_nextReadyRound 2 = .ok (.iload_n 2, 1) := by decide +kernel
theorem dX2_nextReadyRound_3 : decode cX2_nextReadyRound 3 = .ok (.bipush 6, 2) := by decide +kernel
theorem dX2_nextReadyRound_5 : decode cX2_nextReadyRound 5 = .ok (.if_icmp .gt 27, 3) := by decide +kernel
theorem dX2_nextReadyRound_8 : decode cX2_nextReadyRound 8 = .ok (.aload_n 0, 1) := by decide +kernel
theorem dX2_nextReadyRound_9 : decode cX2_nextReadyRound 9 = .ok (.getfield 31, 3) := by decide +kernel
theorem dX2_nextReadyRound_12 : decode cX2_nextReadyRound 12 = .ok (.iload_n 1, 1) := by decide +kernel
theorem dX2_nextReadyRound_13 : decode cX2_nextReadyRound 13 = .ok (.iload_n 2, 1) := by decide +kernel
theorem dX2_nextReadyRound_14 : decode cX2_nextReadyRound 14 = .ok (.iadd, 1) := by decide +kernel
theorem dX2_nextReadyRound_15 : decode cX2_nextReadyRound 15 = .ok (.bipush 7, 2) := by decide +kernel
theorem dX2_nextReadyRound_17 : decode cX2_nextReadyRound 17 = .ok (.iand, 1) := by decide +kernel
theorem dX2_nextReadyRound_18 : decode cX2_nextReadyRound 18 = .ok (.iaload, 1) := by decide +kernel
theorem dX2_nextReadyRound_19 : decode cX2_nextReadyRound 19 = .ok (.ifCond .le 7, 3) := by decide +kernel
theorem dX2_nextReadyRound_22 : decode cX2_nextReadyRound 22 = .ok (.iload_n 1, 1) := by decide +kernel
theorem dX2_nextReadyRound_23 : decode cX2_nextReadyRound 23 = .ok (.iload_n 2, 1) := by decide +kernel
theorem dX2_nextReadyRound_24 : decode cX2_nextReadyRound 24 = .ok (.iadd, 1) := by decide +kernel
theorem dX2_nextReadyRound_25 : decode cX2_nextReadyRound 25 = .ok (.ireturn, 1) := by decide +kernel
theorem dX2_nextReadyRound_26 : decode cX2_nextReadyRound 26 = .ok (.iinc 2 1, 3) := by decide +kernel
theorem dX2_nextReadyRound_29 : decode cX2_nextReadyRound 29 = .ok (.goto (-27), 3) := by decide +kernel
theorem dX2_nextReadyRound_32 : decode cX2_nextReadyRound 32 = .ok (.iconst (-1), 1) := by decide +kernel
theorem dX2_nextReadyRound_33 : decode cX2_nextReadyRound 33 = .ok (.ireturn, 1) := by decide +kernel
theorem dX2_wake_0 : decode cX2_wake 0 = .ok (.aload_n 0, 1) := by decide +kernel
theorem dX2_wake_1 : decode cX2_wake 1 = .ok (.dup, 1) := by decide +kernel
theorem dX2_wake_2 : decode cX2_wake 2 = .ok (.getfield 28, 3) := by decide +kernel
theorem dX2_wake_5 : decode cX2_wake 5 = .ok (.aload_n 0, 1) := by decide +kernel
theorem dX2_wake_6 : decode cX2_wake 6 = .ok (.getfield 31, 3) := by decide +kernel
theorem dX2_wake_9 : decode cX2_wake 9 = .ok (.iload_n 1, 1) := by decide +kernel
theorem dX2_wake_10 : decode cX2_wake 10 = .ok (.bipush 7, 2) := by decide +kernel
theorem dX2_wake_12 : decode cX2_wake 12 = .ok (.iand, 1) := by decide +kernel
theorem dX2_wake_13 : decode cX2_wake 13 = .ok (.iaload, 1) := by decide +kernel
theorem dX2_wake_14 : decode cX2_wake 14 = .ok (.iadd, 1) := by decide +kernel
theorem dX2_wake_15 : decode cX2_wake 15 = .ok (.putfield 28, 3) := by decide +kernel
theorem dX2_wake_18 : decode cX2_wake 18 = .ok (.aload_n 0, 1) := by decide +kernel
theorem dX2_wake_19 : decode cX2_wake 19 = .ok (.getfield 31, 3) := by decide +kernel
theorem dX2_wake_22 : decode cX2_wake 22 = .ok (.iload_n 1, 1) := by decide +kernel
theorem dX2_wake_23 : decode cX2_wake 23 = .ok (.bipush 7, 2) := by decide +kernel
theorem dX2_wake_25 : decode cX2_wake 25 = .ok (.iand, 1) := by decide +kernel
theorem dX2_wake_26 : decode cX2_wake 26 = .ok (.iconst 0, 1) := by decide +kernel
theorem dX2_wake_27 : decode cX2_wake 27 = .ok (.iastore, 1) := by decide +kernel
theorem dX2_wake_28 : decode cX2_wake 28 = .ok (.return_, 1) := by decide +kernel
theorem dX2_plan_0 : decode cX2_plan 0 = .ok (.aload_n 0, 1) := by decide +kernel
theorem dX2_plan_1 : decode cX2_plan 1 = .ok (.aload_n 0, 1) := by decide +kernel
theorem dX2_plan_2 : decode cX2_plan 2 = .ok (.iload_n 1, 1) := by decide +kernel
theorem dX2_plan_3 : decode cX2_plan 3 = .ok (.invokevirtual 96, 3) := by decide +kernel
theorem dX2_plan_6 : decode cX2_plan 6 = .ok (.putfield 55, 3) := by decide +kernel
theorem dX2_plan_9 : decode cX2_plan 9 = .ok (.aload_n 0, 1) := by decide +kernel
theorem dX2_plan_10 : decode cX2_plan 10 = .ok (.aload_n 0, 1) := by decide +kernel
theorem dX2_plan_11 : decode cX2_plan 11 = .ok (.iload_n 1, 1) := by decide +kernel
theorem dX2_plan_12 : decode cX2_plan 12 = .ok (.invokevirtual 100, 3) := by decide +kernel
theorem dX2_plan_15 : decode cX2_plan 15 = .ok (.putfield 58, 3) := by decide +kernel
theorem dX2_plan_18 : decode cX2_plan 18 = .ok (.aload_n 0, 1) := by decide +kernel
theorem dX2_plan_19 : decode cX2_plan 19 = .ok (.aload_n 0, 1) := by decide +kernel
theorem dX2_plan_20 : decode cX2_plan 20 = .ok (.getfield 58, 3) := by decide +kernel
theorem dX2_plan_23 : decode cX2_plan 23 = .ok (.aload_n 0, 1) := by decide +kernel
theorem dX2_plan_24 : decode cX2_plan 24 = .ok (.getfield 9, 3) := by decide +kernel
theorem dX2_plan_27 : decode cX2_plan 27 = .ok (.iconst 0, 1) := by decide +kernel
theorem dX2_plan_28 : decode cX2_plan 28 = .ok (.iaload, 1) := by decide +kernel
theorem dX2_plan_29 : decode cX2_plan 29 = .ok (.invokestatic 103, 3) := by decide +kernel
theorem dX2_plan_32 : decode cX2_plan 32 = .ok (.aload_n 0, 1) := by decide +kernel
theorem dX2_plan_33 : decode cX2_plan 33 = .ok (.getfield 9, 3) := by decide +kernel
theorem dX2_plan_36 : decode cX2_plan 36 = .ok (.iconst 1, 1) := by decide +kernel
theorem dX2_plan_37 : decode cX2_plan 37 = .ok (.iaload, 1) := by decide +kernel
theorem dX2_plan_38 : decode cX2_plan 38 = .ok (.invokestatic 109, 3) := by decide +kernel
theorem dX2_plan_41 : decode cX2_plan 41 = .ok (.putfield 61, 3) := by decide +kernel
theorem dX2_plan_44 : decode cX2_plan 44 = .ok (.aload_n 0, 1) := by decide +kernel
theorem dX2_plan_45 : decode cX2_plan 45 = .ok (.iconst (-1), 1) := by decide +kernel
theorem dX2_plan_46 : decode cX2_plan 46 = .ok (.putfield 64, 3) := by decide +kernel
theorem dX2_plan_49 : decode cX2_plan 49 = .ok (.aload_n 0, 1) := by decide +kernel
theorem dX2_plan_50 : decode cX2_plan 50 = .ok (.getfield 37, 3) := by decide +kernel
theorem dX2_plan_53 : decode cX2_plan 53 = .ok (.iload_n 1, 1) := by decide +kernel
theorem dX2_plan_54 : decode cX2_plan 54 = .ok (.iconst 3, 1) := by decide +kernel
theorem dX2_plan_55 : decode cX2_plan 55 = .ok (.iand, 1) := by decide +kernel
theorem dX2_plan_56 : decode cX2_plan 56 = .ok (.iconst 0, 1) := by decide +kernel
theorem dX2_plan_57 : decode cX2_plan 57 = .ok (.iastore, 1) := by decide +kernel
theorem dX2_plan_58 : decode cX2_plan 58 = .ok (.return_, 1) := by decide +kernel
theorem dX2_steadied_0 : decode cX2_steadied 0 = .ok (.aload_n 0, 1) := by decide +kernel
theorem dX2_steadied_1 : decode cX2_steadied 1 = .ok (.getfield 52, 3) := by decide +kernel
theorem dX2_steadied_4 : decode cX2_steadied 4 = .ok (.istore_n 2, 1) := by decide +kernel
theorem dX2_steadied_5 : decode cX2_steadied 5 = .ok (.aload_n 0, 1) := by decide +kernel
theorem dX2_steadied_6 : decode cX2_steadied 6 = .ok (.getfield 52, 3) := by decide +kernel
theorem dX2_steadied_9 : decode cX2_steadied 9 = .ok (.istore_n 3, 1) := by decide +kernel
theorem dX2_steadied_10 : decode cX2_steadied 10 = .ok (.iconst 1, 1) := by decide +kernel
theorem dX2_steadied_11 : decode cX2_steadied 11 = .ok (.istore 4, 2) := by decide +kernel
theorem dX2_steadied_13 : decode cX2_steadied 13 = .ok (.iload 4, 2) := by decide +kernel
theorem dX2_steadied_15 : decode cX2_steadied 15 = .ok (.bipush 6, 2) := by decide +kernel
theorem dX2_steadied_17 : decode cX2_steadied 17 = .ok (.if_icmp .ge 65, 3) := by decide +kernel
theorem dX2_steadied_20 : decode cX2_steadied 20 = .ok (.iload 4, 2) := by decide +kernel
theorem dX2_steadied_22 : decode cX2_steadied 22 = .ok (.iload_n 1, 1) := by decide +kernel
theorem dX2_steadied_23 : decode cX2_steadied 23 = .ok (.if_icmp .gt 59, 3) := by decide +kernel
theorem dX2_steadied_26 : decode cX2_steadied 26 = .ok (.aload_n 0, 1) := by decide +kernel
theorem dX2_steadied_27 : decode cX2_steadied 27 = .ok (.getfield 34, 3) := by decide +kernel
theorem dX2_steadied_30 : decode cX2_steadied 30 = .ok (.iload_n 1, 1) := by decide +kernel
theorem dX2_steadied_31 : decode cX2_steadied 31 = .ok (.iload 4, 2) := by decide +kernel
theorem dX2_steadied_33 : decode cX2_steadied 33 = .ok (.isub, 1) := by decide +kernel
theorem dX2_steadied_34 : decode cX2_steadied 34 = .ok (.bipush 7, 2) := by decide +kernel
theorem dX2_steadied_36 : decode cX2_steadied 36 = .ok (.iand, 1) := by decide +kernel
theorem dX2_steadied_37 : decode cX2_steadied 37 = .ok (.iaload, 1) := by decide +kernel
theorem dX2_steadied_38 : decode cX2_steadied 38 = .ok (.istore 5, 2) := by decide +kernel
theorem dX2_steadied_40 : decode cX2_steadied 40 = .ok (.iload 4, 2) := by decide +kernel
theorem dX2_steadied_42 : decode cX2_steadied 42 = .ok (.aload_n 0, 1) := by decide +kernel
theorem dX2_steadied_43 : decode cX2_steadied 43 = .ok (.getfield 9, 3) := by decide +kernel
theorem dX2_steadied_46 : decode cX2_steadied 46 = .ok (.iconst 3, 1) := by decide +kernel
theorem dX2_steadied_47 : decode cX2_steadied 47 = .ok (.iaload, 1) := by decide +kernel
theorem dX2_steadied_48 : decode cX2_steadied 48 = .ok (.if_icmp .ge 10, 3) := by decide +kernel
theorem dX2_steadied_51 : decode cX2_steadied 51 = .ok (.iload_n 2, 1) := by decide +kernel
theorem dX2_steadied_52 : decode cX2_steadied 52 = .ok (.iload 5, 2) := by decide +kernel
theorem dX2_steadied_54 : decode cX2_steadied 54 = .ok (.invokestatic 109, 3) := by decide +kernel
theorem dX2_steadied_57 : decode cX2_steadied 57 = .ok (.istore_n 2, 1) := by decide +kernel
theorem dX2_steadied_58 : decode cX2_steadied 58 = .ok (.iload 4, 2) := by decide +kernel
theorem dX2_steadied_60 : decode cX2_steadied 60 = .ok (.aload_n 0, 1) := by decide +kernel
theorem dX2_steadied_61 : decode cX2_steadied 61 = .ok (.getfield 9, 3) := by decide +kernel
theorem dX2_steadied_64 : decode cX2_steadied 64 = .ok (.iconst 4, 1) := by decide +kernel
theorem dX2_steadied_65 : decode cX2_steadied 65 = .ok (.iaload, 1) := by decide +kernel
theorem dX2_steadied_66 : decode cX2_steadied 66 = .ok (.if_icmp .ge 10, 3) := by decide +kernel
theorem dX2_steadied_69 : decode cX2_steadied 69 = .ok (.iload_n 3, 1) := by decide +kernel
theorem dX2_steadied_70 : decode cX2_steadied 70 = .ok (.iload 5, 2) := by decide +kernel
theorem dX2_steadied_72 : decode cX2_steadied 72 = .ok (.invokestatic 103, 3) := by decide +kernel
theorem dX2_steadied_75 : decode cX2_steadied 75 = .ok (.istore_n 3, 1) := by decide +kernel
theorem dX2_steadied_76 : decode cX2_steadied 76 = .ok (.iinc 4 1, 3) := by decide +kernel
theorem dX2_steadied_79 : decode cX2_steadied 79 = .ok (.goto (-66), 3) := by decide +kernel
theorem dX2_steadied_82 : decode cX2_steadied 82 = .ok (.aload_n 0, 1) := by decide +kernel
theorem dX2_steadied_83 : decode cX2_steadied 83 = .ok (.getfield 25, 3) := by decide +kernel
theorem dX2_steadied_86 : decode cX2_steadied 86 = .ok (.iload_n 2, 1) := by decide +kernel
theorem dX2_steadied_87 : decode cX2_steadied 87 = .ok (.if_icmp .ge 5, 3) := by decide +kernel
theorem dX2_steadied_90 : decode cX2_steadied 90 = .ok (.iload_n 2, 1) := by decide +kernel
theorem dX2_steadied_91 : decode cX2_steadied 91 = .ok (.ireturn, 1) := by decide +kernel
theorem dX2_steadied_92 : decode cX2_steadied 92 = .ok (.aload_n 0, 1) := by decide +kernel
theorem dX2_steadied_93 : decode cX2_steadied 93 = .ok (.getfield 25, 3) := by decide +kernel
theorem dX2_steadied_96 : decode cX2_steadied 96 = .ok (.iload_n 3, 1) := by decide +kernel
theorem dX2_steadied_97 : decode cX2_steadied 97 = .ok (.invokestatic 109, 3) := by decide +kernel
theorem dX2_steadied_100 : decode cX2_steadied 100 = .ok (.ireturn, 1) := by decide +kernel
theorem dX2_bounded_0 : decode cX2_bounded 0 = .ok (.iconst 0, 1) := by decide +kernel
theorem dX2_bounded_1 : decode cX2_bounded 1 = .ok (.istore_n 2, 1) := by decide +kernel
theorem dX2_bounded_2 : decode cX2_bounded 2 = .ok (.iconst 0, 1) := by decide +kernel
theorem dX2_bounded_3 : decode cX2_bounded 3 = .ok (.istore_n 3, 1) := by decide +kernel
theorem dX2_bounded_4 : decode cX2_bounded 4 = .ok (.iconst 1, 1) := by decide +kernel
theorem dX2_bounded_5 : decode cX2_bounded 5 = .ok (.istore 4, 2) := by decide +kernel
theorem dX2_bounded_7 : decode cX2_bounded 7 = .ok (.iload 4, 2) := by decide +kernel
theorem dX2_bounded_9 : decode cX2_bounded 9 = .ok (.aload_n 0, 1) := by decide +kernel
theorem dX2_bounded_10 : decode cX2_bounded 10 = .ok (.getfield 9, 3) := by decide +kernel
theorem dX2_bounded_13 : decode cX2_bounded 13 = .ok (.bipush 8, 2) := by decide +kernel
theorem dX2_bounded_15 : decode cX2_bounded 15 = .ok (.iaload, 1) := by decide +kernel
theorem dX2_bounded_16 : decode cX2_bounded 16 = .ok (.if_icmp .ge 47, 3) := by decide +kernel
theorem dX2_bounded_19 : decode cX2_bounded 19 = .ok (.iload 4, 2) := by decide +kernel
theorem dX2_bounded_21 : decode cX2_bounded 21 = .ok (.iload_n 1, 1) := by decide +kernel
theorem dX2_bounded_22 : decode cX2_bounded 22 = .ok (.if_icmp .gt 41, 3) := by decide +kernel
theorem dX2_bounded_25 : decode cX2_bounded 25 = .ok (.aload_n 0, 1) := by decide +kernel
theorem dX2_bounded_26 : decode cX2_bounded 26 = .ok (.getfield 37, 3) := by decide +kernel
theorem dX2_bounded_29 : decode cX2_bounded 29 = .ok (.iload_n 1, 1) := by decide +kernel
theorem dX2_bounded_30 : decode cX2_bounded 30 = .ok (.iload 4, 2) := by decide +kernel
theorem dX2_bounded_32 : decode cX2_bounded 32 = .ok (.isub, 1) := by decide +kernel
theorem dX2_bounded_33 : decode cX2_bounded 33 = .ok (.iconst 3, 1) := by decide +kernel
theorem dX2_bounded_34 : decode cX2_bounded 34 = .ok (.iand, 1) := by decide +kernel
theorem dX2_bounded_35 : decode cX2_bounded 35 = .ok (.iaload, 1) := by decide +kernel
theorem dX2_bounded_36 : decode cX2_bounded 36 = .ok (.istore 5, 2) := by decide +kernel
theorem dX2_bounded_38 : decode cX2_bounded 38 = .ok (.iload_n 2, 1) := by decide +kernel
theorem dX2_bounded_39 : decode cX2_bounded 39 = .ok (.iload 5, 2) := by decide +kernel
theorem dX2_bounded_41 : decode cX2_bounded 41 = .ok (.iconst 0, 1) := by decide +kernel
theorem dX2_bounded_42 : decode cX2_bounded 42 = .ok (.invokestatic 103, 3) := by decide +kernel
theorem dX2_bounded_45 : decode cX2_bounded 45 = .ok (.iadd, 1) := by decide +kernel
theorem dX2_bounded_46 : decode cX2_bounded 46 = .ok (.istore_n 2, 1) := by decide +kernel
theorem dX2_bounded_47 : decode cX2_bounded 47 = .ok (.iload_n 3, 1) := by decide +kernel
theorem dX2_bounded_48 : decode cX2_bounded 48 = .ok (.iload 5, 2) := by decide +kernel
theorem dX2_bounded_50 : decode cX2_bounded 50 = .ok (.ineg, 1) := by decide +kernel
theorem dX2_bounded_51 : decode cX2_bounded 51 = .ok (.iconst 0, 1) := by decide +kernel
theorem dX2_bounded_52 : decode cX2_bounded 52 = .ok (.invokestatic 103, 3) := by decide +kernel
theorem dX2_bounded_55 : decode cX2_bounded 55 = .ok (.iadd, 1) := by decide +kernel
theorem dX2_bounded_56 : decode cX2_bounded 56 = .ok (.istore_n 3, 1) := by decide +kernel
theorem dX2_bounded_57 : decode cX2_bounded 57 = .ok (.iinc 4 1, 3) := by decide +kernel
theorem dX2_bounded_60 : decode cX2_bounded 60 = .ok (.goto (-53), 3) := by decide +kernel
theorem dX2_bounded_63 : decode cX2_bounded 63 = .ok (.aload_n 0, 1) := by decide +kernel
theorem dX2_bounded_64 : decode cX2_bounded 64 = .ok (.getfield 55, 3) := by decide +kernel
theorem dX2_bounded_67 : decode cX2_bounded 67 = .ok (.aload_n 0, 1) := by decide +kernel
theorem dX2_bounded_68 : decode cX2_bounded 68 = .ok (.getfield 25, 3) := by decide +kernel
theorem dX2_bounded_71 : decode cX2_bounded 71 = .ok (.if_icmp .ge 36, 3) := by decide +kernel
theorem dX2_bounded_74 : decode cX2_bounded 74 = .ok (.aload_n 0, 1) := by decide +kernel
theorem dX2_bounded_75 : decode cX2_bounded 75 = .ok (.getfield 25, 3) := by decide +kernel
theorem dX2_bounded_78 : decode cX2_bounded 78 = .ok (.iload_n 3, 1) := by decide +kernel
theorem dX2_bounded_79 : decode cX2_bounded 79 = .ok (.iadd, 1) := by decide +kernel
theorem dX2_bounded_80 : decode cX2_bounded 80 = .ok (.aload_n 0, 1) := by decide +kernel
theorem dX2_bounded_81 : decode cX2_bounded 81 = .ok (.getfield 9, 3) := by decide +kernel
theorem dX2_bounded_84 : decode cX2_bounded 84 = .ok (.bipush 7, 2) := by decide +kernel
theorem dX2_bounded_86 : decode cX2_bounded 86 = .ok (.iaload, 1) := by decide +kernel
theorem dX2_bounded_87 : decode cX2_bounded 87 = .ok (.isub, 1) := by decide +kernel
theorem dX2_bounded_88 : decode cX2_bounded 88 = .ok (.istore 4, 2) := by decide +kernel
theorem dX2_bounded_90 : decode cX2_bounded 90 = .ok (.aload_n 0, 1) := by decide +kernel
theorem dX2_bounded_91 : decode cX2_bounded 91 = .ok (.getfield 55, 3) := by decide +kernel
theorem dX2_bounded_94 : decode cX2_bounded 94 = .ok (.iload 4, 2) := by decide +kernel
theorem dX2_bounded_96 : decode cX2_bounded 96 = .ok (.invokestatic 103, 3) := by decide +kernel
theorem dX2_bounded_99 : decode cX2_bounded 99 = .ok (.aload_n 0, 1) := by decide +kernel
theorem dX2_bounded_100 : decode cX2_bounded 100 = .ok (.getfield 25, 3) := by decide +kernel
theorem dX2_bounded_103 : decode cX2_bounded 103 = .ok (.invokestatic 109, 3) := by decide +kernel
theorem dX2_bounded_106 : decode cX2_bounded 106 = .ok (.ireturn, 1) := by decide +kernel
theorem dX2_bounded_107 : decode cX2_bounded 107 = .ok (.aload_n 0, 1) := by decide +kernel
theorem dX2_bounded_108 : decode cX2_bounded 108 = .ok (.getfield 25, 3) := by decide +kernel
theorem dX2_bounded_111 : decode cX2_bounded 111 = .ok (.iload_n 2, 1) := by decide +kernel
theorem dX2_bounded_112 : decode cX2_bounded 112 = .ok (.isub, 1) := by decide +kernel
theorem dX2_bounded_113 : decode cX2_bounded 113 = .ok (.iconst 0, 1) := by decide +kernel
theorem dX2_bounded_114 : decode cX2_bounded 114 = .ok (.invokestatic 103, 3) := by decide +kernel
theorem dX2_bounded_117 : decode cX2_bounded 117 = .ok (.istore 4, 2) := by decide +kernel
theorem dX2_bounded_119 : decode cX2_bounded 119 = .ok (.iload 4, 2) := by decide +kernel
theorem dX2_bounded_121 : decode cX2_bounded 121 = .ok (.aload_n 0, 1) := by decide +kernel
theorem dX2_bounded_122 : decode cX2_bounded 122 = .ok (.getfield 9, 3) := by decide +kernel
theorem dX2_bounded_125 : decode cX2_bounded 125 = .ok (.iconst 5, 1) := by decide +kernel
theorem dX2_bounded_126 : decode cX2_bounded 126 = .ok (.iaload, 1) := by decide +kernel
theorem dX2_bounded_127 : decode cX2_bounded 127 = .ok (.iload 4, 2) := by decide +kernel
theorem dX2_bounded_129 : decode cX2_bounded 129 = .ok (.aload_n 0, 1) := by decide +kernel
theorem dX2_bounded_130 : decode cX2_bounded 130 = .ok (.getfield 9, 3) := by decide +kernel
theorem dX2_bounded_133 : decode cX2_bounded 133 = .ok (.bipush 6, 2) := by decide +kernel
theorem dX2_bounded_135 : decode cX2_bounded 135 = .ok (.iaload, 1) := by decide +kernel
theorem dX2_bounded_136 : decode cX2_bounded 136 = .ok (.imul, 1) := by decide +kernel
theorem dX2_bounded_137 : decode cX2_bounded 137 = .ok (.bipush 100, 2) := by decide +kernel
theorem dX2_bounded_139 : decode cX2_bounded 139 = .ok (.invokestatic 112, 3) := by decide +kernel
theorem dX2_bounded_142 : decode cX2_bounded 142 = .ok (.invokestatic 103, 3) := by decide +kernel
theorem dX2_bounded_145 : decode cX2_bounded 145 = .ok (.iadd, 1) := by decide +kernel
theorem dX2_bounded_146 : decode cX2_bounded 146 = .ok (.istore 5, 2) := by decide +kernel
theorem dX2_bounded_148 : decode cX2_bounded 148 = .ok (.aload_n 0, 1) := by decide +kernel
theorem dX2_bounded_149 : decode cX2_bounded 149 = .ok (.getfield 55, 3) := by decide +kernel
theorem dX2_bounded_152 : decode cX2_bounded 152 = .ok (.iload 5, 2) := by decide +kernel
theorem dX2_bounded_154 : decode cX2_bounded 154 = .ok (.invokestatic 109, 3) := by decide +kernel
theorem dX2_bounded_157 : decode cX2_bounded 157 = .ok (.aload_n 0, 1) := by decide +kernel
theorem dX2_bounded_158 : decode cX2_bounded 158 = .ok (.getfield 25, 3) := by decide +kernel
theorem dX2_bounded_161 : decode cX2_bounded 161 = .ok (.invokestatic 103, 3) := by decide +kernel
theorem dX2_bounded_164 : decode cX2_bounded 164 = .ok (.ireturn, 1) := by decide +kernel
theorem dX2_giveUpTooMany_0 : decode cX2_giveUpTooMany 0 = .ok (.aload_n 0, 1) := by decide +kernel
theorem dX2_giveUpTooMany_1 : decode cX2_giveUpTooMany 1 = .ok (.getfield 25, 3) := by decide +kernel
theorem dX2_giveUpTooMany_4 : decode cX2_giveUpTooMany 4 = .ok (.aload_n 0, 1) := by decide +kernel
theorem dX2_giveUpTooMany_5 : decode cX2_giveUpTooMany 5 = .ok (.getfield 61, 3) := by decide +kernel
theorem dX2_giveUpTooMany_8 : decode cX2_giveUpTooMany 8 = .ok (.if_icmp .gt 4, 3) := by decide +kernel
theorem dX2_giveUpTooMany_11 : decode cX2_giveUpTooMany 11 = .ok (.return_, 1) := by decide +kernel
theorem dX2_giveUpTooMany_12 : decode cX2_giveUpTooMany 12 = .ok (.aload_n 0, 1) := by decide +kernel
theorem dX2_giveUpTooMany_13 : decode cX2_giveUpTooMany 13 = .ok (.getfield 25, 3) := by decide +kernel
theorem dX2_giveUpTooMany_16 : decode cX2_giveUpTooMany 16 = .ok (.aload_n 0, 1) := by decide +kernel
theorem dX2_giveUpTooMany_17 : decode cX2_giveUpTooMany 17 = .ok (.getfield 61, 3) := by decide +kernel
theorem dX2_giveUpTooMany_20 : decode cX2_giveUpTooMany 20 = .ok (.isub, 1) := by decide +kernel
theorem dX2_giveUpTooMany_21 : decode cX2_giveUpTooMany 21 = .ok (.istore_n 2, 1) := by decide +kernel
theorem dX2_giveUpTooMany_22 : decode cX2_giveUpTooMany 22 = .ok (.aload_n 0, 1) := by decide +kernel
theorem dX2_giveUpTooMany_23 : decode cX2_giveUpTooMany 23 = .ok (.getfield 37, 3) := by decide +kernel
theorem dX2_giveUpTooMany_26 : decode cX2_giveUpTooMany 26 = .ok (.iload_n 1, 1) := by decide +kernel
theorem dX2_giveUpTooMany_27 : decode cX2_giveUpTooMany 27 = .ok (.iconst 3, 1) := by decide +kernel
theorem dX2_giveUpTooMany_28 : decode cX2_giveUpTooMany 28 = .ok (.iand, 1) := by decide +kernel
theorem dX2_giveUpTooMany_29 : decode cX2_giveUpTooMany 29 = .ok (.iload_n 2, 1) := by decide +kernel
theorem dX2_giveUpTooMany_30 : decode cX2_giveUpTooMany 30 = .ok (.ineg, 1) := by decide +kernel
theorem dX2_giveUpTooMany_31 : decode cX2_giveUpTooMany 31 = .ok (.iastore, 1) := by decide +kernel
theorem dX2_giveUpTooMany_32 : decode cX2_giveUpTooMany 32 = .ok (.bipush 6, 2) := by decide +kernel
theorem dX2_giveUpTooMany_34 : decode cX2_giveUpTooMany 34 = .ok (.istore_n 3, 1) := by decide +kernel
theorem dX2_giveUpTooMany_35 : decode cX2_giveUpTooMany 35 = .ok (.iload_n 3, 1) := by decide +kernel
theorem dX2_giveUpTooMany_36 : decode cX2_giveUpTooMany 36 = .ok (.ifCond .le 47, 3) := by decide +kernel
theorem dX2_giveUpTooMany_39 : decode cX2_giveUpTooMany 39 = .ok (.iload_n 1, 1) := by decide +kernel
theorem dX2_giveUpTooMany_40 : decode cX2_giveUpTooMany 40 = .ok (.iload_n 3, 1) := by decide +kernel
theorem dX2_giveUpTooMany_41 : decode cX2_giveUpTooMany 41 = .ok (.iadd, 1) := by decide +kernel
theorem dX2_giveUpTooMany_42 : decode cX2_giveUpTooMany 42 = .ok (.bipush 7, 2) := by decide +kernel
theorem dX2_giveUpTooMany_44 : decode cX2_giveUpTooMany 44 = .ok (.iand, 1) := by decide +kernel
theorem dX2_giveUpTooMany_45 : decode cX2_giveUpTooMany 45 = .ok (.istore 4, 2) := by decide +kernel
theorem dX2_giveUpTooMany_47 : decode cX2_giveUpTooMany 47 = .ok (.aload_n 0, 1) := by decide +kernel
theorem dX2_giveUpTooMany_48 : decode cX2_giveUpTooMany 48 = .ok (.getfield 31, 3) := by decide +kernel
theorem dX2_giveUpTooMany_51 : decode cX2_giveUpTooMany 51 = .ok (.iload 4, 2) := by decide +kernel
theorem dX2_giveUpTooMany_53 : decode cX2_giveUpTooMany 53 = .ok (.iaload, 1) := by decide +kernel
theorem dX2_giveUpTooMany_54 : decode cX2_giveUpTooMany 54 = .ok (.iload_n 2, 1) := by decide +kernel
theorem dX2_giveUpTooMany_55 : decode cX2_giveUpTooMany 55 = .ok (.invokestatic 109, 3) := by decide +kernel
theorem dX2_giveUpTooMany_58 : decode cX2_giveUpTooMany 58 = .ok (.istore 5, 2) := by decide +kernel
theorem dX2_giveUpTooMany_60 : decode cX2_giveUpTooMany 60 = .ok (.aload_n 0, 1) := by decide +kernel
theorem dX2_giveUpTooMany_61 : decode cX2_giveUpTooMany 61 = .ok (.getfield 31, 3) := by decide +kernel
theorem dX2_giveUpTooMany_64 : decode cX2_giveUpTooMany 64 = .ok (.iload 4, 2) := by decide +kernel
theorem dX2_giveUpTooMany_66 : decode cX2_giveUpTooMany 66 = .ok (.dup2, 1) := by decide +kernel
theorem dX2_giveUpTooMany_67 : decode cX2_giveUpTooMany 67 = .ok (.iaload, 1) := by decide +kernel
theorem dX2_giveUpTooMany_68 : decode cX2_giveUpTooMany 68 = .ok (.iload 5, 2) := by decide +kernel
theorem dX2_giveUpTooMany_70 : decode cX2_giveUpTooMany 70 = .ok (.isub, 1) := by decide +kernel
theorem dX2_giveUpTooMany_71 : decode cX2_giveUpTooMany 71 = .ok (.iastore, 1) := by decide +kernel
theorem dX2_giveUpTooMany_72 : decode cX2_giveUpTooMany 72 = .ok (.iload_n 2, 1) := by decide +kernel
theorem dX2_giveUpTooMany_73 : decode cX2_giveUpTooMany 73 = .ok (.iload 5, 2) := by decide +kernel
theorem dX2_giveUpTooMany_75 : decode cX2_giveUpTooMany 75 = .ok (.isub, 1) := by decide +kernel
theorem dX2_giveUpTooMany_76 : decode cX2_giveUpTooMany 76 = .ok (.istore_n 2, 1) := by decide +kernel
theorem dX2_giveUpTooMany_77 : decode cX2_giveUpTooMany 77 = .ok (.iinc 3 (-1), 3) := by decide +kernel
theorem dX2_giveUpTooMany_80 : decode cX2_giveUpTooMany 80 = .ok (.goto (-45), 3) := by decide +kernel
theorem dX2_giveUpTooMany_83 : decode cX2_giveUpTooMany 83 = .ok (.aload_n 0, 1) := by decide +kernel
theorem dX2_giveUpTooMany_84 : decode cX2_giveUpTooMany 84 = .ok (.dup, 1) := by decide +kernel
theorem dX2_giveUpTooMany_85 : decode cX2_giveUpTooMany 85 = .ok (.getfield 28, 3) := by decide +kernel
theorem dX2_giveUpTooMany_88 : decode cX2_giveUpTooMany 88 = .ok (.iload_n 2, 1) := by decide +kernel
theorem dX2_giveUpTooMany_89 : decode cX2_giveUpTooMany 89 = .ok (.isub, 1) := by decide +kernel
theorem dX2_giveUpTooMany_90 : decode cX2_giveUpTooMany 90 = .ok (.putfield 28, 3) := by decide +kernel
theorem dX2_giveUpTooMany_93 : decode cX2_giveUpTooMany 93 = .ok (.aload_n 0, 1) := by decide +kernel
theorem dX2_giveUpTooMany_94 : decode cX2_giveUpTooMany 94 = .ok (.aload_n 0, 1) := by decide +kernel
theorem dX2_giveUpTooMany_95 : decode cX2_giveUpTooMany 95 = .ok (.getfield 61, 3) := by decide +kernel
theorem dX2_giveUpTooMany_98 : decode cX2_giveUpTooMany 98 = .ok (.putfield 25, 3) := by decide +kernel
theorem dX2_giveUpTooMany_101 : decode cX2_giveUpTooMany 101 = .ok (.return_, 1) := by decide +kernel
theorem dX2_goesBefore_0 : decode cX2_goesBefore 0 = .ok (.aload_n 0, 1) := by decide +kernel
theorem dX2_goesBefore_1 : decode cX2_goesBefore 1 = .ok (.getfield 9, 3) := by decide +kernel
theorem dX2_goesBefore_4 : decode cX2_goesBefore 4 = .ok (.iconst 2, 1) := by decide +kernel
theorem dX2_goesBefore_5 : decode cX2_goesBefore 5 = .ok (.iaload, 1) := by decide +kernel
theorem dX2_goesBefore_6 : decode cX2_goesBefore 6 = .ok (.aload_n 1, 1) := by decide +kernel
theorem dX2_goesBefore_7 : decode cX2_goesBefore 7 = .ok (.getfield 9, 3) := by decide +kernel
theorem dX2_goesBefore_10 : decode cX2_goesBefore 10 = .ok (.iconst 2, 1) := by decide +kernel
theorem dX2_goesBefore_11 : decode cX2_goesBefore 11 = .ok (.iaload, 1) := by decide +kernel
theorem dX2_goesBefore_12 : decode cX2_goesBefore 12 = .ok (.if_icmp .eq 24, 3) := by decide +kernel
theorem dX2_goesBefore_15 : decode cX2_goesBefore 15 = .ok (.aload_n 0, 1) := by decide +kernel
theorem dX2_goesBefore_16 : decode cX2_goesBefore 16 = .ok (.getfield 9, 3) := by decide +kernel
theorem dX2_goesBefore_19 : decode cX2_goesBefore 19 = .ok (.iconst 2, 1) := by decide +kernel
theorem dX2_goesBefore_20 : decode cX2_goesBefore 20 = .ok (.iaload, 1) := by decide +kernel
theorem dX2_goesBefore_21 : decode cX2_goesBefore 21 = .ok (.aload_n 1, 1) := by decide +kernel
theorem dX2_goesBefore_22 : decode cX2_goesBefore 22 = .ok (.getfield 9, 3) := by decide +kernel
theorem dX2_goesBefore_25 : decode cX2_goesBefore 25 = .ok (.iconst 2, 1) := by decide +kernel
theorem dX2_goesBefore_26 : decode cX2_goesBefore 26 = .ok (.iaload, 1) := by decide +kernel
theorem dX2_goesBefore_27 : decode cX2_goesBefore 27 = .ok (.if_icmp .le 7, 3) := by decide +kernel
theorem dX2_goesBefore_30 : decode cX2_goesBefore 30 = .ok (.iconst 1, 1) := by decide +kernel
theorem dX2_goesBefore_31 : decode cX2_goesBefore 31 = .ok (.goto 4, 3) := by decide +kernel
theorem dX2_goesBefore_34 : decode cX2_goesBefore 34 = .ok (.iconst 0, 1) := by decide +kernel
theorem dX2_goesBefore_35 : decode cX2_goesBefore 35 = .ok (.ireturn, 1) := by decide +kernel
theorem dX2_goesBefore_36 : decode cX2_goesBefore 36 = .ok (.aload_n 0, 1) := by decide +kernel
theorem dX2_goesBefore_37 : decode cX2_goesBefore 37 = .ok (.getfield 25, 3) := by decide +kernel
theorem dX2_goesBefore_40 : decode cX2_goesBefore 40 = .ok (.aload_n 1, 1) := by decide +kernel
theorem dX2_goesBefore_41 : decode cX2_goesBefore 41 = .ok (.getfield 61, 3) := by decide +kernel
theorem dX2_goesBefore_44 : decode cX2_goesBefore 44 = .ok (.imul, 1) := by decide +kernel
theorem dX2_goesBefore_45 : decode cX2_goesBefore 45 = .ok (.aload_n 1, 1) := by decide +kernel
theorem dX2_goesBefore_46 : decode cX2_goesBefore 46 = .ok (.getfield 25, 3) := by decide +kernel
theorem dX2_goesBefore_49 : decode cX2_goesBefore 49 = .ok (.aload_n 0, 1) := by decide +kernel
theorem dX2_goesBefore_50 : decode cX2_goesBefore 50 = .ok (.getfield 61, 3) := by decide +kernel
theorem dX2_goesBefore_53 : decode cX2_goesBefore 53 = .ok (.imul, 1) := by decide +kernel
theorem dX2_goesBefore_54 : decode cX2_goesBefore 54 = .ok (.if_icmp .ge 7, 3) := by decide +kernel
theorem dX2_goesBefore_57 : decode cX2_goesBefore 57 = .ok (.iconst 1, 1) := by decide +kernel
theorem dX2_goesBefore_58 : decode cX2_goesBefore 58 = .ok (.goto 4, 3) := by decide +kernel
theorem dX2_goesBefore_61 : decode cX2_goesBefore 61 = .ok (.iconst 0, 1) := by decide +kernel
theorem dX2_goesBefore_62 : decode cX2_goesBefore 62 = .ok (.ireturn, 1) := by decide +kernel
theorem dX2_get_0 : decode cX2_get 0 = .ok (.aload_n 0, 1) := by decide +kernel
theorem dX2_get_1 : decode cX2_get 1 = .ok (.getfield 31, 3) := by decide +kernel
theorem dX2_get_4 : decode cX2_get 4 = .ok (.iload_n 1, 1) := by decide +kernel
theorem dX2_get_5 : decode cX2_get 5 = .ok (.iconst 1, 1) := by decide +kernel
theorem dX2_get_6 : decode cX2_get 6 = .ok (.iadd, 1) := by decide +kernel
theorem dX2_get_7 : decode cX2_get 7 = .ok (.bipush 7, 2) := by decide +kernel
theorem dX2_get_9 : decode cX2_get 9 = .ok (.iand, 1) := by decide +kernel
theorem dX2_get_10 : decode cX2_get 10 = .ok (.dup2, 1) := by decide +kernel
theorem dX2_get_11 : decode cX2_get 11 = .ok (.iaload, 1) := by decide +kernel
theorem dX2_get_12 : decode cX2_get 12 = .ok (.iload_n 3, 1) := by decide +kernel
theorem dX2_get_13 : decode cX2_get 13 = .ok (.iadd, 1) := by decide +kernel
theorem dX2_get_14 : decode cX2_get 14 = .ok (.iastore, 1) := by decide +kernel
theorem dX2_get_15 : decode cX2_get 15 = .ok (.aload_n 0, 1) := by decide +kernel
theorem dX2_get_16 : decode cX2_get 16 = .ok (.getfield 31, 3) := by decide +kernel
theorem dX2_get_19 : decode cX2_get 19 = .ok (.iload_n 1, 1) := by decide +kernel
theorem dX2_get_20 : decode cX2_get 20 = .ok (.iload 4, 2) := by decide +kernel
theorem dX2_get_22 : decode cX2_get 22 = .ok (.iadd, 1) := by decide +kernel
theorem dX2_get_23 : decode cX2_get 23 = .ok (.bipush 7, 2) := by decide +kernel
theorem dX2_get_25 : decode cX2_get 25 = .ok (.iand, 1) := by decide +kernel
theorem dX2_get_26 : decode cX2_get 26 = .ok (.dup2, 1) := by decide +kernel
theorem dX2_get_27 : decode cX2_get 27 = .ok (.iaload, 1) := by decide +kernel
theorem dX2_get_28 : decode cX2_get 28 = .ok (.iload_n 2, 1) := by decide +kernel
theorem dX2_get_29 : decode cX2_get 29 = .ok (.iload_n 3, 1) := by decide +kernel
theorem dX2_get_30 : decode cX2_get 30 = .ok (.isub, 1) := by decide +kernel
theorem dX2_get_31 : decode cX2_get 31 = .ok (.iadd, 1) := by decide +kernel
theorem dX2_get_32 : decode cX2_get 32 = .ok (.iastore, 1) := by decide +kernel
theorem dX2_get_33 : decode cX2_get 33 = .ok (.aload_n 0, 1) := by decide +kernel
theorem dX2_get_34 : decode cX2_get 34 = .ok (.dup, 1) := by decide +kernel
theorem dX2_get_35 : decode cX2_get 35 = .ok (.getfield 25, 3) := by decide +kernel
theorem dX2_get_38 : decode cX2_get 38 = .ok (.iload_n 2, 1) := by decide +kernel
theorem dX2_get_39 : decode cX2_get 39 = .ok (.iadd, 1) := by decide +kernel
theorem dX2_get_40 : decode cX2_get 40 = .ok (.putfield 25, 3) := by decide +kernel
theorem dX2_get_43 : decode cX2_get 43 = .ok (.aload_n 0, 1) := by decide +kernel
theorem dX2_get_44 : decode cX2_get 44 = .ok (.getfield 37, 3) := by decide +kernel
theorem dX2_get_47 : decode cX2_get 47 = .ok (.iload_n 1, 1) := by decide +kernel
theorem dX2_get_48 : decode cX2_get 48 = .ok (.iconst 3, 1) := by decide +kernel
theorem dX2_get_49 : decode cX2_get 49 = .ok (.iand, 1) := by decide +kernel
theorem dX2_get_50 : decode cX2_get 50 = .ok (.iload_n 2, 1) := by decide +kernel
theorem dX2_get_51 : decode cX2_get 51 = .ok (.iastore, 1) := by decide +kernel
theorem dX2_get_52 : decode cX2_get 52 = .ok (.return_, 1) := by decide +kernel
theorem dX2_close_0 : decode cX2_close 0 = .ok (.aload_n 0, 1) := by decide +kernel
theorem dX2_close_1 : decode cX2_close 1 = .ok (.dup, 1) := by decide +kernel
theorem dX2_close_2 : decode cX2_close 2 = .ok (.getfield 43, 3) := by decide +kernel
theorem dX2_close_5 : decode cX2_close 5 = .ok (.aload_n 0, 1) := by decide +kernel
theorem dX2_close_6 : decode cX2_close 6 = .ok (.getfield 25, 3) := by decide +kernel
theorem dX2_close_9 : decode cX2_close 9 = .ok (.iadd, 1) := by decide +kernel
theorem dX2_close_10 : decode cX2_close 10 = .ok (.putfield 43, 3) := by decide +kernel
theorem dX2_close_13 : decode cX2_close 13 = .ok (.aload_n 0, 1) := by decide +kernel
theorem dX2_close_14 : decode cX2_close 14 = .ok (.dup, 1) := by decide +kernel
theorem dX2_close_15 : decode cX2_close 15 = .ok (.getfield 46, 3) := by decide +kernel
theorem dX2_close_18 : decode cX2_close 18 = .ok (.aload_n 0, 1) := by decide +kernel
theorem dX2_close_19 : decode cX2_close 19 = .ok (.getfield 52, 3) := by decide +kernel
theorem dX2_close_22 : decode cX2_close 22 = .ok (.aload_n 0, 1) := by decide +kernel
theorem dX2_close_23 : decode cX2_close 23 = .ok (.getfield 28, 3) := by decide +kernel
theorem dX2_close_26 : decode cX2_close 26 = .ok (.isub, 1) := by decide +kernel
theorem dX2_close_27 : decode cX2_close 27 = .ok (.iconst 0, 1) := by decide +kernel
theorem dX2_close_28 : decode cX2_close 28 = .ok (.invokestatic 103, 3) := by decide +kernel
theorem dX2_close_31 : decode cX2_close 31 = .ok (.iadd, 1) := by decide +kernel
theorem dX2_close_32 : decode cX2_close 32 = .ok (.putfield 46, 3) := by decide +kernel
theorem dX2_close_35 : decode cX2_close 35 = .ok (.aload_n 0, 1) := by decide +kernel
theorem dX2_close_36 : decode cX2_close 36 = .ok (.getfield 37, 3) := by decide +kernel
theorem dX2_close_39 : decode cX2_close 39 = .ok (.iload_n 1, 1) := by decide +kernel
theorem dX2_close_40 : decode cX2_close 40 = .ok (.iconst 3, 1) := by decide +kernel
theorem dX2_close_41 : decode cX2_close 41 = .ok (.iand, 1) := by decide +kernel
theorem dX2_close_42 : decode cX2_close 42 = .ok (.iaload, 1) := by decide +kernel
theorem dX2_close_43 : decode cX2_close 43 = .ok (.istore_n 2, 1) := by decide +kernel
theorem dX2_close_44 : decode cX2_close 44 = .ok (.iload_n 2, 1) := by decide +kernel
theorem dX2_close_45 : decode cX2_close 45 = .ok (.ifCond .le 10, 3) := by decide +kernel
theorem dX2_close_48 : decode cX2_close 48 = .ok (.aload_n 0, 1) := by decide +kernel
theorem dX2_close_49 : decode cX2_close 49 = .ok (.getfield 40, 3) := by decide +kernel
theorem dX2_close_52 : decode cX2_close 52 = .ok (.ifCond .lt 14, 3) := by decide +kernel
theorem dX2_close_55 : decode cX2_close 55 = .ok (.iload_n 2, 1) := by decide +kernel
theorem dX2_close_56 : decode cX2_close 56 = .ok (.ifCond .ge 20, 3) := by decide +kernel
theorem dX2_close_59 : decode cX2_close 59 = .ok (.aload_n 0, 1) := by decide +kernel
theorem dX2_close_60 : decode cX2_close 60 = .ok (.getfield 40, 3) := by decide +kernel
theorem dX2_close_63 : decode cX2_close 63 = .ok (.ifCond .le 13, 3) := by decide +kernel
theorem dX2_close_66 : decode cX2_close 66 = .ok (.aload_n 0, 1) := by decide +kernel
theorem dX2_close_67 : decode cX2_close 67 = .ok (.dup, 1) := by decide +kernel
theorem dX2_close_68 : decode cX2_close 68 = .ok (.getfield 49, 3) := by decide +kernel
theorem dX2_close_71 : decode cX2_close 71 = .ok (.iconst 1, 1) := by decide +kernel
theorem dX2_close_72 : decode cX2_close 72 = .ok (.iadd, 1) := by decide +kernel
theorem dX2_close_73 : decode cX2_close 73 = .ok (.putfield 49, 3) := by decide +kernel
theorem dX2_close_76 : decode cX2_close 76 = .ok (.iload_n 2, 1) := by decide +kernel
theorem dX2_close_77 : decode cX2_close 77 = .ok (.ifCond .eq 8, 3) := by decide +kernel
theorem dX2_close_80 : decode cX2_close 80 = .ok (.aload_n 0, 1) := by decide +kernel
theorem dX2_close_81 : decode cX2_close 81 = .ok (.iload_n 2, 1) := by decide +kernel
theorem dX2_close_82 : decode cX2_close 82 = .ok (.putfield 40, 3) := by decide +kernel
theorem dX2_close_85 : decode cX2_close 85 = .ok (.aload_n 0, 1) := by decide +kernel
theorem dX2_close_86 : decode cX2_close 86 = .ok (.getfield 34, 3) := by decide +kernel
theorem dX2_close_89 : decode cX2_close 89 = .ok (.iload_n 1, 1) := by decide +kernel
theorem dX2_close_90 : decode cX2_close 90 = .ok (.bipush 7, 2) := by decide +kernel
theorem dX2_close_92 : decode cX2_close 92 = .ok (.iand, 1) := by decide +kernel
theorem dX2_close_93 : decode cX2_close 93 = .ok (.aload_n 0, 1) := by decide +kernel
theorem dX2_close_94 : decode cX2_close 94 = .ok (.getfield 52, 3) := by decide +kernel
theorem dX2_close_97 : decode cX2_close 97 = .ok (.iastore, 1) := by decide +kernel
theorem dX2_close_98 : decode cX2_close 98 = .ok (.iconst 0, 1) := by decide +kernel
theorem dX2_close_99 : decode cX2_close 99 = .ok (.istore_n 3, 1) := by decide +kernel
theorem dX2_close_100 : decode cX2_close 100 = .ok (.iload_n 3, 1) := by decide +kernel
theorem dX2_close_101 : decode cX2_close 101 = .ok (.aload_n 0, 1) := by decide +kernel
theorem dX2_close_102 : decode cX2_close 102 = .ok (.getfield 21, 3) := by decide +kernel
theorem dX2_close_105 : decode cX2_close 105 = .ok (.if_icmp .ge 32, 3) := by decide +kernel
theorem dX2_close_108 : decode cX2_close 108 = .ok (.aload_n 0, 1) := by decide +kernel
theorem dX2_close_109 : decode cX2_close 109 = .ok (.getfield 17, 3) := by decide +kernel
theorem dX2_close_112 : decode cX2_close 112 = .ok (.iload_n 3, 1) := by decide +kernel
theorem dX2_close_113 : decode cX2_close 113 = .ok (.aaload, 1) := by decide +kernel
theorem dX2_close_114 : decode cX2_close 114 = .ok (.getfield 87, 3) := by decide +kernel
theorem dX2_close_117 : decode cX2_close 117 = .ok (.iload_n 1, 1) := by decide +kernel
theorem dX2_close_118 : decode cX2_close 118 = .ok (.bipush 31, 2) := by decide +kernel
theorem dX2_close_120 : decode cX2_close 120 = .ok (.iand, 1) := by decide +kernel
theorem dX2_close_121 : decode cX2_close 121 = .ok (.aload_n 0, 1) := by decide +kernel
theorem dX2_close_122 : decode cX2_close 122 = .ok (.getfield 17, 3) := by decide +kernel
theorem dX2_close_125 : decode cX2_close 125 = .ok (.iload_n 3, 1) := by decide +kernel
theorem dX2_close_126 : decode cX2_close 126 = .ok (.aaload, 1) := by decide +kernel
theorem dX2_close_127 : decode cX2_close 127 = .ok (.getfield 74, 3) := by decide +kernel
theorem dX2_close_130 : decode cX2_close 130 = .ok (.iastore, 1) := by decide +kernel
theorem dX2_close_131 : decode cX2_close 131 = .ok (.iinc 3 1, 3) := by decide +kernel
theorem dX2_close_134 : decode cX2_close 134 = .ok (.goto (-34), 3) := by decide +kernel
theorem dX2_close_137 : decode cX2_close 137 = .ok (.return_, 1) := by decide +kernel
theorem dX2_isHeldBy_0 : decode cX2_isHeldBy 0 = .ok (.iload_n 1, 1) := by decide +kernel
theorem dX2_isHeldBy_1 : decode cX2_isHeldBy 1 = .ok (.tableswitch 99 1 4 #[82, 65, 48, 31], 31) := by decide +kernel
theorem dX2_isHeldBy_32 : decode cX2_isHeldBy 32 = .ok (.aload_n 0, 1) := by decide +kernel
theorem dX2_isHeldBy_33 : decode cX2_isHeldBy 33 = .ok (.getfield 25, 3) := by decide +kernel
theorem dX2_isHeldBy_36 : decode cX2_isHeldBy 36 = .ok (.aload_n 0, 1) := by decide +kernel
theorem dX2_isHeldBy_37 : decode cX2_isHeldBy 37 = .ok (.getfield 61, 3) := by decide +kernel
theorem dX2_isHeldBy_40 : decode cX2_isHeldBy 40 = .ok (.if_icmp .ge 7, 3) := by decide +kernel
theorem dX2_isHeldBy_43 : decode cX2_isHeldBy 43 = .ok (.iconst 1, 1) := by decide +kernel
theorem dX2_isHeldBy_44 : decode cX2_isHeldBy 44 = .ok (.goto 4, 3) := by decide +kernel
theorem dX2_isHeldBy_47 : decode cX2_isHeldBy 47 = .ok (.iconst 0, 1) := by decide +kernel
theorem dX2_isHeldBy_48 : decode cX2_isHeldBy 48 = .ok (.ireturn, 1) := by decide +kernel
theorem dX2_isHeldBy_49 : decode cX2_isHeldBy 49 = .ok (.aload_n 0, 1) := by decide +kernel
theorem dX2_isHeldBy_50 : decode cX2_isHeldBy 50 = .ok (.getfield 61, 3) := by decide +kernel
theorem dX2_isHeldBy_53 : decode cX2_isHeldBy 53 = .ok (.aload_n 0, 1) := by decide +kernel
theorem dX2_isHeldBy_54 : decode cX2_isHeldBy 54 = .ok (.getfield 58, 3) := by decide +kernel
theorem dX2_isHeldBy_57 : decode cX2_isHeldBy 57 = .ok (.if_icmp .eq 7, 3) := by decide +kernel
theorem dX2_isHeldBy_60 : decode cX2_isHeldBy 60 = .ok (.iconst 1, 1) := by decide +kernel
theorem dX2_isHeldBy_61 : decode cX2_isHeldBy 61 = .ok (.goto 4, 3) := by decide +kernel
theorem dX2_isHeldBy_64 : decode cX2_isHeldBy 64 = .ok (.iconst 0, 1) := by decide +kernel
theorem dX2_isHeldBy_65 : decode cX2_isHeldBy 65 = .ok (.ireturn, 1) := by decide +kernel
theorem dX2_isHeldBy_66 : decode cX2_isHeldBy 66 = .ok (.aload_n 0, 1) := by decide +kernel
theorem dX2_isHeldBy_67 : decode cX2_isHeldBy 67 = .ok (.getfield 58, 3) := by decide +kernel
theorem dX2_isHeldBy_70 : decode cX2_isHeldBy 70 = .ok (.aload_n 0, 1) := by decide +kernel
theorem dX2_isHeldBy_71 : decode cX2_isHeldBy 71 = .ok (.getfield 55, 3) := by decide +kernel
theorem dX2_isHeldBy_74 : decode cX2_isHeldBy 74 = .ok (.if_icmp .eq 7, 3) := by decide +kernel
theorem dX2_isHeldBy_77 : decode cX2_isHeldBy 77 = .ok (.iconst 1, 1) := by decide +kernel
theorem dX2_isHeldBy_78 : decode cX2_isHeldBy 78 = .ok (.goto 4, 3) := by decide +kernel
theorem dX2_isHeldBy_81 : decode cX2_isHeldBy 81 = .ok (.iconst 0, 1) := by decide +kernel
theorem dX2_isHeldBy_82 : decode cX2_isHeldBy 82 = .ok (.ireturn, 1) := by decide +kernel
theorem dX2_isHeldBy_83 : decode cX2_isHeldBy 83 = .ok (.aload_n 0, 1) := by decide +kernel
theorem dX2_isHeldBy_84 : decode cX2_isHeldBy 84 = .ok (.getfield 55, 3) := by decide +kernel
theorem dX2_isHeldBy_87 : decode cX2_isHeldBy 87 = .ok (.aload_n 0, 1) := by decide +kernel
theorem dX2_isHeldBy_88 : decode cX2_isHeldBy 88 = .ok (.getfield 52, 3) := by decide +kernel
theorem dX2_isHeldBy_91 : decode cX2_isHeldBy 91 = .ok (.if_icmp .eq 7, 3) := by decide +kernel
theorem dX2_isHeldBy_94 : decode cX2_isHeldBy 94 = .ok (.iconst 1, 1) := by decide +kernel
theorem dX2_isHeldBy_95 : decode cX2_isHeldBy 95 = .ok (.goto 4, 3) := by decide +kernel
theorem dX2_isHeldBy_98 : decode cX2_isHeldBy 98 = .ok (.iconst 0, 1) := by decide +kernel
theorem dX2_isHeldBy_99 : decode cX2_isHeldBy 99 = .ok (.ireturn, 1) := by decide +kernel
theorem dX2_isHeldBy_100 : decode cX2_isHeldBy 100 = .ok (.iconst 0, 1) := by decide +kernel
theorem dX2_isHeldBy_101 : decode cX2_isHeldBy 101 = .ok (.ireturn, 1) := by decide +kernel
theorem dX3_init_0 : decode cX3_init 0 = .ok (.aload_n 0, 1) := by decide +kernel
theorem dX3_init_1 : decode cX3_init 1 = .ok (.invokespecial 3, 3) := by decide +kernel
theorem dX3_init_4 : decode cX3_init 4 = .ok (.aload_n 0, 1) := by decide +kernel
theorem dX3_init_5 : decode cX3_init 5 = .ok (.sipush 160, 3) := by decide +kernel
theorem dX3_init_8 : decode cX3_init 8 = .ok (.newarray .int, 2) := by decide +kernel
theorem dX3_init_10 : decode cX3_init 10 = .ok (.putfield 9, 3) := by decide +kernel
theorem dX3_init_13 : decode cX3_init 13 = .ok (.aload_n 0, 1) := by decide +kernel
theorem dX3_init_14 : decode cX3_init 14 = .ok (.iconst 0, 1) := by decide +kernel
theorem dX3_init_15 : decode cX3_init 15 = .ok (.putfield 15, 3) := by decide +kernel
theorem dX3_init_18 : decode cX3_init 18 = .ok (.aload_n 0, 1) := by decide +kernel
theorem dX3_init_19 : decode cX3_init 19 = .ok (.iconst 0, 1) := by decide +kernel
theorem dX3_init_20 : decode cX3_init 20 = .ok (.putfield 19, 3) := by decide +kernel
theorem dX3_init_23 : decode cX3_init 23 = .ok (.aload_n 0, 1) := by decide +kernel
theorem dX3_init_24 : decode cX3_init 24 = .ok (.iconst 0, 1) := by decide +kernel
theorem dX3_init_25 : decode cX3_init 25 = .ok (.putfield 22, 3) := by decide +kernel
theorem dX3_init_28 : decode cX3_init 28 = .ok (.aload_n 0, 1) := by decide +kernel
theorem dX3_init_29 : decode cX3_init 29 = .ok (.iconst (-1), 1) := by decide +kernel
theorem dX3_init_30 : decode cX3_init 30 = .ok (.putfield 25, 3) := by decide +kernel
theorem dX3_init_33 : decode cX3_init 33 = .ok (.aload_n 0, 1) := by decide +kernel
theorem dX3_init_34 : decode cX3_init 34 = .ok (.iconst 0, 1) := by decide +kernel
theorem dX3_init_35 : decode cX3_init 35 = .ok (.putfield 28, 3) := by decide +kernel
theorem dX3_init_38 : decode cX3_init 38 = .ok (.aload_n 0, 1) := by decide +kernel
theorem dX3_init_39 : decode cX3_init 39 = .ok (.iconst 0, 1) := by decide +kernel
theorem dX3_init_40 : decode cX3_init 40 = .ok (.putfield 31, 3) := by decide +kernel
theorem dX3_init_43 : decode cX3_init 43 = .ok (.return_, 1) := by decide +kernel
theorem dX3_takesIn_0 : decode cX3_takesIn 0 = .ok (.aload_n 0, 1) := by decide +kernel
theorem dX3_takesIn_1 : decode cX3_takesIn 1 = .ok (.getfield 15, 3) := by decide +kernel
theorem dX3_takesIn_4 : decode cX3_takesIn 4 = .ok (.sipush 160, 3) := by decide +kernel
theorem dX3_takesIn_7 : decode cX3_takesIn 7 = .ok (.if_icmp .lt 5, 3) := by decide +kernel
theorem dX3_takesIn_10 : decode cX3_takesIn 10 = .ok (.iconst 0, 1) := by decide +kernel
theorem dX3_takesIn_11 : decode cX3_takesIn 11 = .ok (.ireturn, 1) := by decide +kernel
theorem dX3_takesIn_12 : decode cX3_takesIn 12 = .ok (.aload_n 0, 1) := by decide +kernel
theorem dX3_takesIn_13 : decode cX3_takesIn 13 = .ok (.getfield 9, 3) := by decide +kernel
theorem dX3_takesIn_16 : decode cX3_takesIn 16 = .ok (.aload_n 0, 1) := by decide +kernel
theorem dX3_takesIn_17 : decode cX3_takesIn 17 = .ok (.getfield 15, 3) := by decide +kernel
theorem dX3_takesIn_20 : decode cX3_takesIn 20 = .ok (.iload_n 1, 1) := by decide +kernel
theorem dX3_takesIn_21 : decode cX3_takesIn 21 = .ok (.iastore, 1) := by decide +kernel
theorem dX3_takesIn_22 : decode cX3_takesIn 22 = .ok (.aload_n 0, 1) := by decide +kernel
theorem dX3_takesIn_23 : decode cX3_takesIn 23 = .ok (.dup, 1) := by decide +kernel
theorem dX3_takesIn_24 : decode cX3_takesIn 24 = .ok (.getfield 15, 3) := by decide +kernel
theorem dX3_takesIn_27 : decode cX3_takesIn 27 = .ok (.iconst 1, 1) := by decide +kernel
theorem dX3_takesIn_28 : decode cX3_takesIn 28 = .ok (.iadd, 1) := by decide +kernel
theorem dX3_takesIn_29 : decode cX3_takesIn 29 = .ok (.putfield 15, 3) := by decide +kernel
theorem dX3_takesIn_32 : decode cX3_takesIn 32 = .ok (.iconst 1, 1) := by decide +kernel
theorem dX3_takesIn_33 : decode cX3_takesIn 33 = .ok (.ireturn, 1) := by decide +kernel
theorem dX3_readInto_0 : decode cX3_readInto 0 = .ok (.aload_n 0, 1) := by decide +kernel
theorem dX3_readInto_1 : decode cX3_readInto 1 = .ok (.iconst 0, 1) := by decide +kernel
theorem dX3_readInto_2 : decode cX3_readInto 2 = .ok (.putfield 19, 3) := by decide +kernel
theorem dX3_readInto_5 : decode cX3_readInto 5 = .ok (.aload_n 0, 1) := by decide +kernel
theorem dX3_readInto_6 : decode cX3_readInto 6 = .ok (.iconst 0, 1) := by decide +kernel
theorem dX3_readInto_7 : decode cX3_readInto 7 = .ok (.putfield 31, 3) := by decide +kernel
theorem dX3_readInto_10 : decode cX3_readInto 10 = .ok (.aload_n 1, 1) := by decide +kernel
theorem dX3_readInto_11 : decode cX3_readInto 11 = .ok (.iconst 0, 1) := by decide +kernel
theorem dX3_readInto_12 : decode cX3_readInto 12 = .ok (.putfield 34, 3) := by decide +kernel
theorem dX3_readInto_15 : decode cX3_readInto 15 = .ok (.aload_n 0, 1) := by decide +kernel
theorem dX3_readInto_16 : decode cX3_readInto 16 = .ok (.invokevirtual 39, 3) := by decide +kernel
theorem dX3_readInto_19 : decode cX3_readInto 19 = .ok (.aload_n 0, 1) := by decide +kernel
theorem dX3_readInto_20 : decode cX3_readInto 20 = .ok (.aload_n 1, 1) := by decide +kernel
theorem dX3_readInto_21 : decode cX3_readInto 21 = .ok (.invokevirtual 42, 3) := by decide +kernel
theorem dX3_readInto_24 : decode cX3_readInto 24 = .ok (.ifCond .eq 15, 3) := by decide +kernel
theorem dX3_readInto_27 : decode cX3_readInto 27 = .ok (.aload_n 0, 1) := by decide +kernel
theorem dX3_readInto_28 : decode cX3_readInto 28 = .ok (.aload_n 1, 1) := by decide +kernel
theorem dX3_readInto_29 : decode cX3_readInto 29 = .ok (.invokevirtual 46, 3) := by decide +kernel
theorem dX3_readInto_32 : decode cX3_readInto 32 = .ok (.ifCond .eq 7, 3) := by decide +kernel
theorem dX3_readInto_35 : decode cX3_readInto 35 = .ok (.iconst 1, 1) := by decide +kernel
theorem dX3_readInto_36 : decode cX3_readInto 36 = .ok (.goto 4, 3) := by decide +kernel
theorem dX3_readInto_39 : decode cX3_readInto 39 = .ok (.iconst 0, 1) := by decide +kernel
theorem dX3_readInto_40 : decode cX3_readInto 40 = .ok (.ireturn, 1) := by decide +kernel
theorem dX3_readHouse_0 : decode cX3_readHouse 0 = .ok (.aload_n 0, 1) := by decide +kernel
theorem dX3_readHouse_1 : decode cX3_readHouse 1 = .ok (.bipush 104, 2) := by decide +kernel
theorem dX3_readHouse_3 : decode cX3_readHouse 3 = .ok (.invokevirtual 49, 3) := by decide +kernel
theorem dX3_readHouse_6 : decode cX3_readHouse 6 = .ok (.ifCond .ne 5, 3) := by decide +kernel
theorem dX3_readHouse_9 : decode cX3_readHouse 9 = .ok (.iconst 0, 1) := by decide +kernel
theorem dX3_readHouse_10 : decode cX3_readHouse 10 = .ok (.ireturn, 1) := by decide +kernel
theorem dX3_readHouse_11 : decode cX3_readHouse 11 = .ok (.iconst 0, 1) := by decide +kernel
theorem dX3_readHouse_12 : decode cX3_readHouse 12 = .ok (.istore_n 2, 1) := by decide +kernel
theorem dX3_readHouse_13 : decode cX3_readHouse 13 = .ok (.iload_n 2, 1) := by decide +kernel
theorem dX3_readHouse_14 : decode cX3_readHouse 14 = .ok (.iconst 5, 1) := by decide +kernel
theorem dX3_readHouse_15 : decode cX3_readHouse 15 = .ok (.if_icmp .ge 63, 3) := by decide +kernel
theorem dX3_readHouse_18 : decode cX3_readHouse 18 = .ok (.aload_n 0, 1) := by decide +kernel
theorem dX3_readHouse_19 : decode cX3_readHouse 19 = .ok (.getstatic 53, 3) := by decide +kernel
theorem dX3_readHouse_22 : decode cX3_readHouse 22 = .ok (.iload_n 2, 1) := by decide +kernel
theorem dX3_readHouse_23 : decode cX3_readHouse 23 = .ok (.iaload, 1) := by decide +kernel
theorem dX3_readHouse_24 : decode cX3_readHouse 24 = .ok (.getstatic 56, 3) := by decide +kernel
theorem dX3_readHouse_27 : decode cX3_readHouse 27 = .ok (.iload_n 2, 1) := by decide +kernel
theorem dX3_readHouse_28 : decode cX3_readHouse 28 = .ok (.iaload, 1) := by decide +kernel
theorem dX3_readHouse_29 : decode cX3_readHouse 29 = .ok (.invokevirtual 59, 3) := by decide +kernel
theorem dX3_readHouse_32 : decode cX3_readHouse 32 = .ok (.ifCond .ne 5, 3) := by decide +kernel
theorem dX3_readHouse_35 : decode cX3_readHouse 35 = .ok (.iconst 0, 1) := by decide +kernel
theorem dX3_readHouse_36 : decode cX3_readHouse 36 = .ok (.ireturn, 1) := by decide +kernel
theorem dX3_readHouse_37 : decode cX3_readHouse 37 = .ok (.aload_n 1, 1) := by decide +kernel
theorem dX3_readHouse_38 : decode cX3_readHouse 38 = .ok (.getfield 63, 3) := by decide +kernel
theorem dX3_readHouse_41 : decode cX3_readHouse 41 = .ok (.iload_n 2, 1) := by decide +kernel
theorem dX3_readHouse_42 : decode cX3_readHouse 42 = .ok (.aload_n 0, 1) := by decide +kernel
theorem dX3_readHouse_43 : decode cX3_readHouse 43 = .ok (.getfield 28, 3) := by decide +kernel
theorem dX3_readHouse_46 : decode cX3_readHouse 46 = .ok (.iastore, 1) := by decide +kernel
theorem dX3_readHouse_47 : decode cX3_readHouse 47 = .ok (.aload_n 0, 1) := by decide +kernel
theorem dX3_readHouse_48 : decode cX3_readHouse 48 = .ok (.invokevirtual 39, 3) := by decide +kernel
theorem dX3_readHouse_51 : decode cX3_readHouse 51 = .ok (.aload_n 0, 1) := by decide +kernel
theorem dX3_readHouse_52 : decode cX3_readHouse 52 = .ok (.iload_n 2, 1) := by decide +kernel
theorem dX3_readHouse_53 : decode cX3_readHouse 53 = .ok (.iconst 4, 1) := by decide +kernel
theorem dX3_readHouse_54 : decode cX3_readHouse 54 = .ok (.if_icmp .ne 8, 3) := by decide +kernel
theorem dX3_readHouse_57 : decode cX3_readHouse 57 = .ok (.bipush 59, 2) := by decide +kernel
theorem dX3_readHouse_59 : decode cX3_readHouse 59 = .ok (.goto 5, 3) := by decide +kernel
theorem dX3_readHouse_62 : decode cX3_readHouse 62 = .ok (.bipush 44, 2) := by decide +kernel
theorem dX3_readHouse_64 : decode cX3_readHouse 64 = .ok (.invokevirtual 49, 3) := by decide +kernel
theorem dX3_readHouse_67 : decode cX3_readHouse 67 = .ok (.ifCond .ne 5, 3) := by decide +kernel
theorem dX3_readHouse_70 : decode cX3_readHouse 70 = .ok (.iconst 0, 1) := by decide +kernel
theorem dX3_readHouse_71 : decode cX3_readHouse 71 = .ok (.ireturn, 1) := by decide +kernel
theorem dX3_readHouse_72 : decode cX3_readHouse 72 = .ok (.iinc 2 1, 3) := by decide +kernel
theorem dX3_readHouse_75 : decode cX3_readHouse 75 = .ok (.goto (-62), 3) := by decide +kernel
theorem dX3_readHouse_78 : decode cX3_readHouse 78 = .ok (.iconst 1, 1) := by decide +kernel
theorem dX3_readHouse_79 : decode cX3_readHouse 79 = .ok (.ireturn, 1) := by decide +kernel
theorem dX3_readServices_0 : decode cX3_readServices 0 = .ok (.iconst 0, 1) := by decide +kernel
theorem dX3_readServices_1 : decode cX3_readServices 1 = .ok (.istore_n 2, 1) := by decide +kernel
theorem dX3_readServices_2 : decode cX3_readServices 2 = .ok (.iload_n 2, 1) := by decide +kernel
theorem dX3_readServices_3 : decode cX3_readServices 3 = .ok (.iconst 4, 1) := by decide +kernel
theorem dX3_readServices_4 : decode cX3_readServices 4 = .ok (.if_icmp .ge 68, 3) := by decide +kernel
theorem dX3_readServices_7 : decode cX3_readServices 7 = .ok (.iload_n 2, 1) := by decide +kernel
theorem dX3_readServices_8 : decode cX3_readServices 8 = .ok (.ifCond .le 13, 3) := by decide +kernel
theorem dX3_readServices_11 : decode cX3_readServices 11 = .ok (.aload_n 0, 1) := by decide +kernel
theorem dX3_readServices_12 : decode cX3_readServices 12 = .ok (.getfield 25, 3) := by decide +kernel
theorem dX3_readServices_15 : decode cX3_readServices 15 = .ok (.iconst (-1), 1) := by decide +kernel
theorem dX3_readServices_16 : decode cX3_readServices 16 = .ok (.if_icmp .ne 5, 3) := by decide +kernel
theorem dX3_readServices_19 : decode cX3_readServices 19 = .ok (.iconst 1, 1) := by decide +kernel
theorem dX3_readServices_20 : decode cX3_readServices 20 = .ok (.ireturn, 1) := by decide +kernel
theorem dX3_readServices_21 : decode cX3_readServices 21 = .ok (.aload_n 0, 1) := by decide +kernel
theorem dX3_readServices_22 : decode cX3_readServices 22 = .ok (.bipush 115, 2) := by decide +kernel
theorem dX3_readServices_24 : decode cX3_readServices 24 = .ok (.invokevirtual 49, 3) := by decide +kernel
theorem dX3_readServices_27 : decode cX3_readServices 27 = .ok (.ifCond .eq 30, 3) := by decide +kernel
theorem dX3_readServices_30 : decode cX3_readServices 30 = .ok (.aload_n 0, 1) := by decide +kernel
theorem dX3_readServices_31 : decode cX3_readServices 31 = .ok (.aload_n 1, 1) := by decide +kernel
theorem dX3_readServices_32 : decode cX3_readServices 32 = .ok (.aload_n 1, 1) := by decide +kernel
theorem dX3_readServices_33 : decode cX3_readServices 33 = .ok (.getfield 66, 3) := by decide +kernel
theorem dX3_readServices_36 : decode cX3_readServices 36 = .ok (.iload_n 2, 1) := by decide +kernel
theorem dX3_readServices_37 : decode cX3_readServices 37 = .ok (.aaload, 1) := by decide +kernel
theorem dX3_readServices_38 : decode cX3_readServices 38 = .ok (.invokevirtual 70, 3) := by decide +kernel
theorem dX3_readServices_41 : decode cX3_readServices 41 = .ok (.ifCond .eq 16, 3) := by decide +kernel
theorem dX3_readServices_44 : decode cX3_readServices 44 = .ok (.aload_n 0, 1) := by decide +kernel
theorem dX3_readServices_45 : decode cX3_readServices 45 = .ok (.aload_n 1, 1) := by decide +kernel
theorem dX3_readServices_46 : decode cX3_readServices 46 = .ok (.getfield 66, 3) := by decide +kernel
theorem dX3_readServices_49 : decode cX3_readServices 49 = .ok (.iload_n 2, 1) := by decide +kernel
theorem dX3_readServices_50 : decode cX3_readServices 50 = .ok (.aaload, 1) := by decide +kernel
theorem dX3_readServices_51 : decode cX3_readServices 51 = .ok (.invokevirtual 74, 3) := by decide +kernel
theorem dX3_readServices_54 : decode cX3_readServices 54 = .ok (.ifCond .ne 5, 3) := by decide +kernel
theorem dX3_readServices_57 : decode cX3_readServices 57 = .ok (.iconst 0, 1) := by decide +kernel
theorem dX3_readServices_58 : decode cX3_readServices 58 = .ok (.ireturn, 1) := by decide +kernel
theorem dX3_readServices_59 : decode cX3_readServices 59 = .ok (.aload_n 1, 1) := by decide +kernel
theorem dX3_readServices_60 : decode cX3_readServices 60 = .ok (.iload_n 2, 1) := by decide +kernel
theorem dX3_readServices_61 : decode cX3_readServices 61 = .ok (.iconst 1, 1) := by decide +kernel
theorem dX3_readServices_62 : decode cX3_readServices 62 = .ok (.iadd, 1) := by decide +kernel
theorem dX3_readServices_63 : decode cX3_readServices 63 = .ok (.putfield 34, 3) := by decide +kernel
theorem dX3_readServices_66 : decode cX3_readServices 66 = .ok (.iinc 2 1, 3) := by decide +kernel
theorem dX3_readServices_69 : decode cX3_readServices 69 = .ok (.goto (-67), 3) := by decide +kernel
theorem dX3_readServices_72 : decode cX3_readServices 72 = .ok (.aload_n 0, 1) := by decide +kernel
theorem dX3_readServices_73 : decode cX3_readServices 73 = .ok (.getfield 25, 3) := by decide +kernel
theorem dX3_readServices_76 : decode cX3_readServices 76 = .ok (.iconst (-1), 1) := by decide +kernel
theorem dX3_readServices_77 : decode cX3_readServices 77 = .ok (.if_icmp .eq 24, 3) := by decide +kernel
theorem dX3_readServices_80 : decode cX3_readServices 80 = .ok (.aload_n 0, 1) := by decide +kernel
theorem dX3_readServices_81 : decode cX3_readServices 81 = .ok (.aload_n 0, 1) := by decide +kernel
theorem dX3_readServices_82 : decode cX3_readServices 82 = .ok (.getfield 25, 3) := by decide +kernel
theorem dX3_readServices_85 : decode cX3_readServices 85 = .ok (.bipush 115, 2) := by decide +kernel
theorem dX3_readServices_87 : decode cX3_readServices 87 = .ok (.if_icmp .ne 7, 3) := by decide +kernel
theorem dX3_readServices_90 : decode cX3_readServices 90 = .ok (.iconst 3, 1) := by decide +kernel
theorem dX3_readServices_91 : decode cX3_readServices 91 = .ok (.goto 4, 3) := by decide +kernel
theorem dX3_readServices_94 : decode cX3_readServices 94 = .ok (.iconst 1, 1) := by decide +kernel
theorem dX3_readServices_95 : decode cX3_readServices 95 = .ok (.invokevirtual 78, 3) := by decide +kernel
theorem dX3_readServices_98 : decode cX3_readServices 98 = .ok (.ifCond .eq 7, 3) := by decide +kernel
theorem dX3_readServices_101 : decode cX3_readServices 101 = .ok (.iconst 1, 1) := by decide +kernel
theorem dX3_readServices_102 : decode cX3_readServices 102 = .ok (.goto 4, 3) := by decide +kernel
theorem dX3_readServices_105 : decode cX3_readServices 105 = .ok (.iconst 0, 1) := by decide +kernel
theorem dX3_readServices_106 : decode cX3_readServices 106 = .ok (.ireturn, 1) := by decide +kernel
theorem dX3_readNumbers_0 : decode cX3_readNumbers 0 = .ok (.aload_n 1, 1) := by decide +kernel
theorem dX3_readNumbers_1 : decode cX3_readNumbers 1 = .ok (.invokevirtual 81, 3) := by decide +kernel
theorem dX3_readNumbers_4 : decode cX3_readNumbers 4 = .ok (.istore_n 3, 1) := by decide +kernel
theorem dX3_readNumbers_5 : decode cX3_readNumbers 5 = .ok (.iconst 0, 1) := by decide +kernel
theorem dX3_readNumbers_6 : decode cX3_readNumbers 6 = .ok (.istore 4, 2) := by decide +kernel
theorem dX3_readNumbers_8 : decode cX3_readNumbers 8 = .ok (.iload 4, 2) := by decide +kernel
theorem dX3_readNumbers_10 : decode cX3_readNumbers 10 = .ok (.bipush 9, 2) := by decide +kernel
theorem dX3_readNumbers_12 : decode cX3_readNumbers 12 = .ok (.if_icmp .ge 122, 3) := by decide +kernel
theorem dX3_readNumbers_15 : decode cX3_readNumbers 15 = .ok (.iload 4, 2) := by decide +kernel
theorem dX3_readNumbers_17 : decode cX3_readNumbers 17 = .ok (.iconst 1, 1) := by decide +kernel
theorem dX3_readNumbers_18 : decode cX3_readNumbers 18 = .ok (.if_icmp .ne 21, 3) := by decide +kernel
theorem dX3_readNumbers_21 : decode cX3_readNumbers 21 = .ok (.getstatic 85, 3) := by decide +kernel
theorem dX3_readNumbers_24 : decode cX3_readNumbers 24 = .ok (.iload 4, 2) := by decide +kernel
theorem dX3_readNumbers_26 : decode cX3_readNumbers 26 = .ok (.iaload, 1) := by decide +kernel
theorem dX3_readNumbers_27 : decode cX3_readNumbers 27 = .ok (.aload_n 2, 1) := by decide +kernel
theorem dX3_readNumbers_28 : decode cX3_readNumbers 28 = .ok (.getfield 88, 3) := by decide +kernel
theorem dX3_readNumbers_31 : decode cX3_readNumbers 31 = .ok (.iconst 0, 1) := by decide +kernel
theorem dX3_readNumbers_32 : decode cX3_readNumbers 32 = .ok (.iaload, 1) := by decide +kernel
theorem dX3_readNumbers_33 : decode cX3_readNumbers 33 = .ok (.invokestatic 91, 3) := by decide +kernel
theorem dX3_readNumbers_36 : decode cX3_readNumbers 36 = .ok (.goto 9, 3) := by decide +kernel
theorem dX3_readNumbers_39 : decode cX3_readNumbers 39 = .ok (.getstatic 85, 3) := by decide +kernel
theorem dX3_readNumbers_42 : decode cX3_readNumbers 42 = .ok (.iload 4, 2) := by decide +kernel
theorem dX3_readNumbers_44 : decode cX3_readNumbers 44 = .ok (.iaload, 1) := by decide +kernel
theorem dX3_readNumbers_45 : decode cX3_readNumbers 45 = .ok (.istore 5, 2) := by decide +kernel
theorem dX3_readNumbers_47 : decode cX3_readNumbers 47 = .ok (.aload_n 0, 1) := by decide +kernel
theorem dX3_readNumbers_48 : decode cX3_readNumbers 48 = .ok (.iload 5, 2) := by decide +kernel
theorem dX3_readNumbers_50 : decode cX3_readNumbers 50 = .ok (.getstatic 97, 3) := by decide +kernel
theorem dX3_readNumbers_53 : decode cX3_readNumbers 53 = .ok (.iload 4, 2) := by decide +kernel
theorem dX3_readNumbers_55 : decode cX3_readNumbers 55 = .ok (.iaload, 1) := by decide +kernel
theorem dX3_readNumbers_56 : decode cX3_readNumbers 56 = .ok (.invokevirtual 59, 3) := by decide +kernel
theorem dX3_readNumbers_59 : decode cX3_readNumbers 59 = .ok (.ifCond .ne 5, 3) := by decide +kernel
theorem dX3_readNumbers_62 : decode cX3_readNumbers 62 = .ok (.iconst 0, 1) := by decide +kernel
theorem dX3_readNumbers_63 : decode cX3_readNumbers 63 = .ok (.ireturn, 1) := by decide +kernel
theorem dX3_readNumbers_64 : decode cX3_readNumbers 64 = .ok (.iload 4, 2) := by decide +kernel
theorem dX3_readNumbers_66 : decode cX3_readNumbers 66 = .ok (.ifCond .ne 24, 3) := by decide +kernel
theorem dX3_readNumbers_69 : decode cX3_readNumbers 69 = .ok (.iload_n 3, 1) := by decide +kernel
theorem dX3_readNumbers_70 : decode cX3_readNumbers 70 = .ok (.aload_n 0, 1) := by decide +kernel
theorem dX3_readNumbers_71 : decode cX3_readNumbers 71 = .ok (.getfield 28, 3) := by decide +kernel
theorem dX3_readNumbers_74 : decode cX3_readNumbers 74 = .ok (.iadd, 1) := by decide +kernel
theorem dX3_readNumbers_75 : decode cX3_readNumbers 75 = .ok (.aload_n 1, 1) := by decide +kernel
theorem dX3_readNumbers_76 : decode cX3_readNumbers 76 = .ok (.getfield 63, 3) := by decide +kernel
theorem dX3_readNumbers_79 : decode cX3_readNumbers 79 = .ok (.iconst 0, 1) := by decide +kernel
theorem dX3_readNumbers_80 : decode cX3_readNumbers 80 = .ok (.iaload, 1) := by decide +kernel
theorem dX3_readNumbers_81 : decode cX3_readNumbers 81 = .ok (.if_icmp .le 9, 3) := by decide +kernel
theorem dX3_readNumbers_84 : decode cX3_readNumbers 84 = .ok (.aload_n 0, 1) := by decide +kernel
theorem dX3_readNumbers_85 : decode cX3_readNumbers 85 = .ok (.iconst 4, 1) := by decide +kernel
theorem dX3_readNumbers_86 : decode cX3_readNumbers 86 = .ok (.invokevirtual 78, 3) := by decide +kernel
theorem dX3_readNumbers_89 : decode cX3_readNumbers 89 = .ok (.ireturn, 1) := by decide +kernel
theorem dX3_readNumbers_90 : decode cX3_readNumbers 90 = .ok (.aload_n 2, 1) := by decide +kernel
theorem dX3_readNumbers_91 : decode cX3_readNumbers 91 = .ok (.getfield 88, 3) := by decide +kernel
theorem dX3_readNumbers_94 : decode cX3_readNumbers 94 = .ok (.iload 4, 2) := by decide +kernel
theorem dX3_readNumbers_96 : decode cX3_readNumbers 96 = .ok (.aload_n 0, 1) := by decide +kernel
theorem dX3_readNumbers_97 : decode cX3_readNumbers 97 = .ok (.getfield 28, 3) := by decide +kernel
theorem dX3_readNumbers_100 : decode cX3_readNumbers 100 = .ok (.iastore, 1) := by decide +kernel
theorem dX3_readNumbers_101 : decode cX3_readNumbers 101 = .ok (.aload_n 0, 1) := by decide +kernel
theorem dX3_readNumbers_102 : decode cX3_readNumbers 102 = .ok (.invokevirtual 39, 3) := by decide +kernel
theorem dX3_readNumbers_105 : decode cX3_readNumbers 105 = .ok (.aload_n 0, 1) := by decide +kernel
theorem dX3_readNumbers_106 : decode cX3_readNumbers 106 = .ok (.iload 4, 2) := by decide +kernel
theorem dX3_readNumbers_108 : decode cX3_readNumbers 108 = .ok (.bipush 8, 2) := by decide +kernel
theorem dX3_readNumbers_110 : decode cX3_readNumbers 110 = .ok (.if_icmp .ne 8, 3) := by decide +kernel
theorem dX3_readNumbers_113 : decode cX3_readNumbers 113 = .ok (.bipush 59, 2) := by decide +kernel
theorem dX3_readNumbers_115 : decode cX3_readNumbers 115 = .ok (.goto 5, 3) := by decide +kernel
theorem dX3_readNumbers_118 : decode cX3_readNumbers 118 = .ok (.bipush 44, 2) := by decide +kernel
theorem dX3_readNumbers_120 : decode cX3_readNumbers 120 = .ok (.invokevirtual 49, 3) := by decide +kernel
theorem dX3_readNumbers_123 : decode cX3_readNumbers 123 = .ok (.ifCond .ne 5, 3) := by decide +kernel
theorem dX3_readNumbers_126 : decode cX3_readNumbers 126 = .ok (.iconst 0, 1) := by decide +kernel
theorem dX3_readNumbers_127 : decode cX3_readNumbers 127 = .ok (.ireturn, 1) := by decide +kernel
theorem dX3_readNumbers_128 : decode cX3_readNumbers 128 = .ok (.iinc 4 1, 3) := by decide +kernel
theorem dX3_readNumbers_131 : decode cX3_readNumbers 131 = .ok (.goto (-123), 3) := by decide +kernel
theorem dX3_readNumbers_134 : decode cX3_readNumbers 134 = .ok (.iconst 1, 1) := by decide +kernel
theorem dX3_readNumbers_135 : decode cX3_readNumbers 135 = .ok (.ireturn, 1) := by decide +kernel
theorem dX3_readMeasures_0 : decode cX3_readMeasures 0 = .ok (.aload_n 1, 1) := by decide +kernel
theorem dX3_readMeasures_1 : decode cX3_readMeasures 1 = .ok (.iconst 0, 1) := by decide +kernel
theorem dX3_readMeasures_2 : decode cX3_readMeasures 2 = .ok (.putfield 100, 3) := by decide +kernel
theorem dX3_readMeasures_5 : decode cX3_readMeasures 5 = .ok (.iconst 0, 1) := by decide +kernel
theorem dX3_readMeasures_6 : decode cX3_readMeasures 6 = .ok (.istore_n 2, 1) := by decide +kernel
theorem dX3_readMeasures_7 : decode cX3_readMeasures 7 = .ok (.iload_n 2, 1) := by decide +kernel
theorem dX3_readMeasures_8 : decode cX3_readMeasures 8 = .ok (.iconst 3, 1) := by decide +kernel
theorem dX3_readMeasures_9 : decode cX3_readMeasures 9 = .ok (.if_icmp .ge 85, 3) := by decide +kernel
theorem dX3_readMeasures_12 : decode cX3_readMeasures 12 = .ok (.aload_n 0, 1) := by decide +kernel
theorem dX3_readMeasures_13 : decode cX3_readMeasures 13 = .ok (.getfield 25, 3) := by decide +kernel
theorem dX3_readMeasures_16 : decode cX3_readMeasures 16 = .ok (.invokestatic 103, 3) := by decide +kernel
theorem dX3_readMeasures_19 : decode cX3_readMeasures 19 = .ok (.istore_n 3, 1) := by decide +kernel
theorem dX3_readMeasures_20 : decode cX3_readMeasures 20 = .ok (.iload_n 3, 1) := by decide +kernel
theorem dX3_readMeasures_21 : decode cX3_readMeasures 21 = .ok (.iconst (-1), 1) := by decide +kernel
theorem dX3_readMeasures_22 : decode cX3_readMeasures 22 = .ok (.if_icmp .ne 5, 3) := by decide +kernel
theorem dX3_readMeasures_25 : decode cX3_readMeasures 25 = .ok (.iconst 1, 1) := by decide +kernel
theorem dX3_readMeasures_26 : decode cX3_readMeasures 26 = .ok (.ireturn, 1) := by decide +kernel
theorem dX3_readMeasures_27 : decode cX3_readMeasures 27 = .ok (.aload_n 0, 1) := by decide +kernel
theorem dX3_readMeasures_28 : decode cX3_readMeasures 28 = .ok (.invokevirtual 39, 3) := by decide +kernel
theorem dX3_readMeasures_31 : decode cX3_readMeasures 31 = .ok (.aload_n 0, 1) := by decide +kernel
theorem dX3_readMeasures_32 : decode cX3_readMeasures 32 = .ok (.iconst 1, 1) := by decide +kernel
theorem dX3_readMeasures_33 : decode cX3_readMeasures 33 = .ok (.bipush 99, 2) := by decide +kernel
theorem dX3_readMeasures_35 : decode cX3_readMeasures 35 = .ok (.invokevirtual 59, 3) := by decide +kernel
theorem dX3_readMeasures_38 : decode cX3_readMeasures 38 = .ok (.ifCond .ne 5, 3) := by decide +kernel
theorem dX3_readMeasures_41 : decode cX3_readMeasures 41 = .ok (.iconst 0, 1) := by decide +kernel
theorem dX3_readMeasures_42 : decode cX3_readMeasures 42 = .ok (.ireturn, 1) := by decide +kernel
theorem dX3_readMeasures_43 : decode cX3_readMeasures 43 = .ok (.aload_n 1, 1) := by decide +kernel
theorem dX3_readMeasures_44 : decode cX3_readMeasures 44 = .ok (.getfield 107, 3) := by decide +kernel
theorem dX3_readMeasures_47 : decode cX3_readMeasures 47 = .ok (.iload_n 2, 1) := by decide +kernel
theorem dX3_readMeasures_48 : decode cX3_readMeasures 48 = .ok (.aaload, 1) := by decide +kernel
theorem dX3_readMeasures_49 : decode cX3_readMeasures 49 = .ok (.iload_n 3, 1) := by decide +kernel
theorem dX3_readMeasures_50 : decode cX3_readMeasures 50 = .ok (.putfield 111, 3) := by decide +kernel
theorem dX3_readMeasures_53 : decode cX3_readMeasures 53 = .ok (.aload_n 1, 1) := by decide +kernel
theorem dX3_readMeasures_54 : decode cX3_readMeasures 54 = .ok (.getfield 107, 3) := by decide +kernel
theorem dX3_readMeasures_57 : decode cX3_readMeasures 57 = .ok (.iload_n 2, 1) := by decide +kernel
theorem dX3_readMeasures_58 : decode cX3_readMeasures 58 = .ok (.aaload, 1) := by decide +kernel
theorem dX3_readMeasures_59 : decode cX3_readMeasures 59 = .ok (.aload_n 0, 1) := by decide +kernel
theorem dX3_readMeasures_60 : decode cX3_readMeasures 60 = .ok (.getfield 28, 3) := by decide +kernel
theorem dX3_readMeasures_63 : decode cX3_readMeasures 63 = .ok (.putfield 116, 3) := by decide +kernel
theorem dX3_readMeasures_66 : decode cX3_readMeasures 66 = .ok (.aload_n 0, 1) := by decide +kernel
theorem dX3_readMeasures_67 : decode cX3_readMeasures 67 = .ok (.invokevirtual 39, 3) := by decide +kernel
theorem dX3_readMeasures_70 : decode cX3_readMeasures 70 = .ok (.aload_n 0, 1) := by decide +kernel
theorem dX3_readMeasures_71 : decode cX3_readMeasures 71 = .ok (.bipush 59, 2) := by decide +kernel
theorem dX3_readMeasures_73 : decode cX3_readMeasures 73 = .ok (.invokevirtual 49, 3) := by decide +kernel
theorem dX3_readMeasures_76 : decode cX3_readMeasures 76 = .ok (.ifCond .ne 5, 3) := by decide +kernel
theorem dX3_readMeasures_79 : decode cX3_readMeasures 79 = .ok (.iconst 0, 1) := by decide +kernel
theorem dX3_readMeasures_80 : decode cX3_readMeasures 80 = .ok (.ireturn, 1) := by decide +kernel
theorem dX3_readMeasures_81 : decode cX3_readMeasures 81 = .ok (.aload_n 1, 1) := by decide +kernel
theorem dX3_readMeasures_82 : decode cX3_readMeasures 82 = .ok (.iload_n 2, 1) := by decide +kernel
theorem dX3_readMeasures_83 : decode cX3_readMeasures 83 = .ok (.iconst 1, 1) := by decide +kernel
theorem dX3_readMeasures_84 : decode cX3_readMeasures 84 = .ok (.iadd, 1) := by decide +kernel
theorem dX3_readMeasures_85 : decode cX3_readMeasures 85 = .ok (.putfield 100, 3) := by decide +kernel
theorem dX3_readMeasures_88 : decode cX3_readMeasures 88 = .ok (.iinc 2 1, 3) := by decide +kernel
theorem dX3_readMeasures_91 : decode cX3_readMeasures 91 = .ok (.goto (-84), 3) := by decide +kernel
theorem dX3_readMeasures_94 : decode cX3_readMeasures 94 = .ok (.aload_n 0, 1) := by decide +kernel
theorem dX3_readMeasures_95 : decode cX3_readMeasures 95 = .ok (.getfield 25, 3) := by decide +kernel
theorem dX3_readMeasures_98 : decode cX3_readMeasures 98 = .ok (.invokestatic 103, 3) := by decide +kernel
theorem dX3_readMeasures_101 : decode cX3_readMeasures 101 = .ok (.iconst (-1), 1) := by decide +kernel
theorem dX3_readMeasures_102 : decode cX3_readMeasures 102 = .ok (.if_icmp .eq 11, 3) := by decide +kernel
theorem dX3_readMeasures_105 : decode cX3_readMeasures 105 = .ok (.aload_n 0, 1) := by decide +kernel
theorem dX3_readMeasures_106 : decode cX3_readMeasures 106 = .ok (.iconst 3, 1) := by decide +kernel
theorem dX3_readMeasures_107 : decode cX3_readMeasures 107 = .ok (.invokevirtual 78, 3) := by decide +kernel
theorem dX3_readMeasures_110 : decode cX3_readMeasures 110 = .ok (.ifCond .eq 7, 3) := by decide +kernel
theorem dX3_readMeasures_113 : decode cX3_readMeasures 113 = .ok (.iconst 1, 1) := by decide +kernel
theorem dX3_readMeasures_114 : decode cX3_readMeasures 114 = .ok (.goto 4, 3) := by decide +kernel
theorem dX3_readMeasures_117 : decode cX3_readMeasures 117 = .ok (.iconst 0, 1) := by decide +kernel
theorem dX3_readMeasures_118 : decode cX3_readMeasures 118 = .ok (.ireturn, 1) := by decide +kernel
theorem dX3_kindOf_0 : decode cX3_kindOf 0 = .ok (.iload_n 0, 1) := by decide +kernel
theorem dX3_kindOf_1 : decode cX3_kindOf 1 = .ok (.lookupswitch 51 #[(97, 47), (102, 45), (113, 49), (116, 43)], 43) := by decide +kernel
theorem dX3_kindOf_44 : decode cX3_kindOf 44 = .ok (.iconst 1, 1) := by decide +kernel
theorem dX3_kindOf_45 : decode cX3_kindOf 45 = .ok (.ireturn, 1) := by decide +kernel
theorem dX3_kindOf_46 : decode cX3_kindOf 46 = .ok (.iconst 2, 1) := by decide +kernel
theorem dX3_kindOf_47 : decode cX3_kindOf 47 = .ok (.ireturn, 1) := by decide +kernel
theorem dX3_kindOf_48 : decode cX3_kindOf 48 = .ok (.iconst 3, 1) := by decide +kernel
theorem dX3_kindOf_49 : decode cX3_kindOf 49 = .ok (.ireturn, 1) := by decide +kernel
theorem dX3_kindOf_50 : decode cX3_kindOf 50 = .ok (.iconst 4, 1) := by decide +kernel
theorem dX3_kindOf_51 : decode cX3_kindOf 51 = .ok (.ireturn, 1) := by decide +kernel
theorem dX3_kindOf_52 : decode cX3_kindOf 52 = .ok (.iconst (-1), 1) := by decide +kernel
theorem dX3_kindOf_53 : decode cX3_kindOf 53 = .ok (.ireturn, 1) := by decide +kernel
theorem dX3_passes_0 : decode cX3_passes 0 = .ok (.aload_n 0, 1) := by decide +kernel
theorem dX3_passes_1 : decode cX3_passes 1 = .ok (.getfield 25, 3) := by decide +kernel
theorem dX3_passes_4 : decode cX3_passes 4 = .ok (.iload_n 1, 1) := by decide +kernel
theorem dX3_passes_5 : decode cX3_passes 5 = .ok (.if_icmp .eq 9, 3) := by decide +kernel
theorem dX3_passes_8 : decode cX3_passes 8 = .ok (.aload_n 0, 1) := by decide +kernel
theorem dX3_passes_9 : decode cX3_passes 9 = .ok (.iconst 1, 1) := by decide +kernel
theorem dX3_passes_10 : decode cX3_passes 10 = .ok (.invokevirtual 78, 3) := by decide +kernel
theorem dX3_passes_13 : decode cX3_passes 13 = .ok (.ireturn, 1) := by decide +kernel
theorem dX3_passes_14 : decode cX3_passes 14 = .ok (.aload_n 0, 1) := by decide +kernel
theorem dX3_passes_15 : decode cX3_passes 15 = .ok (.invokevirtual 39, 3) := by decide +kernel
theorem dX3_passes_18 : decode cX3_passes 18 = .ok (.iconst 1, 1) := by decide +kernel
theorem dX3_passes_19 : decode cX3_passes 19 = .ok (.ireturn, 1) := by decide +kernel
theorem dX3_isNumber_0 : decode cX3_isNumber 0 = .ok (.aload_n 0, 1) := by decide +kernel
theorem dX3_isNumber_1 : decode cX3_isNumber 1 = .ok (.getfield 25, 3) := by decide +kernel
theorem dX3_isNumber_4 : decode cX3_isNumber 4 = .ok (.bipush (-2), 2) := by decide +kernel
theorem dX3_isNumber_6 : decode cX3_isNumber 6 = .ok (.if_icmp .eq 9, 3) := by decide +kernel
theorem dX3_isNumber_9 : decode cX3_isNumber 9 = .ok (.aload_n 0, 1) := by decide +kernel
theorem dX3_isNumber_10 : decode cX3_isNumber 10 = .ok (.iconst 1, 1) := by decide +kernel
theorem dX3_isNumber_11 : decode cX3_isNumber 11 = .ok (.invokevirtual 78, 3) := by decide +kernel
theorem dX3_isNumber_14 : decode cX3_isNumber 14 = .ok (.ireturn, 1) := by decide +kernel
theorem dX3_isNumber_15 : decode cX3_isNumber 15 = .ok (.aload_n 0, 1) := by decide +kernel
theorem dX3_isNumber_16 : decode cX3_isNumber 16 = .ok (.getfield 28, 3) := by decide +kernel
theorem dX3_isNumber_19 : decode cX3_isNumber 19 = .ok (.iload_n 1, 1) := by decide +kernel
theorem dX3_isNumber_20 : decode cX3_isNumber 20 = .ok (.if_icmp .lt 11, 3) := by decide +kernel
theorem dX3_isNumber_23 : decode cX3_isNumber 23 = .ok (.aload_n 0, 1) := by decide +kernel
theorem dX3_isNumber_24 : decode cX3_isNumber 24 = .ok (.getfield 28, 3) := by decide +kernel
theorem dX3_isNumber_27 : decode cX3_isNumber 27 = .ok (.iload_n 2, 1) := by decide +kernel
theorem dX3_isNumber_28 : decode cX3_isNumber 28 = .ok (.if_icmp .le 9, 3) := by decide +kernel
theorem dX3_isNumber_31 : decode cX3_isNumber 31 = .ok (.aload_n 0, 1) := by decide +kernel
theorem dX3_isNumber_32 : decode cX3_isNumber 32 = .ok (.iconst 2, 1) := by decide +kernel
theorem dX3_isNumber_33 : decode cX3_isNumber 33 = .ok (.invokevirtual 78, 3) := by decide +kernel
theorem dX3_isNumber_36 : decode cX3_isNumber 36 = .ok (.ireturn, 1) := by decide +kernel
theorem dX3_isNumber_37 : decode cX3_isNumber 37 = .ok (.iconst 1, 1) := by decide +kernel
theorem dX3_isNumber_38 : decode cX3_isNumber 38 = .ok (.ireturn, 1) := by decide +kernel
theorem dX3_fails_0 : decode cX3_fails 0 = .ok (.aload_n 0, 1) := by decide +kernel
theorem dX3_fails_1 : decode cX3_fails 1 = .ok (.iload_n 1, 1) := by decide +kernel
theorem dX3_fails_2 : decode cX3_fails 2 = .ok (.putfield 31, 3) := by decide +kernel
theorem dX3_fails_5 : decode cX3_fails 5 = .ok (.iconst 0, 1) := by decide +kernel
theorem dX3_fails_6 : decode cX3_fails 6 = .ok (.ireturn, 1) := by decide +kernel
theorem dX3_step_0 : decode cX3_step 0 = .ok (.aload_n 0, 1) := by decide +kernel
theorem dX3_step_1 : decode cX3_step 1 = .ok (.getfield 19, 3) := by decide +kernel
theorem dX3_step_4 : decode cX3_step 4 = .ok (.aload_n 0, 1) := by decide +kernel
theorem dX3_step_5 : decode cX3_step 5 = .ok (.getfield 15, 3) := by decide +kernel
theorem dX3_step_8 : decode cX3_step 8 = .ok (.if_icmp .ge 40, 3) := by decide +kernel
theorem dX3_step_11 : decode cX3_step 11 = .ok (.aload_n 0, 1) := by decide +kernel
theorem dX3_step_12 : decode cX3_step 12 = .ok (.getfield 19, 3) := by decide +kernel
theorem dX3_step_15 : decode cX3_step 15 = .ok (.sipush 160, 3) := by decide +kernel
theorem dX3_step_18 : decode cX3_step 18 = .ok (.if_icmp .ge 30, 3) := by decide +kernel
theorem dX3_step_21 : decode cX3_step 21 = .ok (.aload_n 0, 1) := by decide +kernel
theorem dX3_step_22 : decode cX3_step 22 = .ok (.getfield 9, 3) := by decide +kernel
theorem dX3_step_25 : decode cX3_step 25 = .ok (.aload_n 0, 1) := by decide +kernel
theorem dX3_step_26 : decode cX3_step 26 = .ok (.getfield 19, 3) := by decide +kernel
theorem dX3_step_29 : decode cX3_step 29 = .ok (.iaload, 1) := by decide +kernel
theorem dX3_step_30 : decode cX3_step 30 = .ok (.bipush 32, 2) := by decide +kernel
theorem dX3_step_32 : decode cX3_step 32 = .ok (.if_icmp .ne 16, 3) := by decide +kernel
theorem dX3_step_35 : decode cX3_step 35 = .ok (.aload_n 0, 1) := by decide +kernel
theorem dX3_step_36 : decode cX3_step 36 = .ok (.dup, 1) := by decide +kernel
theorem dX3_step_37 : decode cX3_step 37 = .ok (.getfield 19, 3) := by decide +kernel
theorem dX3_step_40 : decode cX3_step 40 = .ok (.iconst 1, 1) := by decide +kernel
theorem dX3_step_41 : decode cX3_step 41 = .ok (.iadd, 1) := by decide +kernel
theorem dX3_step_42 : decode cX3_step 42 = .ok (.putfield 19, 3) := by decide +kernel
theorem dX3_step_45 : decode cX3_step 45 = .ok (.goto (-45), 3) := by decide +kernel
theorem dX3_step_48 : decode cX3_step 48 = .ok (.aload_n 0, 1) := by decide +kernel
theorem dX3_step_49 : decode cX3_step 49 = .ok (.aload_n 0, 1) := by decide +kernel
theorem dX3_step_50 : decode cX3_step 50 = .ok (.getfield 19, 3) := by decide +kernel
theorem dX3_step_53 : decode cX3_step 53 = .ok (.putfield 22, 3) := by decide +kernel
theorem dX3_step_56 : decode cX3_step 56 = .ok (.aload_n 0, 1) := by decide +kernel
theorem dX3_step_57 : decode cX3_step 57 = .ok (.getfield 19, 3) := by decide +kernel
theorem dX3_step_60 : decode cX3_step 60 = .ok (.aload_n 0, 1) := by decide +kernel
theorem dX3_step_61 : decode cX3_step 61 = .ok (.getfield 15, 3) := by decide +kernel
theorem dX3_step_64 : decode cX3_step 64 = .ok (.if_icmp .ge 13, 3) := by decide +kernel
theorem dX3_step_67 : decode cX3_step 67 = .ok (.aload_n 0, 1) := by decide +kernel
theorem dX3_step_68 : decode cX3_step 68 = .ok (.getfield 19, 3) := by decide +kernel
theorem dX3_step_71 : decode cX3_step 71 = .ok (.sipush 160, 3) := by decide +kernel
theorem dX3_step_74 : decode cX3_step 74 = .ok (.if_icmp .lt 9, 3) := by decide +kernel
theorem dX3_step_77 : decode cX3_step 77 = .ok (.aload_n 0, 1) := by decide +kernel
theorem dX3_step_78 : decode cX3_step 78 = .ok (.iconst (-1), 1) := by decide +kernel
theorem dX3_step_79 : decode cX3_step 79 = .ok (.putfield 25, 3) := by decide +kernel
theorem dX3_step_82 : decode cX3_step 82 = .ok (.return_, 1) := by decide +kernel
theorem dX3_step_83 : decode cX3_step 83 = .ok (.aload_n 0, 1) := by decide +kernel
theorem dX3_step_84 : decode cX3_step 84 = .ok (.getfield 9, 3) := by decide +kernel
theorem dX3_step_87 : decode cX3_step 87 = .ok (.aload_n 0, 1) := by decide +kernel
theorem dX3_step_88 : decode cX3_step 88 = .ok (.getfield 19, 3) := by decide +kernel
theorem dX3_step_91 : decode cX3_step 91 = .ok (.iaload, 1) := by decide +kernel
theorem dX3_step_92 : decode cX3_step 92 = .ok (.invokestatic 119, 3) := by decide +kernel
theorem dX3_step_95 : decode cX3_step 95 = .ok (.ifCond .ne 27, 3) := by decide +kernel
theorem dX3_step_98 : decode cX3_step 98 = .ok (.aload_n 0, 1) := by decide +kernel
theorem dX3_step_99 : decode cX3_step 99 = .ok (.aload_n 0, 1) := by decide +kernel
theorem dX3_step_100 : decode cX3_step 100 = .ok (.getfield 9, 3) := by decide +kernel
theorem dX3_step_103 : decode cX3_step 103 = .ok (.aload_n 0, 1) := by decide +kernel
theorem dX3_step_104 : decode cX3_step 104 = .ok (.getfield 19, 3) := by decide +kernel
theorem dX3_step_107 : decode cX3_step 107 = .ok (.iaload, 1) := by decide +kernel
theorem dX3_step_108 : decode cX3_step 108 = .ok (.putfield 25, 3) := by decide +kernel
theorem dX3_step_111 : decode cX3_step 111 = .ok (.aload_n 0, 1) := by decide +kernel
theorem dX3_step_112 : decode cX3_step 112 = .ok (.dup, 1) := by decide +kernel
theorem dX3_step_113 : decode cX3_step 113 = .ok (.getfield 19, 3) := by decide +kernel
theorem dX3_step_116 : decode cX3_step 116 = .ok (.iconst 1, 1) := by decide +kernel
theorem dX3_step_117 : decode cX3_step 117 = .ok (.iadd, 1) := by decide +kernel
theorem dX3_step_118 : decode cX3_step 118 = .ok (.putfield 19, 3) := by decide +kernel
theorem dX3_step_121 : decode cX3_step 121 = .ok (.return_, 1) := by decide +kernel
theorem dX3_step_122 : decode cX3_step 122 = .ok (.aload_n 0, 1) := by decide +kernel
theorem dX3_step_123 : decode cX3_step 123 = .ok (.bipush (-2), 2) := by decide +kernel
theorem dX3_step_125 : decode cX3_step 125 = .ok (.putfield 25, 3) := by decide +kernel
theorem dX3_step_128 : decode cX3_step 128 = .ok (.aload_n 0, 1) := by decide +kernel
theorem dX3_step_129 : decode cX3_step 129 = .ok (.iconst 0, 1) := by decide +kernel
theorem dX3_step_130 : decode cX3_step 130 = .ok (.putfield 28, 3) := by decide +kernel
theorem dX3_step_133 : decode cX3_step 133 = .ok (.aload_n 0, 1) := by decide +kernel
theorem dX3_step_134 : decode cX3_step 134 = .ok (.getfield 19, 3) := by decide +kernel
theorem dX3_step_137 : decode cX3_step 137 = .ok (.aload_n 0, 1) := by decide +kernel
theorem dX3_step_138 : decode cX3_step 138 = .ok (.getfield 15, 3) := by decide +kernel
theorem dX3_step_141 : decode cX3_step 141 = .ok (.if_icmp .ge 83, 3) := by decide +kernel
theorem dX3_step_144 : decode cX3_step 144 = .ok (.aload_n 0, 1) := by decide +kernel
theorem dX3_step_145 : decode cX3_step 145 = .ok (.getfield 19, 3) := by decide +kernel
theorem dX3_step_148 : decode cX3_step 148 = .ok (.sipush 160, 3) := by decide +kernel
theorem dX3_step_151 : decode cX3_step 151 = .ok (.if_icmp .ge 73, 3) := by decide +kernel
theorem dX3_step_154 : decode cX3_step 154 = .ok (.aload_n 0, 1) := by decide +kernel
theorem dX3_step_155 : decode cX3_step 155 = .ok (.getfield 9, 3) := by decide +kernel
theorem dX3_step_158 : decode cX3_step 158 = .ok (.aload_n 0, 1) := by decide +kernel
theorem dX3_step_159 : decode cX3_step 159 = .ok (.getfield 19, 3) := by decide +kernel
theorem dX3_step_162 : decode cX3_step 162 = .ok (.iaload, 1) := by decide +kernel
theorem dX3_step_163 : decode cX3_step 163 = .ok (.invokestatic 119, 3) := by decide +kernel
theorem dX3_step_166 : decode cX3_step 166 = .ok (.ifCond .eq 58, 3) := by decide +kernel
theorem dX3_step_169 : decode cX3_step 169 = .ok (.aload_n 0, 1) := by decide +kernel
theorem dX3_step_170 : decode cX3_step 170 = .ok (.aload_n 0, 1) := by decide +kernel
theorem dX3_step_171 : decode cX3_step 171 = .ok (.getfield 19, 3) := by decide +kernel
theorem dX3_step_174 : decode cX3_step 174 = .ok (.aload_n 0, 1) := by decide +kernel
theorem dX3_step_175 : decode cX3_step 175 = .ok (.getfield 22, 3) := by decide +kernel
theorem dX3_step_178 : decode cX3_step 178 = .ok (.isub, 1) := by decide +kernel
theorem dX3_step_179 : decode cX3_step 179 = .ok (.iconst 2, 1) := by decide +kernel
theorem dX3_step_180 : decode cX3_step 180 = .ok (.if_icmp .ge 26, 3) := by decide +kernel
theorem dX3_step_183 : decode cX3_step 183 = .ok (.bipush 10, 2) := by decide +kernel
theorem dX3_step_185 : decode cX3_step 185 = .ok (.aload_n 0, 1) := by decide +kernel
theorem dX3_step_186 : decode cX3_step 186 = .ok (.getfield 28, 3) := by decide +kernel
theorem dX3_step_189 : decode cX3_step 189 = .ok (.imul, 1) := by decide +kernel
theorem dX3_step_190 : decode cX3_step 190 = .ok (.aload_n 0, 1) := by decide +kernel
theorem dX3_step_191 : decode cX3_step 191 = .ok (.getfield 9, 3) := by decide +kernel
theorem dX3_step_194 : decode cX3_step 194 = .ok (.aload_n 0, 1) := by decide +kernel
theorem dX3_step_195 : decode cX3_step 195 = .ok (.getfield 19, 3) := by decide +kernel
theorem dX3_step_198 : decode cX3_step 198 = .ok (.iaload, 1) := by decide +kernel
theorem dX3_step_199 : decode cX3_step 199 = .ok (.iadd, 1) := by decide +kernel
theorem dX3_step_200 : decode cX3_step 200 = .ok (.bipush 48, 2) := by decide +kernel
theorem dX3_step_202 : decode cX3_step 202 = .ok (.isub, 1) := by decide +kernel
theorem dX3_step_203 : decode cX3_step 203 = .ok (.goto 5, 3) := by decide +kernel
theorem dX3_step_206 : decode cX3_step 206 = .ok (.bipush 100, 2) := by decide +kernel
theorem dX3_step_208 : decode cX3_step 208 = .ok (.putfield 28, 3) := by decide +kernel
theorem dX3_step_211 : decode cX3_step 211 = .ok (.aload_n 0, 1) := by decide +kernel
theorem dX3_step_212 : decode cX3_step 212 = .ok (.dup, 1) := by decide +kernel
theorem dX3_step_213 : decode cX3_step 213 = .ok (.getfield 19, 3) := by decide +kernel
theorem dX3_step_216 : decode cX3_step 216 = .ok (.iconst 1, 1) := by decide +kernel
theorem dX3_step_217 : decode cX3_step 217 = .ok (.iadd, 1) := by decide +kernel
theorem dX3_step_218 : decode cX3_step 218 = .ok (.putfield 19, 3) := by decide +kernel
theorem dX3_step_221 : decode cX3_step 221 = .ok (.goto (-88), 3) := by decide +kernel
theorem dX3_step_224 : decode cX3_step 224 = .ok (.return_, 1) := by decide +kernel
theorem dX3_isDigit_0 : decode cX3_isDigit 0 = .ok (.iload_n 0, 1) := by decide +kernel
theorem dX3_isDigit_1 : decode cX3_isDigit 1 = .ok (.bipush 48, 2) := by decide +kernel
theorem dX3_isDigit_3 : decode cX3_isDigit 3 = .ok (.if_icmp .lt 13, 3) := by decide +kernel
theorem dX3_isDigit_6 : decode cX3_isDigit 6 = .ok (.iload_n 0, 1) := by decide +kernel
theorem dX3_isDigit_7 : decode cX3_isDigit 7 = .ok (.bipush 57, 2) := by decide +kernel
theorem dX3_isDigit_9 : decode cX3_isDigit 9 = .ok (.if_icmp .gt 7, 3) := by decide +kernel
theorem dX3_isDigit_12 : decode cX3_isDigit 12 = .ok (.iconst 1, 1) := by decide +kernel
theorem dX3_isDigit_13 : decode cX3_isDigit 13 = .ok (.goto 4, 3) := by decide +kernel
theorem dX3_isDigit_16 : decode cX3_isDigit 16 = .ok (.iconst 0, 1) := by decide +kernel
theorem dX3_isDigit_17 : decode cX3_isDigit 17 = .ok (.ireturn, 1) := by decide +kernel
theorem dX4_init_0 : decode cX4_init 0 = .ok (.aload_n 0, 1) := by decide +kernel
theorem dX4_init_1 : decode cX4_init 1 = .ok (.invokespecial 1, 3) := by decide +kernel
theorem dX4_init_4 : decode cX4_init 4 = .ok (.aload_n 0, 1) := by decide +kernel
theorem dX4_init_5 : decode cX4_init 5 = .ok (.new 7, 3) := by decide +kernel
theorem dX4_init_8 : decode cX4_init 8 = .ok (.dup, 1) := by decide +kernel
theorem dX4_init_9 : decode cX4_init 9 = .ok (.invokespecial 9, 3) := by decide +kernel
theorem dX4_init_12 : decode cX4_init 12 = .ok (.putfield 10, 3) := by decide +kernel
theorem dX4_init_15 : decode cX4_init 15 = .ok (.aload_n 0, 1) := by decide +kernel
theorem dX4_init_16 : decode cX4_init 16 = .ok (.new 16, 3) := by decide +kernel
theorem dX4_init_19 : decode cX4_init 19 = .ok (.dup, 1) := by decide +kernel
theorem dX4_init_20 : decode cX4_init 20 = .ok (.invokespecial 18, 3) := by decide +kernel
theorem dX4_init_23 : decode cX4_init 23 = .ok (.putfield 19, 3) := by decide +kernel
theorem dX4_init_26 : decode cX4_init 26 = .ok (.aload_n 0, 1) := by decide +kernel
theorem dX4_init_27 : decode cX4_init 27 = .ok (.new 16, 3) := by decide +kernel
theorem dX4_init_30 : decode cX4_init 30 = .ok (.dup, 1) := by decide +kernel
theorem dX4_init_31 : decode cX4_init 31 = .ok (.invokespecial 18, 3) := by decide +kernel
theorem dX4_init_34 : decode cX4_init 34 = .ok (.putfield 23, 3) := by decide +kernel
theorem dX4_init_37 : decode cX4_init 37 = .ok (.aload_n 0, 1) := by decide +kernel
theorem dX4_init_38 : decode cX4_init 38 = .ok (.bipush 10, 2) := by decide +kernel
theorem dX4_init_40 : decode cX4_init 40 = .ok (.anewarray 16, 3) := by decide +kernel
theorem dX4_init_43 : decode cX4_init 43 = .ok (.putfield 26, 3) := by decide +kernel
theorem dX4_init_46 : decode cX4_init 46 = .ok (.aload_n 0, 1) := by decide +kernel
theorem dX4_init_47 : decode cX4_init 47 = .ok (.iconst 0, 1) := by decide +kernel
theorem dX4_init_48 : decode cX4_init 48 = .ok (.putfield 30, 3) := by decide +kernel
theorem dX4_init_51 : decode cX4_init 51 = .ok (.aload_n 0, 1) := by decide +kernel
theorem dX4_init_52 : decode cX4_init 52 = .ok (.iconst 0, 1) := by decide +kernel
theorem dX4_init_53 : decode cX4_init 53 = .ok (.putfield 34, 3) := by decide +kernel
theorem dX4_init_56 : decode cX4_init 56 = .ok (.aload_n 0, 1) := by decide +kernel
theorem dX4_init_57 : decode cX4_init 57 = .ok (.iconst 0, 1) := by decide +kernel
theorem dX4_init_58 : decode cX4_init 58 = .ok (.putfield 37, 3) := by decide +kernel
theorem dX4_init_61 : decode cX4_init 61 = .ok (.iconst 0, 1) := by decide +kernel
theorem dX4_init_62 : decode cX4_init 62 = .ok (.istore_n 1, 1) := by decide +kernel
theorem dX4_init_63 : decode cX4_init 63 = .ok (.iload_n 1, 1) := by decide +kernel
theorem dX4_init_64 : decode cX4_init 64 = .ok (.bipush 10, 2) := by decide +kernel
theorem dX4_init_66 : decode cX4_init 66 = .ok (.if_icmp .ge 22, 3) := by decide +kernel
theorem dX4_init_69 : decode cX4_init 69 = .ok (.aload_n 0, 1) := by decide +kernel
theorem dX4_init_70 : decode cX4_init 70 = .ok (.getfield 26, 3) := by decide +kernel
theorem dX4_init_73 : decode cX4_init 73 = .ok (.iload_n 1, 1) := by decide +kernel
theorem dX4_init_74 : decode cX4_init 74 = .ok (.new 16, 3) := by decide +kernel
theorem dX4_init_77 : decode cX4_init 77 = .ok (.dup, 1) := by decide +kernel
theorem dX4_init_78 : decode cX4_init 78 = .ok (.invokespecial 18, 3) := by decide +kernel
theorem dX4_init_81 : decode cX4_init 81 = .ok (.aastore, 1) := by decide +kernel
theorem dX4_init_82 : decode cX4_init 82 = .ok (.iinc 1 1, 3) := by decide +kernel
theorem dX4_init_85 : decode cX4_init 85 = .ok (.goto (-22), 3) := by decide +kernel
theorem dX4_init_88 : decode cX4_init 88 = .ok (.return_, 1) := by decide +kernel
theorem dX4_write_0 : decode cX4_write 0 = .ok (.iload_n 1, 1) := by decide +kernel
theorem dX4_write_1 : decode cX4_write 1 = .ok (.ifCond .lt 10, 3) := by decide +kernel
theorem dX4_write_4 : decode cX4_write 4 = .ok (.iload_n 1, 1) := by decide +kernel
theorem dX4_write_5 : decode cX4_write 5 = .ok (.sipush 255, 3) := by decide +kernel
theorem dX4_write_8 : decode cX4_write 8 = .ok (.if_icmp .le 6, 3) := by decide +kernel
theorem dX4_write_11 : decode cX4_write 11 = .ok (.ldc 41, 2) := by decide +kernel
theorem dX4_write_13 : decode cX4_write 13 = .ok (.ireturn, 1) := by decide +kernel
theorem dX4_write_14 : decode cX4_write 14 = .ok (.aload_n 0, 1) := by decide +kernel
theorem dX4_write_15 : decode cX4_write 15 = .ok (.getfield 10, 3) := by decide +kernel
theorem dX4_write_18 : decode cX4_write 18 = .ok (.iload_n 1, 1) := by decide +kernel
theorem dX4_write_19 : decode cX4_write 19 = .ok (.invokevirtual 42, 3) := by decide +kernel
theorem dX4_write_22 : decode cX4_write 22 = .ok (.ifCond .eq 13, 3) := by decide +kernel
theorem dX4_write_25 : decode cX4_write 25 = .ok (.aload_n 0, 1) := by decide +kernel
theorem dX4_write_26 : decode cX4_write 26 = .ok (.getfield 10, 3) := by decide +kernel
theorem dX4_write_29 : decode cX4_write 29 = .ok (.getfield 46, 3) := by decide +kernel
theorem dX4_write_32 : decode cX4_write 32 = .ok (.goto 5, 3) := by decide +kernel
theorem dX4_write_35 : decode cX4_write 35 = .ok (.ldc 49, 2) := by decide +kernel
theorem dX4_write_37 : decode cX4_write 37 = .ok (.ireturn, 1) := by decide +kernel
theorem dX4_house_0 : decode cX4_house 0 = .ok (.aload_n 0, 1) := by decide +kernel
theorem dX4_house_1 : decode cX4_house 1 = .ok (.getfield 10, 3) := by decide +kernel
theorem dX4_house_4 : decode cX4_house 4 = .ok (.aload_n 0, 1) := by decide +kernel
theorem dX4_house_5 : decode cX4_house 5 = .ok (.getfield 23, 3) := by decide +kernel
theorem dX4_house_8 : decode cX4_house 8 = .ok (.invokevirtual 50, 3) := by decide +kernel
theorem dX4_house_11 : decode cX4_house 11 = .ok (.istore_n 1, 1) := by decide +kernel
theorem dX4_house_12 : decode cX4_house 12 = .ok (.aload_n 0, 1) := by decide +kernel
theorem dX4_house_13 : decode cX4_house 13 = .ok (.getfield 10, 3) := by decide +kernel
theorem dX4_house_16 : decode cX4_house 16 = .ok (.iconst 0, 1) := by decide +kernel
theorem dX4_house_17 : decode cX4_house 17 = .ok (.putfield 46, 3) := by decide +kernel
theorem dX4_house_20 : decode cX4_house 20 = .ok (.iload_n 1, 1) := by decide +kernel
theorem dX4_house_21 : decode cX4_house 21 = .ok (.ifCond .ne 14, 3) := by decide +kernel
theorem dX4_house_24 : decode cX4_house 24 = .ok (.bipush (-100), 2) := by decide +kernel
theorem dX4_house_26 : decode cX4_house 26 = .ok (.aload_n 0, 1) := by decide +kernel
theorem dX4_house_27 : decode cX4_house 27 = .ok (.getfield 10, 3) := by decide +kernel
theorem dX4_house_30 : decode cX4_house 30 = .ok (.getfield 54, 3) := by decide +kernel
theorem dX4_house_33 : decode cX4_house 33 = .ok (.isub, 1) := by decide +kernel
theorem dX4_house_34 : decode cX4_house 34 = .ok (.ireturn, 1) := by decide +kernel
theorem dX4_house_35 : decode cX4_house 35 = .ok (.aload_n 0, 1) := by decide +kernel
theorem dX4_house_36 : decode cX4_house 36 = .ok (.getfield 23, 3) := by decide +kernel
theorem dX4_house_39 : decode cX4_house 39 = .ok (.invokevirtual 57, 3) := by decide +kernel
theorem dX4_house_42 : decode cX4_house 42 = .ok (.aload_n 0, 1) := by decide +kernel
theorem dX4_house_43 : decode cX4_house 43 = .ok (.getfield 19, 3) := by decide +kernel
theorem dX4_house_46 : decode cX4_house 46 = .ok (.aload_n 0, 1) := by decide +kernel
theorem dX4_house_47 : decode cX4_house 47 = .ok (.getfield 23, 3) := by decide +kernel
theorem dX4_house_50 : decode cX4_house 50 = .ok (.invokevirtual 60, 3) := by decide +kernel
theorem dX4_house_53 : decode cX4_house 53 = .ok (.aload_n 0, 1) := by decide +kernel
theorem dX4_house_54 : decode cX4_house 54 = .ok (.iconst 1, 1) := by decide +kernel
theorem dX4_house_55 : decode cX4_house 55 = .ok (.putfield 37, 3) := by decide +kernel
theorem dX4_house_58 : decode cX4_house 58 = .ok (.aload_n 0, 1) := by decide +kernel
theorem dX4_house_59 : decode cX4_house 59 = .ok (.iconst 0, 1) := by decide +kernel
theorem dX4_house_60 : decode cX4_house 60 = .ok (.putfield 34, 3) := by decide +kernel
theorem dX4_house_63 : decode cX4_house 63 = .ok (.aload_n 0, 1) := by decide +kernel
theorem dX4_house_64 : decode cX4_house 64 = .ok (.getfield 19, 3) := by decide +kernel
theorem dX4_house_67 : decode cX4_house 67 = .ok (.getfield 64, 3) := by decide +kernel
theorem dX4_house_70 : decode cX4_house 70 = .ok (.ireturn, 1) := by decide +kernel
theorem dX4_fault_0 : decode cX4_fault 0 = .ok (.aload_n 0, 1) := by decide +kernel
theorem dX4_fault_1 : decode cX4_fault 1 = .ok (.getfield 10, 3) := by decide +kernel
theorem dX4_fault_4 : decode cX4_fault 4 = .ok (.getfield 67, 3) := by decide +kernel
theorem dX4_fault_7 : decode cX4_fault 7 = .ok (.ireturn, 1) := by decide +kernel
theorem dX4_load_0 : decode cX4_load 0 = .ok (.aload_n 0, 1) := by decide +kernel
theorem dX4_load_1 : decode cX4_load 1 = .ok (.iload_n 1, 1) := by decide +kernel
theorem dX4_load_2 : decode cX4_load 2 = .ok (.iload_n 2, 1) := by decide +kernel
theorem dX4_load_3 : decode cX4_load 3 = .ok (.invokevirtual 70, 3) := by decide +kernel
theorem dX4_load_6 : decode cX4_load 6 = .ok (.ifCond .ne 6, 3) := by decide +kernel
theorem dX4_load_9 : decode cX4_load 9 = .ok (.ldc 74, 2) := by decide +kernel
theorem dX4_load_11 : decode cX4_load 11 = .ok (.ireturn, 1) := by decide +kernel
theorem dX4_load_12 : decode cX4_load 12 = .ok (.iload_n 3, 1) := by decide +kernel
theorem dX4_load_13 : decode cX4_load 13 = .ok (.iconst (-1), 1) := by decide +kernel
theorem dX4_load_14 : decode cX4_load 14 = .ok (.if_icmp .lt 10, 3) := by decide +kernel
theorem dX4_load_17 : decode cX4_load 17 = .ok (.iload_n 3, 1) := by decide +kernel
theorem dX4_load_18 : decode cX4_load 18 = .ok (.sipush 9999, 3) := by decide +kernel
theorem dX4_load_21 : decode cX4_load 21 = .ok (.if_icmp .le 6, 3) := by decide +kernel
theorem dX4_load_24 : decode cX4_load 24 = .ok (.ldc 41, 2) := by decide +kernel
theorem dX4_load_26 : decode cX4_load 26 = .ok (.ireturn, 1) := by decide +kernel
theorem dX4_load_27 : decode cX4_load 27 = .ok (.aload_n 0, 1) := by decide +kernel
theorem dX4_load_28 : decode cX4_load 28 = .ok (.invokevirtual 75, 3) := by decide +kernel
theorem dX4_load_31 : decode cX4_load 31 = .ok (.aload_n 0, 1) := by decide +kernel
theorem dX4_load_32 : decode cX4_load 32 = .ok (.getfield 19, 3) := by decide +kernel
theorem dX4_load_35 : decode cX4_load 35 = .ok (.getfield 78, 3) := by decide +kernel
theorem dX4_load_38 : decode cX4_load 38 = .ok (.iload_n 1, 1) := by decide +kernel
theorem dX4_load_39 : decode cX4_load 39 = .ok (.aaload, 1) := by decide +kernel
theorem dX4_load_40 : decode cX4_load 40 = .ok (.getfield 82, 3) := by decide +kernel
theorem dX4_load_43 : decode cX4_load 43 = .ok (.iload_n 2, 1) := by decide +kernel
theorem dX4_load_44 : decode cX4_load 44 = .ok (.aaload, 1) := by decide +kernel
theorem dX4_load_45 : decode cX4_load 45 = .ok (.astore 4, 2) := by decide +kernel
theorem dX4_load_47 : decode cX4_load 47 = .ok (.aload 4, 2) := by decide +kernel
theorem dX4_load_49 : decode cX4_load 49 = .ok (.getfield 88, 3) := by decide +kernel
theorem dX4_load_52 : decode cX4_load 52 = .ok (.istore 5, 2) := by decide +kernel
theorem dX4_load_54 : decode cX4_load 54 = .ok (.aload 4, 2) := by decide +kernel
theorem dX4_load_56 : decode cX4_load 56 = .ok (.iload_n 3, 1) := by decide +kernel
theorem dX4_load_57 : decode cX4_load 57 = .ok (.putfield 88, 3) := by decide +kernel
theorem dX4_load_60 : decode cX4_load 60 = .ok (.iload 5, 2) := by decide +kernel
theorem dX4_load_62 : decode cX4_load 62 = .ok (.ireturn, 1) := by decide +kernel
theorem dX4_set_0 : decode cX4_set 0 = .ok (.aload_n 0, 1) := by decide +kernel
theorem dX4_set_1 : decode cX4_set 1 = .ok (.iload_n 1, 1) := by decide +kernel
theorem dX4_set_2 : decode cX4_set 2 = .ok (.invokevirtual 93, 3) := by decide +kernel
theorem dX4_set_5 : decode cX4_set 5 = .ok (.ifCond .ne 6, 3) := by decide +kernel
theorem dX4_set_8 : decode cX4_set 8 = .ok (.ldc 74, 2) := by decide +kernel
theorem dX4_set_10 : decode cX4_set 10 = .ok (.ireturn, 1) := by decide +kernel
theorem dX4_set_11 : decode cX4_set 11 = .ok (.iload_n 2, 1) := by decide +kernel
theorem dX4_set_12 : decode cX4_set 12 = .ok (.ifCond .lt 27, 3) := by decide +kernel
theorem dX4_set_15 : decode cX4_set 15 = .ok (.iload_n 2, 1) := by decide +kernel
theorem dX4_set_16 : decode cX4_set 16 = .ok (.bipush 9, 2) := by decide +kernel
theorem dX4_set_18 : decode cX4_set 18 = .ok (.if_icmp .ge 21, 3) := by decide +kernel
theorem dX4_set_21 : decode cX4_set 21 = .ok (.iload_n 3, 1) := by decide +kernel
theorem dX4_set_22 : decode cX4_set 22 = .ok (.getstatic 96, 3) := by decide +kernel
theorem dX4_set_25 : decode cX4_set 25 = .ok (.iload_n 2, 1) := by decide +kernel
theorem dX4_set_26 : decode cX4_set 26 = .ok (.iaload, 1) := by decide +kernel
theorem dX4_set_27 : decode cX4_set 27 = .ok (.if_icmp .lt 12, 3) := by decide +kernel
theorem dX4_set_30 : decode cX4_set 30 = .ok (.iload_n 3, 1) := by decide +kernel
theorem dX4_set_31 : decode cX4_set 31 = .ok (.getstatic 100, 3) := by decide +kernel
theorem dX4_set_34 : decode cX4_set 34 = .ok (.iload_n 2, 1) := by decide +kernel
theorem dX4_set_35 : decode cX4_set 35 = .ok (.iaload, 1) := by decide +kernel
theorem dX4_set_36 : decode cX4_set 36 = .ok (.if_icmp .le 6, 3) := by decide +kernel
theorem dX4_set_39 : decode cX4_set 39 = .ok (.ldc 41, 2) := by decide +kernel
theorem dX4_set_41 : decode cX4_set 41 = .ok (.ireturn, 1) := by decide +kernel
theorem dX4_set_42 : decode cX4_set 42 = .ok (.aload_n 0, 1) := by decide +kernel
theorem dX4_set_43 : decode cX4_set 43 = .ok (.getfield 19, 3) := by decide +kernel
theorem dX4_set_46 : decode cX4_set 46 = .ok (.getfield 78, 3) := by decide +kernel
theorem dX4_set_49 : decode cX4_set 49 = .ok (.iload_n 1, 1) := by decide +kernel
theorem dX4_set_50 : decode cX4_set 50 = .ok (.aaload, 1) := by decide +kernel
theorem dX4_set_51 : decode cX4_set 51 = .ok (.getfield 103, 3) := by decide +kernel
theorem dX4_set_54 : decode cX4_set 54 = .ok (.astore 4, 2) := by decide +kernel
theorem dX4_set_56 : decode cX4_set 56 = .ok (.iload_n 2, 1) := by decide +kernel
theorem dX4_set_57 : decode cX4_set 57 = .ok (.iconst 1, 1) := by decide +kernel
theorem dX4_set_58 : decode cX4_set 58 = .ok (.if_icmp .ne 14, 3) := by decide +kernel
theorem dX4_set_61 : decode cX4_set 61 = .ok (.aload 4, 2) := by decide +kernel
theorem dX4_set_63 : decode cX4_set 63 = .ok (.iconst 0, 1) := by decide +kernel
theorem dX4_set_64 : decode cX4_set 64 = .ok (.iaload, 1) := by decide +kernel
theorem dX4_set_65 : decode cX4_set 65 = .ok (.iload_n 3, 1) := by decide +kernel
theorem dX4_set_66 : decode cX4_set 66 = .ok (.if_icmp .le 6, 3) := by decide +kernel
theorem dX4_set_69 : decode cX4_set 69 = .ok (.ldc 106, 2) := by decide +kernel
theorem dX4_set_71 : decode cX4_set 71 = .ok (.ireturn, 1) := by decide +kernel
theorem dX4_set_72 : decode cX4_set 72 = .ok (.iload_n 2, 1) := by decide +kernel
theorem dX4_set_73 : decode cX4_set 73 = .ok (.ifCond .ne 40, 3) := by decide +kernel
theorem dX4_set_76 : decode cX4_set 76 = .ok (.iload_n 3, 1) := by decide +kernel
theorem dX4_set_77 : decode cX4_set 77 = .ok (.aload 4, 2) := by decide +kernel
theorem dX4_set_79 : decode cX4_set 79 = .ok (.iconst 1, 1) := by decide +kernel
theorem dX4_set_80 : decode cX4_set 80 = .ok (.iaload, 1) := by decide +kernel
theorem dX4_set_81 : decode cX4_set 81 = .ok (.if_icmp .gt 29, 3) := by decide +kernel
theorem dX4_set_84 : decode cX4_set 84 = .ok (.aload_n 0, 1) := by decide +kernel
theorem dX4_set_85 : decode cX4_set 85 = .ok (.getfield 19, 3) := by decide +kernel
theorem dX4_set_88 : decode cX4_set 88 = .ok (.invokevirtual 107, 3) := by decide +kernel
theorem dX4_set_91 : decode cX4_set 91 = .ok (.aload 4, 2) := by decide +kernel
theorem dX4_set_93 : decode cX4_set 93 = .ok (.iconst 0, 1) := by decide +kernel
theorem dX4_set_94 : decode cX4_set 94 = .ok (.iaload, 1) := by decide +kernel
theorem dX4_set_95 : decode cX4_set 95 = .ok (.isub, 1) := by decide +kernel
theorem dX4_set_96 : decode cX4_set 96 = .ok (.iload_n 3, 1) := by decide +kernel
theorem dX4_set_97 : decode cX4_set 97 = .ok (.iadd, 1) := by decide +kernel
theorem dX4_set_98 : decode cX4_set 98 = .ok (.aload_n 0, 1) := by decide +kernel
theorem dX4_set_99 : decode cX4_set 99 = .ok (.getfield 19, 3) := by decide +kernel
theorem dX4_set_102 : decode cX4_set 102 = .ok (.getfield 111, 3) := by decide +kernel
theorem dX4_set_105 : decode cX4_set 105 = .ok (.iconst 0, 1) := by decide +kernel
theorem dX4_set_106 : decode cX4_set 106 = .ok (.iaload, 1) := by decide +kernel
theorem dX4_set_107 : decode cX4_set 107 = .ok (.if_icmp .le 6, 3) := by decide +kernel
theorem dX4_set_110 : decode cX4_set 110 = .ok (.ldc 106, 2) := by decide +kernel
theorem dX4_set_112 : decode cX4_set 112 = .ok (.ireturn, 1) := by decide +kernel
theorem dX4_set_113 : decode cX4_set 113 = .ok (.aload_n 0, 1) := by decide +kernel
theorem dX4_set_114 : decode cX4_set 114 = .ok (.invokevirtual 75, 3) := by decide +kernel
theorem dX4_set_117 : decode cX4_set 117 = .ok (.aload 4, 2) := by decide +kernel
theorem dX4_set_119 : decode cX4_set 119 = .ok (.iload_n 2, 1) := by decide +kernel
theorem dX4_set_120 : decode cX4_set 120 = .ok (.iaload, 1) := by decide +kernel
theorem dX4_set_121 : decode cX4_set 121 = .ok (.istore 5, 2) := by decide +kernel
theorem dX4_set_123 : decode cX4_set 123 = .ok (.aload 4, 2) := by decide +kernel
theorem dX4_set_125 : decode cX4_set 125 = .ok (.iload_n 2, 1) := by decide +kernel
theorem dX4_set_126 : decode cX4_set 126 = .ok (.iload_n 3, 1) := by decide +kernel
theorem dX4_set_127 : decode cX4_set 127 = .ok (.iastore, 1) := by decide +kernel
theorem dX4_set_128 : decode cX4_set 128 = .ok (.iload 5, 2) := by decide +kernel
theorem dX4_set_130 : decode cX4_set 130 = .ok (.ireturn, 1) := by decide +kernel
theorem dX4_round_0 : decode cX4_round 0 = .ok (.aload_n 0, 1) := by decide +kernel
theorem dX4_round_1 : decode cX4_round 1 = .ok (.getfield 37, 3) := by decide +kernel
theorem dX4_round_4 : decode cX4_round 4 = .ok (.ifCond .ne 6, 3) := by decide +kernel
theorem dX4_round_7 : decode cX4_round 7 = .ok (.ldc 74, 2) := by decide +kernel
theorem dX4_round_9 : decode cX4_round 9 = .ok (.ireturn, 1) := by decide +kernel
theorem dX4_round_10 : decode cX4_round 10 = .ok (.aload_n 0, 1) := by decide +kernel
theorem dX4_round_11 : decode cX4_round 11 = .ok (.invokevirtual 75, 3) := by decide +kernel
theorem dX4_round_14 : decode cX4_round 14 = .ok (.aload_n 0, 1) := by decide +kernel
theorem dX4_round_15 : decode cX4_round 15 = .ok (.getfield 19, 3) := by decide +kernel
theorem dX4_round_18 : decode cX4_round 18 = .ok (.invokevirtual 112, 3) := by decide +kernel
theorem dX4_round_21 : decode cX4_round 21 = .ok (.aload_n 0, 1) := by decide +kernel
theorem dX4_round_22 : decode cX4_round 22 = .ok (.getfield 19, 3) := by decide +kernel
theorem dX4_round_25 : decode cX4_round 25 = .ok (.invokevirtual 115, 3) := by decide +kernel
theorem dX4_round_28 : decode cX4_round 28 = .ok (.ireturn, 1) := by decide +kernel
theorem dX4_undo_0 : decode cX4_undo 0 = .ok (.aload_n 0, 1) := by decide +kernel
theorem dX4_undo_1 : decode cX4_undo 1 = .ok (.getfield 37, 3) := by decide +kernel
theorem dX4_undo_4 : decode cX4_undo 4 = .ok (.ifCond .ne 6, 3) := by decide +kernel
theorem dX4_undo_7 : decode cX4_undo 7 = .ok (.ldc 74, 2) := by decide +kernel
theorem dX4_undo_9 : decode cX4_undo 9 = .ok (.ireturn, 1) := by decide +kernel
theorem dX4_undo_10 : decode cX4_undo 10 = .ok (.aload_n 0, 1) := by decide +kernel
theorem dX4_undo_11 : decode cX4_undo 11 = .ok (.getfield 34, 3) := by decide +kernel
theorem dX4_undo_14 : decode cX4_undo 14 = .ok (.ifCond .ne 6, 3) := by decide +kernel
theorem dX4_undo_17 : decode cX4_undo 17 = .ok (.ldc 106, 2) := by decide +kernel
theorem dX4_undo_19 : decode cX4_undo 19 = .ok (.ireturn, 1) := by decide +kernel
theorem dX4_undo_20 : decode cX4_undo 20 = .ok (.aload_n 0, 1) := by decide +kernel
theorem dX4_undo_21 : decode cX4_undo 21 = .ok (.aload_n 0, 1) := by decide +kernel
theorem dX4_undo_22 : decode cX4_undo 22 = .ok (.getfield 30, 3) := by decide +kernel
theorem dX4_undo_25 : decode cX4_undo 25 = .ok (.ifCond .ne 8, 3) := by decide +kernel
theorem dX4_undo_28 : decode cX4_undo 28 = .ok (.bipush 9, 2) := by decide +kernel
theorem dX4_undo_30 : decode cX4_undo 30 = .ok (.goto 9, 3) := by decide +kernel
theorem dX4_undo_33 : decode cX4_undo 33 = .ok (.aload_n 0, 1) := by decide +kernel
theorem dX4_undo_34 : decode cX4_undo 34 = .ok (.getfield 30, 3) := by decide +kernel
theorem dX4_undo_37 : decode cX4_undo 37 = .ok (.iconst 1, 1) := by decide +kernel
theorem dX4_undo_38 : decode cX4_undo 38 = .ok (.isub, 1) := by decide +kernel
theorem dX4_undo_39 : decode cX4_undo 39 = .ok (.putfield 30, 3) := by decide +kernel
theorem dX4_undo_42 : decode cX4_undo 42 = .ok (.aload_n 0, 1) := by decide +kernel
theorem dX4_undo_43 : decode cX4_undo 43 = .ok (.getfield 19, 3) := by decide +kernel
theorem dX4_undo_46 : decode cX4_undo 46 = .ok (.aload_n 0, 1) := by decide +kernel
theorem dX4_undo_47 : decode cX4_undo 47 = .ok (.getfield 26, 3) := by decide +kernel
theorem dX4_undo_50 : decode cX4_undo 50 = .ok (.aload_n 0, 1) := by decide +kernel
theorem dX4_undo_51 : decode cX4_undo 51 = .ok (.getfield 30, 3) := by decide +kernel
theorem dX4_undo_54 : decode cX4_undo 54 = .ok (.aaload, 1) := by decide +kernel
theorem dX4_undo_55 : decode cX4_undo 55 = .ok (.invokevirtual 60, 3) := by decide +kernel
theorem dX4_undo_58 : decode cX4_undo 58 = .ok (.aload_n 0, 1) := by decide +kernel
theorem dX4_undo_59 : decode cX4_undo 59 = .ok (.dup, 1) := by decide +kernel
theorem dX4_undo_60 : decode cX4_undo 60 = .ok (.getfield 34, 3) := by decide +kernel
theorem dX4_undo_63 : decode cX4_undo 63 = .ok (.iconst 1, 1) := by decide +kernel
theorem dX4_undo_64 : decode cX4_undo 64 = .ok (.isub, 1) := by decide +kernel
theorem dX4_undo_65 : decode cX4_undo 65 = .ok (.putfield 34, 3) := by decide +kernel
theorem dX4_undo_68 : decode cX4_undo 68 = .ok (.aload_n 0, 1) := by decide +kernel
theorem dX4_undo_69 : decode cX4_undo 69 = .ok (.getfield 34, 3) := by decide +kernel
theorem dX4_undo_72 : decode cX4_undo 72 = .ok (.ireturn, 1) := by decide +kernel
theorem dX4_service_0 : decode cX4_service 0 = .ok (.aload_n 0, 1) := by decide +kernel
theorem dX4_service_1 : decode cX4_service 1 = .ok (.iload_n 1, 1) := by decide +kernel
theorem dX4_service_2 : decode cX4_service 2 = .ok (.invokevirtual 93, 3) := by decide +kernel
theorem dX4_service_5 : decode cX4_service 5 = .ok (.ifCond .ne 6, 3) := by decide +kernel
theorem dX4_service_8 : decode cX4_service 8 = .ok (.ldc 74, 2) := by decide +kernel
theorem dX4_service_10 : decode cX4_service 10 = .ok (.ireturn, 1) := by decide +kernel
theorem dX4_service_11 : decode cX4_service 11 = .ok (.aload_n 0, 1) := by decide +kernel
theorem dX4_service_12 : decode cX4_service 12 = .ok (.getfield 19, 3) := by decide +kernel
theorem dX4_service_15 : decode cX4_service 15 = .ok (.getfield 78, 3) := by decide +kernel
theorem dX4_service_18 : decode cX4_service 18 = .ok (.iload_n 1, 1) := by decide +kernel
theorem dX4_service_19 : decode cX4_service 19 = .ok (.aaload, 1) := by decide +kernel
theorem dX4_service_20 : decode cX4_service 20 = .ok (.astore_n 3, 1) := by decide +kernel
theorem dX4_service_21 : decode cX4_service 21 = .ok (.iload_n 2, 1) := by decide +kernel
theorem dX4_service_22 : decode cX4_service 22 = .ok (.ifCond .lt 16, 3) := by decide +kernel
theorem dX4_service_25 : decode cX4_service 25 = .ok (.iload_n 2, 1) := by decide +kernel
theorem dX4_service_26 : decode cX4_service 26 = .ok (.bipush 9, 2) := by decide +kernel
theorem dX4_service_28 : decode cX4_service 28 = .ok (.if_icmp .ge 10, 3) := by decide +kernel
theorem dX4_service_31 : decode cX4_service 31 = .ok (.aload_n 3, 1) := by decide +kernel
theorem dX4_service_32 : decode cX4_service 32 = .ok (.getfield 103, 3) := by decide +kernel
theorem dX4_service_35 : decode cX4_service 35 = .ok (.iload_n 2, 1) := by decide +kernel
theorem dX4_service_36 : decode cX4_service 36 = .ok (.iaload, 1) := by decide +kernel
theorem dX4_service_37 : decode cX4_service 37 = .ok (.ireturn, 1) := by decide +kernel
theorem dX4_service_38 : decode cX4_service 38 = .ok (.iload_n 2, 1) := by decide +kernel
theorem dX4_service_39 : decode cX4_service 39 = .ok (.tableswitch 83 9 15 #[41, 46, 51, 56, 68, 73, 78], 41) := by decide +kernel
theorem dX4_service_80 : decode cX4_service 80 = .ok (.aload_n 3, 1) := by decide +kernel
theorem dX4_service_81 : decode cX4_service 81 = .ok (.getfield 118, 3) := by decide +kernel
theorem dX4_service_84 : decode cX4_service 84 = .ok (.ireturn, 1) := by decide +kernel
theorem dX4_service_85 : decode cX4_service 85 = .ok (.aload_n 3, 1) := by decide +kernel
theorem dX4_service_86 : decode cX4_service 86 = .ok (.getfield 121, 3) := by decide +kernel
theorem dX4_service_89 : decode cX4_service 89 = .ok (.ireturn, 1) := by decide +kernel
theorem dX4_service_90 : decode cX4_service 90 = .ok (.aload_n 3, 1) := by decide +kernel
theorem dX4_service_91 : decode cX4_service 91 = .ok (.getfield 124, 3) := by decide +kernel
theorem dX4_service_94 : decode cX4_service 94 = .ok (.ireturn, 1) := by decide +kernel
theorem dX4_service_95 : decode cX4_service 95 = .ok (.aload_n 3, 1) := by decide +kernel
theorem dX4_service_96 : decode cX4_service 96 = .ok (.aload_n 0, 1) := by decide +kernel
theorem dX4_service_97 : decode cX4_service 97 = .ok (.getfield 19, 3) := by decide +kernel
theorem dX4_service_100 : decode cX4_service 100 = .ok (.getfield 127, 3) := by decide +kernel
theorem dX4_service_103 : decode cX4_service 103 = .ok (.invokevirtual 130, 3) := by decide +kernel
theorem dX4_service_106 : decode cX4_service 106 = .ok (.ireturn, 1) := by decide +kernel
theorem dX4_service_107 : decode cX4_service 107 = .ok (.aload_n 3, 1) := by decide +kernel
theorem dX4_service_108 : decode cX4_service 108 = .ok (.getfield 134, 3) := by decide +kernel
theorem dX4_service_111 : decode cX4_service 111 = .ok (.ireturn, 1) := by decide +kernel
theorem dX4_service_112 : decode cX4_service 112 = .ok (.aload_n 3, 1) := by decide +kernel
theorem dX4_service_113 : decode cX4_service 113 = .ok (.getfield 137, 3) := by decide +kernel
theorem dX4_service_116 : decode cX4_service 116 = .ok (.ireturn, 1) := by decide +kernel
theorem dX4_service_117 : decode cX4_service 117 = .ok (.aload_n 3, 1) := by decide +kernel
theorem dX4_service_118 : decode cX4_service 118 = .ok (.getfield 140, 3) := by decide +kernel
theorem dX4_service_121 : decode cX4_service 121 = .ok (.ireturn, 1) := by decide +kernel
theorem dX4_service_122 : decode cX4_service 122 = .ok (.ldc 41, 2) := by decide +kernel
theorem dX4_service_124 : decode cX4_service 124 = .ok (.ireturn, 1) := by decide +kernel
theorem dX4_measure_0 : decode cX4_measure 0 = .ok (.aload_n 0, 1) := by decide +kernel
theorem dX4_measure_1 : decode cX4_measure 1 = .ok (.iload_n 1, 1) := by decide +kernel
theorem dX4_measure_2 : decode cX4_measure 2 = .ok (.iload_n 2, 1) := by decide +kernel
theorem dX4_measure_3 : decode cX4_measure 3 = .ok (.invokevirtual 70, 3) := by decide +kernel
theorem dX4_measure_6 : decode cX4_measure 6 = .ok (.ifCond .ne 6, 3) := by decide +kernel
theorem dX4_measure_9 : decode cX4_measure 9 = .ok (.ldc 74, 2) := by decide +kernel
theorem dX4_measure_11 : decode cX4_measure 11 = .ok (.ireturn, 1) := by decide +kernel
theorem dX4_measure_12 : decode cX4_measure 12 = .ok (.aload_n 0, 1) := by decide +kernel
theorem dX4_measure_13 : decode cX4_measure 13 = .ok (.getfield 19, 3) := by decide +kernel
theorem dX4_measure_16 : decode cX4_measure 16 = .ok (.getfield 78, 3) := by decide +kernel
theorem dX4_measure_19 : decode cX4_measure 19 = .ok (.iload_n 1, 1) := by decide +kernel
theorem dX4_measure_20 : decode cX4_measure 20 = .ok (.aaload, 1) := by decide +kernel
theorem dX4_measure_21 : decode cX4_measure 21 = .ok (.getfield 82, 3) := by decide +kernel
theorem dX4_measure_24 : decode cX4_measure 24 = .ok (.iload_n 2, 1) := by decide +kernel
theorem dX4_measure_25 : decode cX4_measure 25 = .ok (.aaload, 1) := by decide +kernel
theorem dX4_measure_26 : decode cX4_measure 26 = .ok (.astore 4, 2) := by decide +kernel
theorem dX4_measure_28 : decode cX4_measure 28 = .ok (.aload_n 0, 1) := by decide +kernel
theorem dX4_measure_29 : decode cX4_measure 29 = .ok (.getfield 19, 3) := by decide +kernel
theorem dX4_measure_32 : decode cX4_measure 32 = .ok (.invokevirtual 143, 3) := by decide +kernel
theorem dX4_measure_35 : decode cX4_measure 35 = .ok (.istore 5, 2) := by decide +kernel
theorem dX4_measure_37 : decode cX4_measure 37 = .ok (.iload_n 3, 1) := by decide +kernel
theorem dX4_measure_38 : decode cX4_measure 38 = .ok (.bipush 10, 2) := by decide +kernel
theorem dX4_measure_40 : decode cX4_measure 40 = .ok (.if_icmp .lt 36, 3) := by decide +kernel
theorem dX4_measure_43 : decode cX4_measure 43 = .ok (.iload_n 3, 1) := by decide +kernel
theorem dX4_measure_44 : decode cX4_measure 44 = .ok (.bipush 10, 2) := by decide +kernel
theorem dX4_measure_46 : decode cX4_measure 46 = .ok (.iload 5, 2) := by decide +kernel
theorem dX4_measure_48 : decode cX4_measure 48 = .ok (.iadd, 1) := by decide +kernel
theorem dX4_measure_49 : decode cX4_measure 49 = .ok (.if_icmp .ge 27, 3) := by decide +kernel
theorem dX4_measure_52 : decode cX4_measure 52 = .ok (.aload 4, 2) := by decide +kernel
theorem dX4_measure_54 : decode cX4_measure 54 = .ok (.getfield 146, 3) := by decide +kernel
theorem dX4_measure_57 : decode cX4_measure 57 = .ok (.aload_n 0, 1) := by decide +kernel
theorem dX4_measure_58 : decode cX4_measure 58 = .ok (.getfield 19, 3) := by decide +kernel
theorem dX4_measure_61 : decode cX4_measure 61 = .ok (.getfield 127, 3) := by decide +kernel
theorem dX4_measure_64 : decode cX4_measure 64 = .ok (.iconst 1, 1) := by decide +kernel
theorem dX4_measure_65 : decode cX4_measure 65 = .ok (.isub, 1) := by decide +kernel
theorem dX4_measure_66 : decode cX4_measure 66 = .ok (.iload_n 3, 1) := by decide +kernel
theorem dX4_measure_67 : decode cX4_measure 67 = .ok (.bipush 10, 2) := by decide +kernel
theorem dX4_measure_69 : decode cX4_measure 69 = .ok (.isub, 1) := by decide +kernel
theorem dX4_measure_70 : decode cX4_measure 70 = .ok (.isub, 1) := by decide +kernel
theorem dX4_measure_71 : decode cX4_measure 71 = .ok (.bipush 31, 2) := by decide +kernel
theorem dX4_measure_73 : decode cX4_measure 73 = .ok (.iand, 1) := by decide +kernel
theorem dX4_measure_74 : decode cX4_measure 74 = .ok (.iaload, 1) := by decide +kernel
theorem dX4_measure_75 : decode cX4_measure 75 = .ok (.ireturn, 1) := by decide +kernel
theorem dX4_measure_76 : decode cX4_measure 76 = .ok (.iload_n 3, 1) := by decide +kernel
theorem dX4_measure_77 : decode cX4_measure 77 = .ok (.tableswitch 75 0 4 #[35, 41, 47, 53, 72], 35) := by decide +kernel
theorem dX4_measure_112 : decode cX4_measure 112 = .ok (.aload 4, 2) := by decide +kernel
theorem dX4_measure_114 : decode cX4_measure 114 = .ok (.getfield 149, 3) := by decide +kernel
theorem dX4_measure_117 : decode cX4_measure 117 = .ok (.ireturn, 1) := by decide +kernel
theorem dX4_measure_118 : decode cX4_measure 118 = .ok (.aload 4, 2) := by decide +kernel
theorem dX4_measure_120 : decode cX4_measure 120 = .ok (.getfield 152, 3) := by decide +kernel
theorem dX4_measure_123 : decode cX4_measure 123 = .ok (.ireturn, 1) := by decide +kernel
theorem dX4_measure_124 : decode cX4_measure 124 = .ok (.aload 4, 2) := by decide +kernel
theorem dX4_measure_126 : decode cX4_measure 126 = .ok (.getfield 88, 3) := by decide +kernel
theorem dX4_measure_129 : decode cX4_measure 129 = .ok (.ireturn, 1) := by decide +kernel
theorem dX4_measure_130 : decode cX4_measure 130 = .ok (.aload_n 0, 1) := by decide +kernel
theorem dX4_measure_131 : decode cX4_measure 131 = .ok (.getfield 19, 3) := by decide +kernel
theorem dX4_measure_134 : decode cX4_measure 134 = .ok (.aload_n 0, 1) := by decide +kernel
theorem dX4_measure_135 : decode cX4_measure 135 = .ok (.getfield 19, 3) := by decide +kernel
theorem dX4_measure_138 : decode cX4_measure 138 = .ok (.getfield 78, 3) := by decide +kernel
theorem dX4_measure_141 : decode cX4_measure 141 = .ok (.iload_n 1, 1) := by decide +kernel
theorem dX4_measure_142 : decode cX4_measure 142 = .ok (.aaload, 1) := by decide +kernel
theorem dX4_measure_143 : decode cX4_measure 143 = .ok (.aload 4, 2) := by decide +kernel
theorem dX4_measure_145 : decode cX4_measure 145 = .ok (.invokevirtual 155, 3) := by decide +kernel
theorem dX4_measure_148 : decode cX4_measure 148 = .ok (.ireturn, 1) := by decide +kernel
theorem dX4_measure_149 : decode cX4_measure 149 = .ok (.iload 5, 2) := by decide +kernel
theorem dX4_measure_151 : decode cX4_measure 151 = .ok (.ireturn, 1) := by decide +kernel
theorem dX4_measure_152 : decode cX4_measure 152 = .ok (.ldc 41, 2) := by decide +kernel
theorem dX4_measure_154 : decode cX4_measure 154 = .ok (.ireturn, 1) := by decide +kernel
theorem dX4_starting_0 : decode cX4_starting 0 = .ok (.aload_n 0, 1) := by decide +kernel
theorem dX4_starting_1 : decode cX4_starting 1 = .ok (.iload_n 1, 1) := by decide +kernel
theorem dX4_starting_2 : decode cX4_starting 2 = .ok (.invokevirtual 93, 3) := by decide +kernel
theorem dX4_starting_5 : decode cX4_starting 5 = .ok (.ifCond .ne 6, 3) := by decide +kernel
theorem dX4_starting_8 : decode cX4_starting 8 = .ok (.ldc 74, 2) := by decide +kernel
theorem dX4_starting_10 : decode cX4_starting 10 = .ok (.ireturn, 1) := by decide +kernel
theorem dX4_starting_11 : decode cX4_starting 11 = .ok (.iload_n 2, 1) := by decide +kernel
theorem dX4_starting_12 : decode cX4_starting 12 = .ok (.aload_n 0, 1) := by decide +kernel
theorem dX4_starting_13 : decode cX4_starting 13 = .ok (.getfield 19, 3) := by decide +kernel
theorem dX4_starting_16 : decode cX4_starting 16 = .ok (.getfield 127, 3) := by decide +kernel
theorem dX4_starting_19 : decode cX4_starting 19 = .ok (.if_icmp .lt 17, 3) := by decide +kernel
theorem dX4_starting_22 : decode cX4_starting 22 = .ok (.iload_n 2, 1) := by decide +kernel
theorem dX4_starting_23 : decode cX4_starting 23 = .ok (.aload_n 0, 1) := by decide +kernel
theorem dX4_starting_24 : decode cX4_starting 24 = .ok (.getfield 19, 3) := by decide +kernel
theorem dX4_starting_27 : decode cX4_starting 27 = .ok (.getfield 127, 3) := by decide +kernel
theorem dX4_starting_30 : decode cX4_starting 30 = .ok (.bipush 6, 2) := by decide +kernel
theorem dX4_starting_32 : decode cX4_starting 32 = .ok (.iadd, 1) := by decide +kernel
theorem dX4_starting_33 : decode cX4_starting 33 = .ok (.if_icmp .le 6, 3) := by decide +kernel
theorem dX4_starting_36 : decode cX4_starting 36 = .ok (.ldc 41, 2) := by decide +kernel
theorem dX4_starting_38 : decode cX4_starting 38 = .ok (.ireturn, 1) := by decide +kernel
theorem dX4_starting_39 : decode cX4_starting 39 = .ok (.aload_n 0, 1) := by decide +kernel
theorem dX4_starting_40 : decode cX4_starting 40 = .ok (.getfield 19, 3) := by decide +kernel
theorem dX4_starting_43 : decode cX4_starting 43 = .ok (.getfield 78, 3) := by decide +kernel
theorem dX4_starting_46 : decode cX4_starting 46 = .ok (.iload_n 1, 1) := by decide +kernel
theorem dX4_starting_47 : decode cX4_starting 47 = .ok (.aaload, 1) := by decide +kernel
theorem dX4_starting_48 : decode cX4_starting 48 = .ok (.getfield 159, 3) := by decide +kernel
theorem dX4_starting_51 : decode cX4_starting 51 = .ok (.iload_n 2, 1) := by decide +kernel
theorem dX4_starting_52 : decode cX4_starting 52 = .ok (.bipush 7, 2) := by decide +kernel
theorem dX4_starting_54 : decode cX4_starting 54 = .ok (.iand, 1) := by decide +kernel
theorem dX4_starting_55 : decode cX4_starting 55 = .ok (.iaload, 1) := by decide +kernel
theorem dX4_starting_56 : decode cX4_starting 56 = .ok (.ireturn, 1) := by decide +kernel
theorem dX4_count_0 : decode cX4_count 0 = .ok (.iload_n 1, 1) := by decide +kernel
theorem dX4_count_1 : decode cX4_count 1 = .ok (.bipush 10, 2) := by decide +kernel
theorem dX4_count_3 : decode cX4_count 3 = .ok (.if_icmp .ne 11, 3) := by decide +kernel
theorem dX4_count_6 : decode cX4_count 6 = .ok (.aload_n 0, 1) := by decide +kernel
theorem dX4_count_7 : decode cX4_count 7 = .ok (.getfield 10, 3) := by decide +kernel
theorem dX4_count_10 : decode cX4_count 10 = .ok (.getfield 46, 3) := by decide +kernel
theorem dX4_count_13 : decode cX4_count 13 = .ok (.ireturn, 1) := by decide +kernel
theorem dX4_count_14 : decode cX4_count 14 = .ok (.aload_n 0, 1) := by decide +kernel
theorem dX4_count_15 : decode cX4_count 15 = .ok (.getfield 37, 3) := by decide +kernel
theorem dX4_count_18 : decode cX4_count 18 = .ok (.ifCond .ne 6, 3) := by decide +kernel
theorem dX4_count_21 : decode cX4_count 21 = .ok (.ldc 74, 2) := by decide +kernel
theorem dX4_count_23 : decode cX4_count 23 = .ok (.ireturn, 1) := by decide +kernel
theorem dX4_count_24 : decode cX4_count 24 = .ok (.iload_n 1, 1) := by decide +kernel
theorem dX4_count_25 : decode cX4_count 25 = .ok (.iconst 4, 1) := by decide +kernel
theorem dX4_count_26 : decode cX4_count 26 = .ok (.if_icmp .lt 21, 3) := by decide +kernel
theorem dX4_count_29 : decode cX4_count 29 = .ok (.iload_n 1, 1) := by decide +kernel
theorem dX4_count_30 : decode cX4_count 30 = .ok (.bipush 9, 2) := by decide +kernel
theorem dX4_count_32 : decode cX4_count 32 = .ok (.if_icmp .ge 15, 3) := by decide +kernel
theorem dX4_count_35 : decode cX4_count 35 = .ok (.aload_n 0, 1) := by decide +kernel
theorem dX4_count_36 : decode cX4_count 36 = .ok (.getfield 19, 3) := by decide +kernel
theorem dX4_count_39 : decode cX4_count 39 = .ok (.getfield 111, 3) := by decide +kernel
theorem dX4_count_42 : decode cX4_count 42 = .ok (.iload_n 1, 1) := by decide +kernel
theorem dX4_count_43 : decode cX4_count 43 = .ok (.iconst 4, 1) := by decide +kernel
theorem dX4_count_44 : decode cX4_count 44 = .ok (.isub, 1) := by decide +kernel
theorem dX4_count_45 : decode cX4_count 45 = .ok (.iaload, 1) := by decide +kernel
theorem dX4_count_46 : decode cX4_count 46 = .ok (.ireturn, 1) := by decide +kernel
theorem dX4_count_47 : decode cX4_count 47 = .ok (.iload_n 1, 1) := by decide +kernel
theorem dX4_count_48 : decode cX4_count 48 = .ok (.tableswitch 93 0 9 #[56, 64, 72, 80, 93, 93, 93, 93, 93, 88], 56) := by decide +kernel
theorem dX4_count_104 : decode cX4_count 104 = .ok (.aload_n 0, 1) := by decide +kernel
theorem dX4_count_105 : decode cX4_count 105 = .ok (.getfield 19, 3) := by decide +kernel
theorem dX4_count_108 : decode cX4_count 108 = .ok (.getfield 127, 3) := by decide +kernel
theorem dX4_count_111 : decode cX4_count 111 = .ok (.ireturn, 1) := by decide +kernel
theorem dX4_count_112 : decode cX4_count 112 = .ok (.aload_n 0, 1) := by decide +kernel
theorem dX4_count_113 : decode cX4_count 113 = .ok (.getfield 19, 3) := by decide +kernel
theorem dX4_count_116 : decode cX4_count 116 = .ok (.getfield 64, 3) := by decide +kernel
theorem dX4_count_119 : decode cX4_count 119 = .ok (.ireturn, 1) := by decide +kernel
theorem dX4_count_120 : decode cX4_count 120 = .ok (.aload_n 0, 1) := by decide +kernel
theorem dX4_count_121 : decode cX4_count 121 = .ok (.getfield 19, 3) := by decide +kernel
theorem dX4_count_124 : decode cX4_count 124 = .ok (.invokevirtual 115, 3) := by decide +kernel
theorem dX4_count_127 : decode cX4_count 127 = .ok (.ireturn, 1) := by decide +kernel
theorem dX4_count_128 : decode cX4_count 128 = .ok (.aload_n 0, 1) := by decide +kernel
theorem dX4_count_129 : decode cX4_count 129 = .ok (.getfield 19, 3) := by decide +kernel
theorem dX4_count_132 : decode cX4_count 132 = .ok (.getfield 162, 3) := by decide +kernel
theorem dX4_count_135 : decode cX4_count 135 = .ok (.ireturn, 1) := by decide +kernel
theorem dX4_count_136 : decode cX4_count 136 = .ok (.aload_n 0, 1) := by decide +kernel
theorem dX4_count_137 : decode cX4_count 137 = .ok (.getfield 34, 3) := by decide +kernel
theorem dX4_count_140 : decode cX4_count 140 = .ok (.ireturn, 1) := by decide +kernel
theorem dX4_count_141 : decode cX4_count 141 = .ok (.ldc 41, 2) := by decide +kernel
theorem dX4_count_143 : decode cX4_count 143 = .ok (.ireturn, 1) := by decide +kernel
theorem dX4_would_0 : decode cX4_would 0 = .ok (.aload_n 0, 1) := by decide +kernel
theorem dX4_would_1 : decode cX4_would 1 = .ok (.iload_n 1, 1) := by decide +kernel
theorem dX4_would_2 : decode cX4_would 2 = .ok (.invokevirtual 93, 3) := by decide +kernel
theorem dX4_would_5 : decode cX4_would 5 = .ok (.ifCond .ne 6, 3) := by decide +kernel
theorem dX4_would_8 : decode cX4_would 8 = .ok (.ldc 74, 2) := by decide +kernel
theorem dX4_would_10 : decode cX4_would 10 = .ok (.ireturn, 1) := by decide +kernel
theorem dX4_would_11 : decode cX4_would 11 = .ok (.iload_n 2, 1) := by decide +kernel
theorem dX4_would_12 : decode cX4_would 12 = .ok (.ifCond .lt 8, 3) := by decide +kernel
theorem dX4_would_15 : decode cX4_would 15 = .ok (.iload_n 2, 1) := by decide +kernel
theorem dX4_would_16 : decode cX4_would 16 = .ok (.iconst 5, 1) := by decide +kernel
theorem dX4_would_17 : decode cX4_would 17 = .ok (.if_icmp .le 6, 3) := by decide +kernel
theorem dX4_would_20 : decode cX4_would 20 = .ok (.ldc 41, 2) := by decide +kernel
theorem dX4_would_22 : decode cX4_would 22 = .ok (.ireturn, 1) := by decide +kernel
theorem dX4_would_23 : decode cX4_would 23 = .ok (.aload_n 0, 1) := by decide +kernel
theorem dX4_would_24 : decode cX4_would 24 = .ok (.iload_n 1, 1) := by decide +kernel
theorem dX4_would_25 : decode cX4_would 25 = .ok (.invokevirtual 165, 3) := by decide +kernel
theorem dX4_would_28 : decode cX4_would 28 = .ok (.astore_n 3, 1) := by decide +kernel
theorem dX4_would_29 : decode cX4_would 29 = .ok (.iload_n 2, 1) := by decide +kernel
theorem dX4_would_30 : decode cX4_would 30 = .ok (.tableswitch 59 0 4 #[34, 39, 44, 49, 54], 34) := by decide +kernel
theorem dX4_would_64 : decode cX4_would 64 = .ok (.aload_n 3, 1) := by decide +kernel
theorem dX4_would_65 : decode cX4_would 65 = .ok (.getfield 169, 3) := by decide +kernel
theorem dX4_would_68 : decode cX4_would 68 = .ok (.ireturn, 1) := by decide +kernel
theorem dX4_would_69 : decode cX4_would 69 = .ok (.aload_n 3, 1) := by decide +kernel
theorem dX4_would_70 : decode cX4_would 70 = .ok (.getfield 172, 3) := by decide +kernel
theorem dX4_would_73 : decode cX4_would 73 = .ok (.ireturn, 1) := by decide +kernel
theorem dX4_would_74 : decode cX4_would 74 = .ok (.aload_n 3, 1) := by decide +kernel
theorem dX4_would_75 : decode cX4_would 75 = .ok (.getfield 175, 3) := by decide +kernel
theorem dX4_would_78 : decode cX4_would 78 = .ok (.ireturn, 1) := by decide +kernel
theorem dX4_would_79 : decode cX4_would 79 = .ok (.aload_n 3, 1) := by decide +kernel
theorem dX4_would_80 : decode cX4_would 80 = .ok (.getfield 178, 3) := by decide +kernel
theorem dX4_would_83 : decode cX4_would 83 = .ok (.ireturn, 1) := by decide +kernel
theorem dX4_would_84 : decode cX4_would 84 = .ok (.aload_n 3, 1) := by decide +kernel
theorem dX4_would_85 : decode cX4_would 85 = .ok (.getfield 121, 3) := by decide +kernel
theorem dX4_would_88 : decode cX4_would 88 = .ok (.ireturn, 1) := by decide +kernel
theorem dX4_would_89 : decode cX4_would 89 = .ok (.aload_n 3, 1) := by decide +kernel
theorem dX4_would_90 : decode cX4_would 90 = .ok (.getfield 181, 3) := by decide +kernel
theorem dX4_would_93 : decode cX4_would 93 = .ok (.ireturn, 1) := by decide +kernel
theorem dX4_why_0 : decode cX4_why 0 = .ok (.aload_n 0, 1) := by decide +kernel
theorem dX4_why_1 : decode cX4_why 1 = .ok (.iload_n 1, 1) := by decide +kernel
theorem dX4_why_2 : decode cX4_why 2 = .ok (.invokevirtual 93, 3) := by decide +kernel
theorem dX4_why_5 : decode cX4_why 5 = .ok (.ifCond .ne 6, 3) := by decide +kernel
theorem dX4_why_8 : decode cX4_why 8 = .ok (.ldc 74, 2) := by decide +kernel
theorem dX4_why_10 : decode cX4_why 10 = .ok (.ireturn, 1) := by decide +kernel
theorem dX4_why_11 : decode cX4_why 11 = .ok (.iload_n 2, 1) := by decide +kernel
theorem dX4_why_12 : decode cX4_why 12 = .ok (.ifCond .ge 6, 3) := by decide +kernel
theorem dX4_why_15 : decode cX4_why 15 = .ok (.ldc 41, 2) := by decide +kernel
theorem dX4_why_17 : decode cX4_why 17 = .ok (.ireturn, 1) := by decide +kernel
theorem dX4_why_18 : decode cX4_why 18 = .ok (.aload_n 0, 1) := by decide +kernel
theorem dX4_why_19 : decode cX4_why 19 = .ok (.iload_n 1, 1) := by decide +kernel
theorem dX4_why_20 : decode cX4_why 20 = .ok (.invokevirtual 165, 3) := by decide +kernel
theorem dX4_why_23 : decode cX4_why 23 = .ok (.astore_n 3, 1) := by decide +kernel
theorem dX4_why_24 : decode cX4_why 24 = .ok (.iload_n 2, 1) := by decide +kernel
theorem dX4_why_25 : decode cX4_why 25 = .ok (.istore 4, 2) := by decide +kernel
theorem dX4_why_27 : decode cX4_why 27 = .ok (.iconst 4, 1) := by decide +kernel
theorem dX4_why_28 : decode cX4_why 28 = .ok (.istore 5, 2) := by decide +kernel
theorem dX4_why_30 : decode cX4_why 30 = .ok (.iload 5, 2) := by decide +kernel
theorem dX4_why_32 : decode cX4_why 32 = .ok (.iconst 1, 1) := by decide +kernel
theorem dX4_why_33 : decode cX4_why 33 = .ok (.if_icmp .lt 29, 3) := by decide +kernel
theorem dX4_why_36 : decode cX4_why 36 = .ok (.aload_n 3, 1) := by decide +kernel
theorem dX4_why_37 : decode cX4_why 37 = .ok (.iload 5, 2) := by decide +kernel
theorem dX4_why_39 : decode cX4_why 39 = .ok (.invokevirtual 182, 3) := by decide +kernel
theorem dX4_why_42 : decode cX4_why 42 = .ok (.ifCond .eq 14, 3) := by decide +kernel
theorem dX4_why_45 : decode cX4_why 45 = .ok (.iload 4, 2) := by decide +kernel
theorem dX4_why_47 : decode cX4_why 47 = .ok (.ifCond .ne 6, 3) := by decide +kernel
theorem dX4_why_50 : decode cX4_why 50 = .ok (.iload 5, 2) := by decide +kernel
theorem dX4_why_52 : decode cX4_why 52 = .ok (.ireturn, 1) := by decide +kernel
theorem dX4_why_53 : decode cX4_why 53 = .ok (.iinc 4 (-1), 3) := by decide +kernel
theorem dX4_why_56 : decode cX4_why 56 = .ok (.iinc 5 (-1), 3) := by decide +kernel
theorem dX4_why_59 : decode cX4_why 59 = .ok (.goto (-29), 3) := by decide +kernel
theorem dX4_why_62 : decode cX4_why 62 = .ok (.iconst (-1), 1) := by decide +kernel
theorem dX4_why_63 : decode cX4_why 63 = .ok (.ireturn, 1) := by decide +kernel
theorem dX4_forecast_0 : decode cX4_forecast 0 = .ok (.aload_n 0, 1) := by decide +kernel
theorem dX4_forecast_1 : decode cX4_forecast 1 = .ok (.iload_n 1, 1) := by decide +kernel
theorem dX4_forecast_2 : decode cX4_forecast 2 = .ok (.iload_n 2, 1) := by decide +kernel
theorem dX4_forecast_3 : decode cX4_forecast 3 = .ok (.invokevirtual 70, 3) := by decide +kernel
theorem dX4_forecast_6 : decode cX4_forecast 6 = .ok (.ifCond .ne 6, 3) := by decide +kernel
theorem dX4_forecast_9 : decode cX4_forecast 9 = .ok (.ldc 74, 2) := by decide +kernel
theorem dX4_forecast_11 : decode cX4_forecast 11 = .ok (.ireturn, 1) := by decide +kernel
theorem dX4_forecast_12 : decode cX4_forecast 12 = .ok (.iload_n 3, 1) := by decide +kernel
theorem dX4_forecast_13 : decode cX4_forecast 13 = .ok (.ifCond .lt 9, 3) := by decide +kernel
theorem dX4_forecast_16 : decode cX4_forecast 16 = .ok (.iload_n 3, 1) := by decide +kernel
theorem dX4_forecast_17 : decode cX4_forecast 17 = .ok (.bipush 12, 2) := by decide +kernel
theorem dX4_forecast_19 : decode cX4_forecast 19 = .ok (.if_icmp .le 6, 3) := by decide +kernel
theorem dX4_forecast_22 : decode cX4_forecast 22 = .ok (.ldc 41, 2) := by decide +kernel
theorem dX4_forecast_24 : decode cX4_forecast 24 = .ok (.ireturn, 1) := by decide +kernel
theorem dX4_forecast_25 : decode cX4_forecast 25 = .ok (.aload_n 0, 1) := by decide +kernel
theorem dX4_forecast_26 : decode cX4_forecast 26 = .ok (.getfield 19, 3) := by decide +kernel
theorem dX4_forecast_29 : decode cX4_forecast 29 = .ok (.getfield 78, 3) := by decide +kernel
theorem dX4_forecast_32 : decode cX4_forecast 32 = .ok (.iload_n 1, 1) := by decide +kernel
theorem dX4_forecast_33 : decode cX4_forecast 33 = .ok (.aaload, 1) := by decide +kernel
theorem dX4_forecast_34 : decode cX4_forecast 34 = .ok (.getfield 82, 3) := by decide +kernel
theorem dX4_forecast_37 : decode cX4_forecast 37 = .ok (.iload_n 2, 1) := by decide +kernel
theorem dX4_forecast_38 : decode cX4_forecast 38 = .ok (.aaload, 1) := by decide +kernel
theorem dX4_forecast_39 : decode cX4_forecast 39 = .ok (.aload_n 0, 1) := by decide +kernel
theorem dX4_forecast_40 : decode cX4_forecast 40 = .ok (.getfield 19, 3) := by decide +kernel
theorem dX4_forecast_43 : decode cX4_forecast 43 = .ok (.getfield 127, 3) := by decide +kernel
theorem dX4_forecast_46 : decode cX4_forecast 46 = .ok (.iload_n 3, 1) := by decide +kernel
theorem dX4_forecast_47 : decode cX4_forecast 47 = .ok (.aload_n 0, 1) := by decide +kernel
theorem dX4_forecast_48 : decode cX4_forecast 48 = .ok (.getfield 19, 3) := by decide +kernel
theorem dX4_forecast_51 : decode cX4_forecast 51 = .ok (.getfield 111, 3) := by decide +kernel
theorem dX4_forecast_54 : decode cX4_forecast 54 = .ok (.iconst 4, 1) := by decide +kernel
theorem dX4_forecast_55 : decode cX4_forecast 55 = .ok (.iaload, 1) := by decide +kernel
theorem dX4_forecast_56 : decode cX4_forecast 56 = .ok (.invokevirtual 185, 3) := by decide +kernel
theorem dX4_forecast_59 : decode cX4_forecast 59 = .ok (.ireturn, 1) := by decide +kernel
theorem dX4_ahead_0 : decode cX4_ahead 0 = .ok (.aload_n 0, 1) := by decide +kernel
theorem dX4_ahead_1 : decode cX4_ahead 1 = .ok (.getfield 37, 3) := by decide +kernel
theorem dX4_ahead_4 : decode cX4_ahead 4 = .ok (.ifCond .ne 6, 3) := by decide +kernel
theorem dX4_ahead_7 : decode cX4_ahead 7 = .ok (.ldc 74, 2) := by decide +kernel
theorem dX4_ahead_9 : decode cX4_ahead 9 = .ok (.ireturn, 1) := by decide +kernel
theorem dX4_ahead_10 : decode cX4_ahead 10 = .ok (.iload_n 1, 1) := by decide +kernel
theorem dX4_ahead_11 : decode cX4_ahead 11 = .ok (.iconst 1, 1) := by decide +kernel
theorem dX4_ahead_12 : decode cX4_ahead 12 = .ok (.if_icmp .lt 18, 3) := by decide +kernel
theorem dX4_ahead_15 : decode cX4_ahead 15 = .ok (.iload_n 1, 1) := by decide +kernel
theorem dX4_ahead_16 : decode cX4_ahead 16 = .ok (.bipush 50, 2) := by decide +kernel
theorem dX4_ahead_18 : decode cX4_ahead 18 = .ok (.if_icmp .gt 12, 3) := by decide +kernel
theorem dX4_ahead_21 : decode cX4_ahead 21 = .ok (.iload_n 2, 1) := by decide +kernel
theorem dX4_ahead_22 : decode cX4_ahead 22 = .ok (.ifCond .lt 8, 3) := by decide +kernel
theorem dX4_ahead_25 : decode cX4_ahead 25 = .ok (.iload_n 2, 1) := by decide +kernel
theorem dX4_ahead_26 : decode cX4_ahead 26 = .ok (.iconst 3, 1) := by decide +kernel
theorem dX4_ahead_27 : decode cX4_ahead 27 = .ok (.if_icmp .le 6, 3) := by decide +kernel
theorem dX4_ahead_30 : decode cX4_ahead 30 = .ok (.ldc 41, 2) := by decide +kernel
theorem dX4_ahead_32 : decode cX4_ahead 32 = .ok (.ireturn, 1) := by decide +kernel
theorem dX4_ahead_33 : decode cX4_ahead 33 = .ok (.aload_n 0, 1) := by decide +kernel
theorem dX4_ahead_34 : decode cX4_ahead 34 = .ok (.getfield 23, 3) := by decide +kernel
theorem dX4_ahead_37 : decode cX4_ahead 37 = .ok (.aload_n 0, 1) := by decide +kernel
theorem dX4_ahead_38 : decode cX4_ahead 38 = .ok (.getfield 19, 3) := by decide +kernel
theorem dX4_ahead_41 : decode cX4_ahead 41 = .ok (.invokevirtual 60, 3) := by decide +kernel
theorem dX4_ahead_44 : decode cX4_ahead 44 = .ok (.iconst 0, 1) := by decide +kernel
theorem dX4_ahead_45 : decode cX4_ahead 45 = .ok (.istore_n 3, 1) := by decide +kernel
theorem dX4_ahead_46 : decode cX4_ahead 46 = .ok (.iload_n 3, 1) := by decide +kernel
theorem dX4_ahead_47 : decode cX4_ahead 47 = .ok (.iload_n 1, 1) := by decide +kernel
theorem dX4_ahead_48 : decode cX4_ahead 48 = .ok (.if_icmp .ge 16, 3) := by decide +kernel
theorem dX4_ahead_51 : decode cX4_ahead 51 = .ok (.aload_n 0, 1) := by decide +kernel
theorem dX4_ahead_52 : decode cX4_ahead 52 = .ok (.getfield 23, 3) := by decide +kernel
theorem dX4_ahead_55 : decode cX4_ahead 55 = .ok (.invokevirtual 112, 3) := by decide +kernel
theorem dX4_ahead_58 : decode cX4_ahead 58 = .ok (.iinc 3 1, 3) := by decide +kernel
theorem dX4_ahead_61 : decode cX4_ahead 61 = .ok (.goto (-15), 3) := by decide +kernel
theorem dX4_ahead_64 : decode cX4_ahead 64 = .ok (.iload_n 2, 1) := by decide +kernel
theorem dX4_ahead_65 : decode cX4_ahead 65 = .ok (.tableswitch 67 0 2 #[27, 35, 51], 27) := by decide +kernel
theorem dX4_ahead_92 : decode cX4_ahead 92 = .ok (.aload_n 0, 1) := by decide +kernel
theorem dX4_ahead_93 : decode cX4_ahead 93 = .ok (.getfield 23, 3) := by decide +kernel
theorem dX4_ahead_96 : decode cX4_ahead 96 = .ok (.invokevirtual 115, 3) := by decide +kernel
theorem dX4_ahead_99 : decode cX4_ahead 99 = .ok (.ireturn, 1) := by decide +kernel
theorem dX4_ahead_100 : decode cX4_ahead 100 = .ok (.aload_n 0, 1) := by decide +kernel
theorem dX4_ahead_101 : decode cX4_ahead 101 = .ok (.getfield 23, 3) := by decide +kernel
theorem dX4_ahead_104 : decode cX4_ahead 104 = .ok (.invokevirtual 189, 3) := by decide +kernel
theorem dX4_ahead_107 : decode cX4_ahead 107 = .ok (.aload_n 0, 1) := by decide +kernel
theorem dX4_ahead_108 : decode cX4_ahead 108 = .ok (.getfield 19, 3) := by decide +kernel
theorem dX4_ahead_111 : decode cX4_ahead 111 = .ok (.invokevirtual 189, 3) := by decide +kernel
theorem dX4_ahead_114 : decode cX4_ahead 114 = .ok (.isub, 1) := by decide +kernel
theorem dX4_ahead_115 : decode cX4_ahead 115 = .ok (.ireturn, 1) := by decide +kernel
theorem dX4_ahead_116 : decode cX4_ahead 116 = .ok (.aload_n 0, 1) := by decide +kernel
theorem dX4_ahead_117 : decode cX4_ahead 117 = .ok (.getfield 23, 3) := by decide +kernel
theorem dX4_ahead_120 : decode cX4_ahead 120 = .ok (.invokevirtual 192, 3) := by decide +kernel
theorem dX4_ahead_123 : decode cX4_ahead 123 = .ok (.aload_n 0, 1) := by decide +kernel
theorem dX4_ahead_124 : decode cX4_ahead 124 = .ok (.getfield 19, 3) := by decide +kernel
theorem dX4_ahead_127 : decode cX4_ahead 127 = .ok (.invokevirtual 192, 3) := by decide +kernel
theorem dX4_ahead_130 : decode cX4_ahead 130 = .ok (.isub, 1) := by decide +kernel
theorem dX4_ahead_131 : decode cX4_ahead 131 = .ok (.ireturn, 1) := by decide +kernel
theorem dX4_ahead_132 : decode cX4_ahead 132 = .ok (.aload_n 0, 1) := by decide +kernel
theorem dX4_ahead_133 : decode cX4_ahead 133 = .ok (.getfield 23, 3) := by decide +kernel
theorem dX4_ahead_136 : decode cX4_ahead 136 = .ok (.getfield 162, 3) := by decide +kernel
theorem dX4_ahead_139 : decode cX4_ahead 139 = .ok (.ireturn, 1) := by decide +kernel
theorem dX4_until_0 : decode cX4_until 0 = .ok (.aload_n 0, 1) := by decide +kernel
theorem dX4_until_1 : decode cX4_until 1 = .ok (.iload_n 1, 1) := by decide +kernel
theorem dX4_until_2 : decode cX4_until 2 = .ok (.invokevirtual 93, 3) := by decide +kernel
theorem dX4_until_5 : decode cX4_until 5 = .ok (.ifCond .ne 6, 3) := by decide +kernel
theorem dX4_until_8 : decode cX4_until 8 = .ok (.ldc 74, 2) := by decide +kernel
theorem dX4_until_10 : decode cX4_until 10 = .ok (.ireturn, 1) := by decide +kernel
theorem dX4_until_11 : decode cX4_until 11 = .ok (.iload_n 2, 1) := by decide +kernel
theorem dX4_until_12 : decode cX4_until 12 = .ok (.iconst 1, 1) := by decide +kernel
theorem dX4_until_13 : decode cX4_until 13 = .ok (.if_icmp .lt 12, 3) := by decide +kernel
theorem dX4_until_16 : decode cX4_until 16 = .ok (.iload_n 2, 1) := by decide +kernel
theorem dX4_until_17 : decode cX4_until 17 = .ok (.getstatic 100, 3) := by decide +kernel
theorem dX4_until_20 : decode cX4_until 20 = .ok (.iconst 1, 1) := by decide +kernel
theorem dX4_until_21 : decode cX4_until 21 = .ok (.iaload, 1) := by decide +kernel
theorem dX4_until_22 : decode cX4_until 22 = .ok (.if_icmp .le 6, 3) := by decide +kernel
theorem dX4_until_25 : decode cX4_until 25 = .ok (.ldc 41, 2) := by decide +kernel
theorem dX4_until_27 : decode cX4_until 27 = .ok (.ireturn, 1) := by decide +kernel
theorem dX4_until_28 : decode cX4_until 28 = .ok (.aload_n 0, 1) := by decide +kernel
theorem dX4_until_29 : decode cX4_until 29 = .ok (.getfield 23, 3) := by decide +kernel
theorem dX4_until_32 : decode cX4_until 32 = .ok (.aload_n 0, 1) := by decide +kernel
theorem dX4_until_33 : decode cX4_until 33 = .ok (.getfield 19, 3) := by decide +kernel
theorem dX4_until_36 : decode cX4_until 36 = .ok (.invokevirtual 60, 3) := by decide +kernel
theorem dX4_until_39 : decode cX4_until 39 = .ok (.aload_n 0, 1) := by decide +kernel
theorem dX4_until_40 : decode cX4_until 40 = .ok (.getfield 23, 3) := by decide +kernel
theorem dX4_until_43 : decode cX4_until 43 = .ok (.getfield 78, 3) := by decide +kernel
theorem dX4_until_46 : decode cX4_until 46 = .ok (.iload_n 1, 1) := by decide +kernel
theorem dX4_until_47 : decode cX4_until 47 = .ok (.aaload, 1) := by decide +kernel
theorem dX4_until_48 : decode cX4_until 48 = .ok (.astore_n 3, 1) := by decide +kernel
theorem dX4_until_49 : decode cX4_until 49 = .ok (.iconst 1, 1) := by decide +kernel
theorem dX4_until_50 : decode cX4_until 50 = .ok (.istore 4, 2) := by decide +kernel
theorem dX4_until_52 : decode cX4_until 52 = .ok (.iload 4, 2) := by decide +kernel
theorem dX4_until_54 : decode cX4_until 54 = .ok (.bipush 50, 2) := by decide +kernel
theorem dX4_until_56 : decode cX4_until 56 = .ok (.if_icmp .gt 34, 3) := by decide +kernel
theorem dX4_until_59 : decode cX4_until 59 = .ok (.aload_n 0, 1) := by decide +kernel
theorem dX4_until_60 : decode cX4_until 60 = .ok (.getfield 23, 3) := by decide +kernel
theorem dX4_until_63 : decode cX4_until 63 = .ok (.invokevirtual 112, 3) := by decide +kernel
theorem dX4_until_66 : decode cX4_until 66 = .ok (.aload_n 3, 1) := by decide +kernel
theorem dX4_until_67 : decode cX4_until 67 = .ok (.aload_n 0, 1) := by decide +kernel
theorem dX4_until_68 : decode cX4_until 68 = .ok (.getfield 23, 3) := by decide +kernel
theorem dX4_until_71 : decode cX4_until 71 = .ok (.getfield 127, 3) := by decide +kernel
theorem dX4_until_74 : decode cX4_until 74 = .ok (.invokevirtual 195, 3) := by decide +kernel
theorem dX4_until_77 : decode cX4_until 77 = .ok (.iload_n 2, 1) := by decide +kernel
theorem dX4_until_78 : decode cX4_until 78 = .ok (.if_icmp .lt 6, 3) := by decide +kernel
theorem dX4_until_81 : decode cX4_until 81 = .ok (.iload 4, 2) := by decide +kernel
theorem dX4_until_83 : decode cX4_until 83 = .ok (.ireturn, 1) := by decide +kernel
theorem dX4_until_84 : decode cX4_until 84 = .ok (.iinc 4 1, 3) := by decide +kernel
theorem dX4_until_87 : decode cX4_until 87 = .ok (.goto (-35), 3) := by decide +kernel
theorem dX4_until_90 : decode cX4_until 90 = .ok (.iconst (-1), 1) := by decide +kernel
theorem dX4_until_91 : decode cX4_until 91 = .ok (.ireturn, 1) := by decide +kernel
theorem dX4_needs_0 : decode cX4_needs 0 = .ok (.aload_n 0, 1) := by decide +kernel
theorem dX4_needs_1 : decode cX4_needs 1 = .ok (.iload_n 1, 1) := by decide +kernel
theorem dX4_needs_2 : decode cX4_needs 2 = .ok (.iload_n 2, 1) := by decide +kernel
theorem dX4_needs_3 : decode cX4_needs 3 = .ok (.invokevirtual 70, 3) := by decide +kernel
theorem dX4_needs_6 : decode cX4_needs 6 = .ok (.ifCond .ne 6, 3) := by decide +kernel
theorem dX4_needs_9 : decode cX4_needs 9 = .ok (.ldc 74, 2) := by decide +kernel
theorem dX4_needs_11 : decode cX4_needs 11 = .ok (.ireturn, 1) := by decide +kernel
theorem dX4_needs_12 : decode cX4_needs 12 = .ok (.iload_n 3, 1) := by decide +kernel
theorem dX4_needs_13 : decode cX4_needs 13 = .ok (.ifCond .lt 9, 3) := by decide +kernel
theorem dX4_needs_16 : decode cX4_needs 16 = .ok (.iload_n 3, 1) := by decide +kernel
theorem dX4_needs_17 : decode cX4_needs 17 = .ok (.bipush 99, 2) := by decide +kernel
theorem dX4_needs_19 : decode cX4_needs 19 = .ok (.if_icmp .le 6, 3) := by decide +kernel
theorem dX4_needs_22 : decode cX4_needs 22 = .ok (.ldc 41, 2) := by decide +kernel
theorem dX4_needs_24 : decode cX4_needs 24 = .ok (.ireturn, 1) := by decide +kernel
theorem dX4_needs_25 : decode cX4_needs 25 = .ok (.aload_n 0, 1) := by decide +kernel
theorem dX4_needs_26 : decode cX4_needs 26 = .ok (.getfield 19, 3) := by decide +kernel
theorem dX4_needs_29 : decode cX4_needs 29 = .ok (.getfield 78, 3) := by decide +kernel
theorem dX4_needs_32 : decode cX4_needs 32 = .ok (.iload_n 1, 1) := by decide +kernel
theorem dX4_needs_33 : decode cX4_needs 33 = .ok (.aaload, 1) := by decide +kernel
theorem dX4_needs_34 : decode cX4_needs 34 = .ok (.astore 4, 2) := by decide +kernel
theorem dX4_needs_36 : decode cX4_needs 36 = .ok (.aload 4, 2) := by decide +kernel
theorem dX4_needs_38 : decode cX4_needs 38 = .ok (.getfield 82, 3) := by decide +kernel
theorem dX4_needs_41 : decode cX4_needs 41 = .ok (.iload_n 2, 1) := by decide +kernel
theorem dX4_needs_42 : decode cX4_needs 42 = .ok (.aaload, 1) := by decide +kernel
theorem dX4_needs_43 : decode cX4_needs 43 = .ok (.astore 5, 2) := by decide +kernel
theorem dX4_needs_45 : decode cX4_needs 45 = .ok (.aload_n 0, 1) := by decide +kernel
theorem dX4_needs_46 : decode cX4_needs 46 = .ok (.getfield 19, 3) := by decide +kernel
theorem dX4_needs_49 : decode cX4_needs 49 = .ok (.aload 4, 2) := by decide +kernel
theorem dX4_needs_51 : decode cX4_needs 51 = .ok (.iload_n 2, 1) := by decide +kernel
theorem dX4_needs_52 : decode cX4_needs 52 = .ok (.invokevirtual 198, 3) := by decide +kernel
theorem dX4_needs_55 : decode cX4_needs 55 = .ok (.iload_n 3, 1) := by decide +kernel
theorem dX4_needs_56 : decode cX4_needs 56 = .ok (.if_icmp .lt 5, 3) := by decide +kernel
theorem dX4_needs_59 : decode cX4_needs 59 = .ok (.iconst 0, 1) := by decide +kernel
theorem dX4_needs_60 : decode cX4_needs 60 = .ok (.ireturn, 1) := by decide +kernel
theorem dX4_needs_61 : decode cX4_needs 61 = .ok (.aload 5, 2) := by decide +kernel
theorem dX4_needs_63 : decode cX4_needs 63 = .ok (.aload_n 0, 1) := by decide +kernel
theorem dX4_needs_64 : decode cX4_needs 64 = .ok (.getfield 19, 3) := by decide +kernel
theorem dX4_needs_67 : decode cX4_needs 67 = .ok (.getfield 127, 3) := by decide +kernel
theorem dX4_needs_70 : decode cX4_needs 70 = .ok (.aload_n 0, 1) := by decide +kernel
theorem dX4_needs_71 : decode cX4_needs 71 = .ok (.getfield 19, 3) := by decide +kernel
theorem dX4_needs_74 : decode cX4_needs 74 = .ok (.getfield 111, 3) := by decide +kernel
theorem dX4_needs_77 : decode cX4_needs 77 = .ok (.iconst 1, 1) := by decide +kernel
theorem dX4_needs_78 : decode cX4_needs 78 = .ok (.iaload, 1) := by decide +kernel
theorem dX4_needs_79 : decode cX4_needs 79 = .ok (.aload_n 0, 1) := by decide +kernel
theorem dX4_needs_80 : decode cX4_needs 80 = .ok (.getfield 19, 3) := by decide +kernel
theorem dX4_needs_83 : decode cX4_needs 83 = .ok (.getfield 111, 3) := by decide +kernel
theorem dX4_needs_86 : decode cX4_needs 86 = .ok (.iconst 4, 1) := by decide +kernel
theorem dX4_needs_87 : decode cX4_needs 87 = .ok (.iaload, 1) := by decide +kernel
theorem dX4_needs_88 : decode cX4_needs 88 = .ok (.invokevirtual 185, 3) := by decide +kernel
theorem dX4_needs_91 : decode cX4_needs 91 = .ok (.istore 6, 2) := by decide +kernel
theorem dX4_needs_93 : decode cX4_needs 93 = .ok (.aload 5, 2) := by decide +kernel
theorem dX4_needs_95 : decode cX4_needs 95 = .ok (.iload_n 3, 1) := by decide +kernel
theorem dX4_needs_96 : decode cX4_needs 96 = .ok (.aload 4, 2) := by decide +kernel
theorem dX4_needs_98 : decode cX4_needs 98 = .ok (.getfield 121, 3) := by decide +kernel
theorem dX4_needs_101 : decode cX4_needs 101 = .ok (.aload 4, 2) := by decide +kernel
theorem dX4_needs_103 : decode cX4_needs 103 = .ok (.aload_n 0, 1) := by decide +kernel
theorem dX4_needs_104 : decode cX4_needs 104 = .ok (.getfield 19, 3) := by decide +kernel
theorem dX4_needs_107 : decode cX4_needs 107 = .ok (.getfield 127, 3) := by decide +kernel
theorem dX4_needs_110 : decode cX4_needs 110 = .ok (.invokevirtual 195, 3) := by decide +kernel
theorem dX4_needs_113 : decode cX4_needs 113 = .ok (.iload 6, 2) := by decide +kernel
theorem dX4_needs_115 : decode cX4_needs 115 = .ok (.invokevirtual 202, 3) := by decide +kernel
theorem dX4_needs_118 : decode cX4_needs 118 = .ok (.ireturn, 1) := by decide +kernel
theorem dX4_replay_0 : decode cX4_replay 0 = .ok (.aload_n 0, 1) := by decide +kernel
theorem dX4_replay_1 : decode cX4_replay 1 = .ok (.iload_n 1, 1) := by decide +kernel
theorem dX4_replay_2 : decode cX4_replay 2 = .ok (.invokevirtual 93, 3) := by decide +kernel
theorem dX4_replay_5 : decode cX4_replay 5 = .ok (.ifCond .ne 6, 3) := by decide +kernel
theorem dX4_replay_8 : decode cX4_replay 8 = .ok (.ldc 74, 2) := by decide +kernel
theorem dX4_replay_10 : decode cX4_replay 10 = .ok (.ireturn, 1) := by decide +kernel
theorem dX4_replay_11 : decode cX4_replay 11 = .ok (.iload_n 2, 1) := by decide +kernel
theorem dX4_replay_12 : decode cX4_replay 12 = .ok (.iconst 1, 1) := by decide +kernel
theorem dX4_replay_13 : decode cX4_replay 13 = .ok (.if_icmp .lt 31, 3) := by decide +kernel
theorem dX4_replay_16 : decode cX4_replay 16 = .ok (.iload_n 2, 1) := by decide +kernel
theorem dX4_replay_17 : decode cX4_replay 17 = .ok (.bipush 6, 2) := by decide +kernel
theorem dX4_replay_19 : decode cX4_replay 19 = .ok (.if_icmp .gt 25, 3) := by decide +kernel
theorem dX4_replay_22 : decode cX4_replay 22 = .ok (.iload_n 3, 1) := by decide +kernel
theorem dX4_replay_23 : decode cX4_replay 23 = .ok (.iconst 1, 1) := by decide +kernel
theorem dX4_replay_24 : decode cX4_replay 24 = .ok (.if_icmp .lt 20, 3) := by decide +kernel
theorem dX4_replay_27 : decode cX4_replay 27 = .ok (.iload_n 3, 1) := by decide +kernel
theorem dX4_replay_28 : decode cX4_replay 28 = .ok (.bipush 6, 2) := by decide +kernel
theorem dX4_replay_30 : decode cX4_replay 30 = .ok (.if_icmp .gt 14, 3) := by decide +kernel
theorem dX4_replay_33 : decode cX4_replay 33 = .ok (.iload 4, 2) := by decide +kernel
theorem dX4_replay_35 : decode cX4_replay 35 = .ok (.ifCond .lt 9, 3) := by decide +kernel
theorem dX4_replay_38 : decode cX4_replay 38 = .ok (.iload 4, 2) := by decide +kernel
theorem dX4_replay_40 : decode cX4_replay 40 = .ok (.iconst 2, 1) := by decide +kernel
theorem dX4_replay_41 : decode cX4_replay 41 = .ok (.if_icmp .le 6, 3) := by decide +kernel
theorem dX4_replay_44 : decode cX4_replay 44 = .ok (.ldc 41, 2) := by decide +kernel
theorem dX4_replay_46 : decode cX4_replay 46 = .ok (.ireturn, 1) := by decide +kernel
theorem dX4_replay_47 : decode cX4_replay 47 = .ok (.aload_n 0, 1) := by decide +kernel
theorem dX4_replay_48 : decode cX4_replay 48 = .ok (.iload_n 1, 1) := by decide +kernel
theorem dX4_replay_49 : decode cX4_replay 49 = .ok (.iload_n 2, 1) := by decide +kernel
theorem dX4_replay_50 : decode cX4_replay 50 = .ok (.iload_n 3, 1) := by decide +kernel
theorem dX4_replay_51 : decode cX4_replay 51 = .ok (.invokevirtual 206, 3) := by decide +kernel
theorem dX4_replay_54 : decode cX4_replay 54 = .ok (.astore 5, 2) := by decide +kernel
theorem dX4_replay_56 : decode cX4_replay 56 = .ok (.iload 4, 2) := by decide +kernel
theorem dX4_replay_58 : decode cX4_replay 58 = .ok (.lookupswitch 38 #[(0, 26), (1, 32)], 26) := by decide +kernel
theorem dX4_replay_84 : decode cX4_replay 84 = .ok (.aload 5, 2) := by decide +kernel
theorem dX4_replay_86 : decode cX4_replay 86 = .ok (.getfield 134, 3) := by decide +kernel
theorem dX4_replay_89 : decode cX4_replay 89 = .ok (.ireturn, 1) := by decide +kernel
theorem dX4_replay_90 : decode cX4_replay 90 = .ok (.aload 5, 2) := by decide +kernel
theorem dX4_replay_92 : decode cX4_replay 92 = .ok (.getfield 137, 3) := by decide +kernel
theorem dX4_replay_95 : decode cX4_replay 95 = .ok (.ireturn, 1) := by decide +kernel
theorem dX4_replay_96 : decode cX4_replay 96 = .ok (.aload 5, 2) := by decide +kernel
theorem dX4_replay_98 : decode cX4_replay 98 = .ok (.getfield 140, 3) := by decide +kernel
theorem dX4_replay_101 : decode cX4_replay 101 = .ok (.ireturn, 1) := by decide +kernel
theorem dX4_best_0 : decode cX4_best 0 = .ok (.aload_n 0, 1) := by decide +kernel
theorem dX4_best_1 : decode cX4_best 1 = .ok (.iload_n 1, 1) := by decide +kernel
theorem dX4_best_2 : decode cX4_best 2 = .ok (.invokevirtual 93, 3) := by decide +kernel
theorem dX4_best_5 : decode cX4_best 5 = .ok (.ifCond .ne 6, 3) := by decide +kernel
theorem dX4_best_8 : decode cX4_best 8 = .ok (.ldc 74, 2) := by decide +kernel
theorem dX4_best_10 : decode cX4_best 10 = .ok (.ireturn, 1) := by decide +kernel
theorem dX4_best_11 : decode cX4_best 11 = .ok (.iconst (-1), 1) := by decide +kernel
theorem dX4_best_12 : decode cX4_best 12 = .ok (.istore_n 2, 1) := by decide +kernel
theorem dX4_best_13 : decode cX4_best 13 = .ok (.iconst 0, 1) := by decide +kernel
theorem dX4_best_14 : decode cX4_best 14 = .ok (.istore_n 3, 1) := by decide +kernel
theorem dX4_best_15 : decode cX4_best 15 = .ok (.iconst 1, 1) := by decide +kernel
theorem dX4_best_16 : decode cX4_best 16 = .ok (.istore 4, 2) := by decide +kernel
theorem dX4_best_18 : decode cX4_best 18 = .ok (.iload 4, 2) := by decide +kernel
theorem dX4_best_20 : decode cX4_best 20 = .ok (.bipush 6, 2) := by decide +kernel
theorem dX4_best_22 : decode cX4_best 22 = .ok (.if_icmp .gt 82, 3) := by decide +kernel
theorem dX4_best_25 : decode cX4_best 25 = .ok (.iconst 1, 1) := by decide +kernel
theorem dX4_best_26 : decode cX4_best 26 = .ok (.istore 5, 2) := by decide +kernel
theorem dX4_best_28 : decode cX4_best 28 = .ok (.iload 5, 2) := by decide +kernel
theorem dX4_best_30 : decode cX4_best 30 = .ok (.bipush 6, 2) := by decide +kernel
theorem dX4_best_32 : decode cX4_best 32 = .ok (.if_icmp .gt 66, 3) := by decide +kernel
theorem dX4_best_35 : decode cX4_best 35 = .ok (.aload_n 0, 1) := by decide +kernel
theorem dX4_best_36 : decode cX4_best 36 = .ok (.iload_n 1, 1) := by decide +kernel
theorem dX4_best_37 : decode cX4_best 37 = .ok (.iload 4, 2) := by decide +kernel
theorem dX4_best_39 : decode cX4_best 39 = .ok (.iload 5, 2) := by decide +kernel
theorem dX4_best_41 : decode cX4_best 41 = .ok (.invokevirtual 206, 3) := by decide +kernel
theorem dX4_best_44 : decode cX4_best 44 = .ok (.astore 6, 2) := by decide +kernel
theorem dX4_best_46 : decode cX4_best 46 = .ok (.aload 6, 2) := by decide +kernel
theorem dX4_best_48 : decode cX4_best 48 = .ok (.getfield 134, 3) := by decide +kernel
theorem dX4_best_51 : decode cX4_best 51 = .ok (.iconst 5, 1) := by decide +kernel
theorem dX4_best_52 : decode cX4_best 52 = .ok (.aload 6, 2) := by decide +kernel
theorem dX4_best_54 : decode cX4_best 54 = .ok (.getfield 137, 3) := by decide +kernel
theorem dX4_best_57 : decode cX4_best 57 = .ok (.imul, 1) := by decide +kernel
theorem dX4_best_58 : decode cX4_best 58 = .ok (.iadd, 1) := by decide +kernel
theorem dX4_best_59 : decode cX4_best 59 = .ok (.iconst 3, 1) := by decide +kernel
theorem dX4_best_60 : decode cX4_best 60 = .ok (.aload 6, 2) := by decide +kernel
theorem dX4_best_62 : decode cX4_best 62 = .ok (.getfield 140, 3) := by decide +kernel
theorem dX4_best_65 : decode cX4_best 65 = .ok (.imul, 1) := by decide +kernel
theorem dX4_best_66 : decode cX4_best 66 = .ok (.iadd, 1) := by decide +kernel
theorem dX4_best_67 : decode cX4_best 67 = .ok (.istore 7, 2) := by decide +kernel
theorem dX4_best_69 : decode cX4_best 69 = .ok (.iload_n 2, 1) := by decide +kernel
theorem dX4_best_70 : decode cX4_best 70 = .ok (.iconst (-1), 1) := by decide +kernel
theorem dX4_best_71 : decode cX4_best 71 = .ok (.if_icmp .eq 9, 3) := by decide +kernel
theorem dX4_best_74 : decode cX4_best 74 = .ok (.iload 7, 2) := by decide +kernel
theorem dX4_best_76 : decode cX4_best 76 = .ok (.iload_n 3, 1) := by decide +kernel
theorem dX4_best_77 : decode cX4_best 77 = .ok (.if_icmp .ge 15, 3) := by decide +kernel
theorem dX4_best_80 : decode cX4_best 80 = .ok (.bipush 10, 2) := by decide +kernel
theorem dX4_best_82 : decode cX4_best 82 = .ok (.iload 4, 2) := by decide +kernel
theorem dX4_best_84 : decode cX4_best 84 = .ok (.imul, 1) := by decide +kernel
theorem dX4_best_85 : decode cX4_best 85 = .ok (.iload 5, 2) := by decide +kernel
theorem dX4_best_87 : decode cX4_best 87 = .ok (.iadd, 1) := by decide +kernel
theorem dX4_best_88 : decode cX4_best 88 = .ok (.istore_n 2, 1) := by decide +kernel
theorem dX4_best_89 : decode cX4_best 89 = .ok (.iload 7, 2) := by decide +kernel
theorem dX4_best_91 : decode cX4_best 91 = .ok (.istore_n 3, 1) := by decide +kernel
theorem dX4_best_92 : decode cX4_best 92 = .ok (.iinc 5 1, 3) := by decide +kernel
theorem dX4_best_95 : decode cX4_best 95 = .ok (.goto (-67), 3) := by decide +kernel
theorem dX4_best_98 : decode cX4_best 98 = .ok (.iinc 4 1, 3) := by decide +kernel
theorem dX4_best_101 : decode cX4_best 101 = .ok (.goto (-83), 3) := by decide +kernel
theorem dX4_best_104 : decode cX4_best 104 = .ok (.iload_n 2, 1) := by decide +kernel
theorem dX4_best_105 : decode cX4_best 105 = .ok (.ireturn, 1) := by decide +kernel
theorem dX4_hasService_0 : decode cX4_hasService 0 = .ok (.aload_n 0, 1) := by decide +kernel
theorem dX4_hasService_1 : decode cX4_hasService 1 = .ok (.getfield 37, 3) := by decide +kernel
theorem dX4_hasService_4 : decode cX4_hasService 4 = .ok (.ifCond .eq 22, 3) := by decide +kernel
theorem dX4_hasService_7 : decode cX4_hasService 7 = .ok (.iload_n 1, 1) := by decide +kernel
theorem dX4_hasService_8 : decode cX4_hasService 8 = .ok (.ifCond .lt 18, 3) := by decide +kernel
theorem dX4_hasService_11 : decode cX4_hasService 11 = .ok (.iload_n 1, 1) := by decide +kernel
theorem dX4_hasService_12 : decode cX4_hasService 12 = .ok (.aload_n 0, 1) := by decide +kernel
theorem dX4_hasService_13 : decode cX4_hasService 13 = .ok (.getfield 19, 3) := by decide +kernel
theorem dX4_hasService_16 : decode cX4_hasService 16 = .ok (.getfield 64, 3) := by decide +kernel
theorem dX4_hasService_19 : decode cX4_hasService 19 = .ok (.if_icmp .ge 7, 3) := by decide +kernel
theorem dX4_hasService_22 : decode cX4_hasService 22 = .ok (.iconst 1, 1) := by decide +kernel
theorem dX4_hasService_23 : decode cX4_hasService 23 = .ok (.goto 4, 3) := by decide +kernel
theorem dX4_hasService_26 : decode cX4_hasService 26 = .ok (.iconst 0, 1) := by decide +kernel
theorem dX4_hasService_27 : decode cX4_hasService 27 = .ok (.ireturn, 1) := by decide +kernel
theorem dX4_hasMeasure_0 : decode cX4_hasMeasure 0 = .ok (.aload_n 0, 1) := by decide +kernel
theorem dX4_hasMeasure_1 : decode cX4_hasMeasure 1 = .ok (.iload_n 1, 1) := by decide +kernel
theorem dX4_hasMeasure_2 : decode cX4_hasMeasure 2 = .ok (.invokevirtual 93, 3) := by decide +kernel
theorem dX4_hasMeasure_5 : decode cX4_hasMeasure 5 = .ok (.ifCond .eq 27, 3) := by decide +kernel
theorem dX4_hasMeasure_8 : decode cX4_hasMeasure 8 = .ok (.iload_n 2, 1) := by decide +kernel
theorem dX4_hasMeasure_9 : decode cX4_hasMeasure 9 = .ok (.ifCond .lt 23, 3) := by decide +kernel
theorem dX4_hasMeasure_12 : decode cX4_hasMeasure 12 = .ok (.iload_n 2, 1) := by decide +kernel
theorem dX4_hasMeasure_13 : decode cX4_hasMeasure 13 = .ok (.aload_n 0, 1) := by decide +kernel
theorem dX4_hasMeasure_14 : decode cX4_hasMeasure 14 = .ok (.getfield 19, 3) := by decide +kernel
theorem dX4_hasMeasure_17 : decode cX4_hasMeasure 17 = .ok (.getfield 78, 3) := by decide +kernel
theorem dX4_hasMeasure_20 : decode cX4_hasMeasure 20 = .ok (.iload_n 1, 1) := by decide +kernel
theorem dX4_hasMeasure_21 : decode cX4_hasMeasure 21 = .ok (.aaload, 1) := by decide +kernel
theorem dX4_hasMeasure_22 : decode cX4_hasMeasure 22 = .ok (.getfield 118, 3) := by decide +kernel
theorem dX4_hasMeasure_25 : decode cX4_hasMeasure 25 = .ok (.if_icmp .ge 7, 3) := by decide +kernel
theorem dX4_hasMeasure_28 : decode cX4_hasMeasure 28 = .ok (.iconst 1, 1) := by decide +kernel
theorem dX4_hasMeasure_29 : decode cX4_hasMeasure 29 = .ok (.goto 4, 3) := by decide +kernel
theorem dX4_hasMeasure_32 : decode cX4_hasMeasure 32 = .ok (.iconst 0, 1) := by decide +kernel
theorem dX4_hasMeasure_33 : decode cX4_hasMeasure 33 = .ok (.ireturn, 1) := by decide +kernel
theorem dX4_keepForUndo_0 : decode cX4_keepForUndo 0 = .ok (.aload_n 0, 1) := by decide +kernel
theorem dX4_keepForUndo_1 : decode cX4_keepForUndo 1 = .ok (.getfield 26, 3) := by decide +kernel
theorem dX4_keepForUndo_4 : decode cX4_keepForUndo 4 = .ok (.aload_n 0, 1) := by decide +kernel
theorem dX4_keepForUndo_5 : decode cX4_keepForUndo 5 = .ok (.getfield 30, 3) := by decide +kernel
theorem dX4_keepForUndo_8 : decode cX4_keepForUndo 8 = .ok (.aaload, 1) := by decide +kernel
theorem dX4_keepForUndo_9 : decode cX4_keepForUndo 9 = .ok (.aload_n 0, 1) := by decide +kernel
theorem dX4_keepForUndo_10 : decode cX4_keepForUndo 10 = .ok (.getfield 19, 3) := by decide +kernel
theorem dX4_keepForUndo_13 : decode cX4_keepForUndo 13 = .ok (.invokevirtual 60, 3) := by decide +kernel
theorem dX4_keepForUndo_16 : decode cX4_keepForUndo 16 = .ok (.aload_n 0, 1) := by decide +kernel
theorem dX4_keepForUndo_17 : decode cX4_keepForUndo 17 = .ok (.aload_n 0, 1) := by decide +kernel
theorem dX4_keepForUndo_18 : decode cX4_keepForUndo 18 = .ok (.getfield 30, 3) := by decide +kernel
theorem dX4_keepForUndo_21 : decode cX4_keepForUndo 21 = .ok (.bipush 9, 2) := by decide +kernel
theorem dX4_keepForUndo_23 : decode cX4_keepForUndo 23 = .ok (.if_icmp .ne 7, 3) := by decide +kernel
theorem dX4_keepForUndo_26 : decode cX4_keepForUndo 26 = .ok (.iconst 0, 1) := by decide +kernel
theorem dX4_keepForUndo_27 : decode cX4_keepForUndo 27 = .ok (.goto 9, 3) := by decide +kernel
theorem dX4_keepForUndo_30 : decode cX4_keepForUndo 30 = .ok (.aload_n 0, 1) := by decide +kernel
theorem dX4_keepForUndo_31 : decode cX4_keepForUndo 31 = .ok (.getfield 30, 3) := by decide +kernel
theorem dX4_keepForUndo_34 : decode cX4_keepForUndo 34 = .ok (.iconst 1, 1) := by decide +kernel
theorem dX4_keepForUndo_35 : decode cX4_keepForUndo 35 = .ok (.iadd, 1) := by decide +kernel
theorem dX4_keepForUndo_36 : decode cX4_keepForUndo 36 = .ok (.putfield 30, 3) := by decide +kernel
theorem dX4_keepForUndo_39 : decode cX4_keepForUndo 39 = .ok (.aload_n 0, 1) := by decide +kernel
theorem dX4_keepForUndo_40 : decode cX4_keepForUndo 40 = .ok (.aload_n 0, 1) := by decide +kernel
theorem dX4_keepForUndo_41 : decode cX4_keepForUndo 41 = .ok (.getfield 34, 3) := by decide +kernel
theorem dX4_keepForUndo_44 : decode cX4_keepForUndo 44 = .ok (.iconst 1, 1) := by decide +kernel
theorem dX4_keepForUndo_45 : decode cX4_keepForUndo 45 = .ok (.iadd, 1) := by decide +kernel
theorem dX4_keepForUndo_46 : decode cX4_keepForUndo 46 = .ok (.bipush 10, 2) := by decide +kernel
theorem dX4_keepForUndo_48 : decode cX4_keepForUndo 48 = .ok (.invokestatic 210, 3) := by decide +kernel
theorem dX4_keepForUndo_51 : decode cX4_keepForUndo 51 = .ok (.putfield 34, 3) := by decide +kernel
theorem dX4_keepForUndo_54 : decode cX4_keepForUndo 54 = .ok (.return_, 1) := by decide +kernel
theorem dX4_afterOneRound_0 : decode cX4_afterOneRound 0 = .ok (.aload_n 0, 1) := by decide +kernel
theorem dX4_afterOneRound_1 : decode cX4_afterOneRound 1 = .ok (.getfield 23, 3) := by decide +kernel
theorem dX4_afterOneRound_4 : decode cX4_afterOneRound 4 = .ok (.aload_n 0, 1) := by decide +kernel
theorem dX4_afterOneRound_5 : decode cX4_afterOneRound 5 = .ok (.getfield 19, 3) := by decide +kernel
theorem dX4_afterOneRound_8 : decode cX4_afterOneRound 8 = .ok (.invokevirtual 60, 3) := by decide +kernel
theorem dX4_afterOneRound_11 : decode cX4_afterOneRound 11 = .ok (.aload_n 0, 1) := by decide +kernel
theorem dX4_afterOneRound_12 : decode cX4_afterOneRound 12 = .ok (.getfield 23, 3) := by decide +kernel
theorem dX4_afterOneRound_15 : decode cX4_afterOneRound 15 = .ok (.invokevirtual 112, 3) := by decide +kernel
theorem dX4_afterOneRound_18 : decode cX4_afterOneRound 18 = .ok (.aload_n 0, 1) := by decide +kernel
theorem dX4_afterOneRound_19 : decode cX4_afterOneRound 19 = .ok (.getfield 23, 3) := by decide +kernel
theorem dX4_afterOneRound_22 : decode cX4_afterOneRound 22 = .ok (.getfield 78, 3) := by decide +kernel
theorem dX4_afterOneRound_25 : decode cX4_afterOneRound 25 = .ok (.iload_n 1, 1) := by decide +kernel
theorem dX4_afterOneRound_26 : decode cX4_afterOneRound 26 = .ok (.aaload, 1) := by decide +kernel
theorem dX4_afterOneRound_27 : decode cX4_afterOneRound 27 = .ok (.areturn, 1) := by decide +kernel
theorem dX4_replayed_0 : decode cX4_replayed 0 = .ok (.aload_n 0, 1) := by decide +kernel
theorem dX4_replayed_1 : decode cX4_replayed 1 = .ok (.getfield 19, 3) := by decide +kernel
theorem dX4_replayed_4 : decode cX4_replayed 4 = .ok (.getfield 78, 3) := by decide +kernel
theorem dX4_replayed_7 : decode cX4_replayed 7 = .ok (.iload_n 1, 1) := by decide +kernel
theorem dX4_replayed_8 : decode cX4_replayed 8 = .ok (.aaload, 1) := by decide +kernel
theorem dX4_replayed_9 : decode cX4_replayed 9 = .ok (.astore 4, 2) := by decide +kernel
theorem dX4_replayed_11 : decode cX4_replayed 11 = .ok (.aload_n 0, 1) := by decide +kernel
theorem dX4_replayed_12 : decode cX4_replayed 12 = .ok (.getfield 23, 3) := by decide +kernel
theorem dX4_replayed_15 : decode cX4_replayed 15 = .ok (.aload_n 0, 1) := by decide +kernel
theorem dX4_replayed_16 : decode cX4_replayed 16 = .ok (.getfield 19, 3) := by decide +kernel
theorem dX4_replayed_19 : decode cX4_replayed 19 = .ok (.aload 4, 2) := by decide +kernel
theorem dX4_replayed_21 : decode cX4_replayed 21 = .ok (.invokevirtual 216, 3) := by decide +kernel
theorem dX4_replayed_24 : decode cX4_replayed 24 = .ok (.aload_n 0, 1) := by decide +kernel
theorem dX4_replayed_25 : decode cX4_replayed 25 = .ok (.getfield 23, 3) := by decide +kernel
theorem dX4_replayed_28 : decode cX4_replayed 28 = .ok (.getfield 78, 3) := by decide +kernel
theorem dX4_replayed_31 : decode cX4_replayed 31 = .ok (.iconst 0, 1) := by decide +kernel
theorem dX4_replayed_32 : decode cX4_replayed 32 = .ok (.aaload, 1) := by decide +kernel
theorem dX4_replayed_33 : decode cX4_replayed 33 = .ok (.astore 5, 2) := by decide +kernel
theorem dX4_replayed_35 : decode cX4_replayed 35 = .ok (.aload 5, 2) := by decide +kernel
theorem dX4_replayed_37 : decode cX4_replayed 37 = .ok (.getfield 103, 3) := by decide +kernel
theorem dX4_replayed_40 : decode cX4_replayed 40 = .ok (.iconst 3, 1) := by decide +kernel
theorem dX4_replayed_41 : decode cX4_replayed 41 = .ok (.iload_n 2, 1) := by decide +kernel
theorem dX4_replayed_42 : decode cX4_replayed 42 = .ok (.iastore, 1) := by decide +kernel
theorem dX4_replayed_43 : decode cX4_replayed 43 = .ok (.aload 5, 2) := by decide +kernel
theorem dX4_replayed_45 : decode cX4_replayed 45 = .ok (.getfield 103, 3) := by decide +kernel
theorem dX4_replayed_48 : decode cX4_replayed 48 = .ok (.iconst 4, 1) := by decide +kernel
theorem dX4_replayed_49 : decode cX4_replayed 49 = .ok (.iload_n 3, 1) := by decide +kernel
theorem dX4_replayed_50 : decode cX4_replayed 50 = .ok (.iastore, 1) := by decide +kernel
theorem dX4_replayed_51 : decode cX4_replayed 51 = .ok (.aload_n 0, 1) := by decide +kernel
theorem dX4_replayed_52 : decode cX4_replayed 52 = .ok (.getfield 19, 3) := by decide +kernel
theorem dX4_replayed_55 : decode cX4_replayed 55 = .ok (.invokevirtual 143, 3) := by decide +kernel
theorem dX4_replayed_58 : decode cX4_replayed 58 = .ok (.istore 6, 2) := by decide +kernel
theorem dX4_replayed_60 : decode cX4_replayed 60 = .ok (.iconst 0, 1) := by decide +kernel
theorem dX4_replayed_61 : decode cX4_replayed 61 = .ok (.istore 7, 2) := by decide +kernel
theorem dX4_replayed_63 : decode cX4_replayed 63 = .ok (.iload 7, 2) := by decide +kernel
theorem dX4_replayed_65 : decode cX4_replayed 65 = .ok (.iload 6, 2) := by decide +kernel
theorem dX4_replayed_67 : decode cX4_replayed 67 = .ok (.if_icmp .ge 36, 3) := by decide +kernel
theorem dX4_replayed_70 : decode cX4_replayed 70 = .ok (.aload 5, 2) := by decide +kernel
theorem dX4_replayed_72 : decode cX4_replayed 72 = .ok (.aload 4, 2) := by decide +kernel
theorem dX4_replayed_74 : decode cX4_replayed 74 = .ok (.aload_n 0, 1) := by decide +kernel
theorem dX4_replayed_75 : decode cX4_replayed 75 = .ok (.getfield 19, 3) := by decide +kernel
theorem dX4_replayed_78 : decode cX4_replayed 78 = .ok (.getfield 127, 3) := by decide +kernel
theorem dX4_replayed_81 : decode cX4_replayed 81 = .ok (.iload 6, 2) := by decide +kernel
theorem dX4_replayed_83 : decode cX4_replayed 83 = .ok (.isub, 1) := by decide +kernel
theorem dX4_replayed_84 : decode cX4_replayed 84 = .ok (.iload 7, 2) := by decide +kernel
theorem dX4_replayed_86 : decode cX4_replayed 86 = .ok (.iadd, 1) := by decide +kernel
theorem dX4_replayed_87 : decode cX4_replayed 87 = .ok (.invokevirtual 220, 3) := by decide +kernel
theorem dX4_replayed_90 : decode cX4_replayed 90 = .ok (.aload_n 0, 1) := by decide +kernel
theorem dX4_replayed_91 : decode cX4_replayed 91 = .ok (.getfield 23, 3) := by decide +kernel
theorem dX4_replayed_94 : decode cX4_replayed 94 = .ok (.invokevirtual 112, 3) := by decide +kernel
theorem dX4_replayed_97 : decode cX4_replayed 97 = .ok (.iinc 7 1, 3) := by decide +kernel
theorem dX4_replayed_100 : decode cX4_replayed 100 = .ok (.goto (-37), 3) := by decide +kernel
theorem dX4_replayed_103 : decode cX4_replayed 103 = .ok (.aload 5, 2) := by decide +kernel
theorem dX4_replayed_105 : decode cX4_replayed 105 = .ok (.areturn, 1) := by decide +kernel
theorem dX4_cut_0 : decode cX4_cut 0 = .ok (.iload_n 1, 1) := by decide +kernel
theorem dX4_cut_1 : decode cX4_cut 1 = .ok (.iconst 1, 1) := by decide +kernel
theorem dX4_cut_2 : decode cX4_cut 2 = .ok (.if_icmp .ge 7, 3) := by decide +kernel
theorem dX4_cut_5 : decode cX4_cut 5 = .ok (.iconst 0, 1) := by decide +kernel
theorem dX4_cut_6 : decode cX4_cut 6 = .ok (.goto 6, 3) := by decide +kernel
theorem dX4_cut_9 : decode cX4_cut 9 = .ok (.iload_n 0, 1) := by decide +kernel
theorem dX4_cut_10 : decode cX4_cut 10 = .ok (.iload_n 1, 1) := by decide +kernel
theorem dX4_cut_11 : decode cX4_cut 11 = .ok (.idiv, 1) := by decide +kernel
theorem dX4_cut_12 : decode cX4_cut 12 = .ok (.ireturn, 1) := by decide +kernel
theorem dX4_cutUp_0 : decode cX4_cutUp 0 = .ok (.iload_n 1, 1) := by decide +kernel
theorem dX4_cutUp_1 : decode cX4_cutUp 1 = .ok (.iconst 1, 1) := by decide +kernel
theorem dX4_cutUp_2 : decode cX4_cutUp 2 = .ok (.if_icmp .ge 7, 3) := by decide +kernel
theorem dX4_cutUp_5 : decode cX4_cutUp 5 = .ok (.iconst 0, 1) := by decide +kernel
theorem dX4_cutUp_6 : decode cX4_cutUp 6 = .ok (.goto 10, 3) := by decide +kernel
theorem dX4_cutUp_9 : decode cX4_cutUp 9 = .ok (.iload_n 0, 1) := by decide +kernel
theorem dX4_cutUp_10 : decode cX4_cutUp 10 = .ok (.iload_n 1, 1) := by decide +kernel
theorem dX4_cutUp_11 : decode cX4_cutUp 11 = .ok (.iadd, 1) := by decide +kernel
theorem dX4_cutUp_12 : decode cX4_cutUp 12 = .ok (.iconst 1, 1) := by decide +kernel
theorem dX4_cutUp_13 : decode cX4_cutUp 13 = .ok (.isub, 1) := by decide +kernel
theorem dX4_cutUp_14 : decode cX4_cutUp 14 = .ok (.iload_n 1, 1) := by decide +kernel
theorem dX4_cutUp_15 : decode cX4_cutUp 15 = .ok (.idiv, 1) := by decide +kernel
theorem dX4_cutUp_16 : decode cX4_cutUp 16 = .ok (.ireturn, 1) := by decide +kernel
theorem dJ9_abs_0f7a4_0 : decode cJ9_abs_0f7a4 0 = .ok (.iload_n 0, 1) := by decide +kernel
theorem dJ9_abs_0f7a4_1 : decode cJ9_abs_0f7a4 1 = .ok (.ifCond .ge 8, 3) := by decide +kernel
theorem dJ9_abs_0f7a4_4 : decode cJ9_abs_0f7a4 4 = .ok (.iload_n 0, 1) := by decide +kernel
theorem dJ9_abs_0f7a4_5 : decode cJ9_abs_0f7a4 5 = .ok (.ineg, 1) := by decide +kernel
theorem dJ9_abs_0f7a4_6 : decode cJ9_abs_0f7a4 6 = .ok (.goto 4, 3) := by decide +kernel
theorem dJ9_abs_0f7a4_9 : decode cJ9_abs_0f7a4 9 = .ok (.iload_n 0, 1) := by decide +kernel
theorem dJ9_abs_0f7a4_10 : decode cJ9_abs_0f7a4 10 = .ok (.ireturn, 1) := by decide +kernel
theorem dJ9_max_7cf53_0 : decode cJ9_max_7cf53 0 = .ok (.iload_n 0, 1) := by decide +kernel
theorem dJ9_max_7cf53_1 : decode cJ9_max_7cf53 1 = .ok (.iload_n 1, 1) := by decide +kernel
theorem dJ9_max_7cf53_2 : decode cJ9_max_7cf53 2 = .ok (.if_icmp .lt 7, 3) := by decide +kernel
theorem dJ9_max_7cf53_5 : decode cJ9_max_7cf53 5 = .ok (.iload_n 0, 1) := by decide +kernel
theorem dJ9_max_7cf53_6 : decode cJ9_max_7cf53 6 = .ok (.goto 4, 3) := by decide +kernel
theorem dJ9_max_7cf53_9 : decode cJ9_max_7cf53 9 = .ok (.iload_n 1, 1) := by decide +kernel
theorem dJ9_max_7cf53_10 : decode cJ9_max_7cf53 10 = .ok (.ireturn, 1) := by decide +kernel
theorem dJ9_min_7cf53_0 : decode cJ9_min_7cf53 0 = .ok (.iload_n 0, 1) := by decide +kernel
theorem dJ9_min_7cf53_1 : decode cJ9_min_7cf53 1 = .ok (.iload_n 1, 1) := by decide +kernel
theorem dJ9_min_7cf53_2 : decode cJ9_min_7cf53 2 = .ok (.if_icmp .gt 7, 3) := by decide +kernel
theorem dJ9_min_7cf53_5 : decode cJ9_min_7cf53 5 = .ok (.iload_n 0, 1) := by decide +kernel
theorem dJ9_min_7cf53_6 : decode cJ9_min_7cf53 6 = .ok (.goto 4, 3) := by decide +kernel
theorem dJ9_min_7cf53_9 : decode cJ9_min_7cf53 9 = .ok (.iload_n 1, 1) := by decide +kernel
theorem dJ9_min_7cf53_10 : decode cJ9_min_7cf53 10 = .ok (.ireturn, 1) := by decide +kernel
theorem dJ7_fill_53178_0 : decode cJ7_fill_53178 0 = .ok (.iconst 0, 1) := by decide +kernel
theorem dJ7_fill_53178_1 : decode cJ7_fill_53178 1 = .ok (.istore_n 2, 1) := by decide +kernel
theorem dJ7_fill_53178_2 : decode cJ7_fill_53178 2 = .ok (.aload_n 0, 1) := by decide +kernel
theorem dJ7_fill_53178_3 : decode cJ7_fill_53178 3 = .ok (.arraylength, 1) := by decide +kernel
theorem dJ7_fill_53178_4 : decode cJ7_fill_53178 4 = .ok (.istore_n 3, 1) := by decide +kernel
theorem dJ7_fill_53178_5 : decode cJ7_fill_53178 5 = .ok (.iload_n 2, 1) := by decide +kernel
theorem dJ7_fill_53178_6 : decode cJ7_fill_53178 6 = .ok (.iload_n 3, 1) := by decide +kernel
theorem dJ7_fill_53178_7 : decode cJ7_fill_53178 7 = .ok (.if_icmp .ge 13, 3) := by decide +kernel
theorem dJ7_fill_53178_10 : decode cJ7_fill_53178 10 = .ok (.aload_n 0, 1) := by decide +kernel
theorem dJ7_fill_53178_11 : decode cJ7_fill_53178 11 = .ok (.iload_n 2, 1) := by decide +kernel
theorem dJ7_fill_53178_12 : decode cJ7_fill_53178 12 = .ok (.iload_n 1, 1) := by decide +kernel
theorem dJ7_fill_53178_13 : decode cJ7_fill_53178 13 = .ok (.iastore, 1) := by decide +kernel
theorem dJ7_fill_53178_14 : decode cJ7_fill_53178 14 = .ok (.iinc 2 1, 3) := by decide +kernel
theorem dJ7_fill_53178_17 : decode cJ7_fill_53178 17 = .ok (.goto (-12), 3) := by decide +kernel
theorem dJ7_fill_53178_20 : decode cJ7_fill_53178 20 = .ok (.return_, 1) := by decide +kernel
end
section
theorem dX5_init_0 : decode cX5_init 0 = .ok (.aload_n 0, 1) := by decide +kernel
theorem dX5_init_1 : decode cX5_init 1 = .ok (.invokespecial 1, 3) := by decide +kernel
theorem dX5_init_4 : decode cX5_init 4 = .ok (.aload_n 0, 1) := by decide +kernel
theorem dX5_init_5 : decode cX5_init 5 = .ok (.sipush 5200, 3) := by decide +kernel
theorem dX5_init_8 : decode cX5_init 8 = .ok (.newarray .int, 2) := by decide +kernel
theorem dX5_init_10 : decode cX5_init 10 = .ok (.putfield 7, 3) := by decide +kernel
theorem dX5_init_13 : decode cX5_init 13 = .ok (.aload_n 0, 1) := by decide +kernel
theorem dX5_init_14 : decode cX5_init 14 = .ok (.iconst 4, 1) := by decide +kernel
theorem dX5_init_15 : decode cX5_init 15 = .ok (.newarray .int, 2) := by decide +kernel
theorem dX5_init_17 : decode cX5_init 17 = .ok (.putfield 13, 3) := by decide +kernel
theorem dX5_init_20 : decode cX5_init 20 = .ok (.aload_n 0, 1) := by decide +kernel
theorem dX5_init_21 : decode cX5_init 21 = .ok (.iconst 4, 1) := by decide +kernel
theorem dX5_init_22 : decode cX5_init 22 = .ok (.newarray .int, 2) := by decide +kernel
theorem dX5_init_24 : decode cX5_init 24 = .ok (.putfield 16, 3) := by decide +kernel
theorem dX5_init_27 : decode cX5_init 27 = .ok (.aload_n 0, 1) := by decide +kernel
theorem dX5_init_28 : decode cX5_init 28 = .ok (.iconst 4, 1) := by decide +kernel
theorem dX5_init_29 : decode cX5_init 29 = .ok (.newarray .int, 2) := by decide +kernel
theorem dX5_init_31 : decode cX5_init 31 = .ok (.putfield 19, 3) := by decide +kernel
theorem dX5_init_34 : decode cX5_init 34 = .ok (.aload_n 0, 1) := by decide +kernel
theorem dX5_init_35 : decode cX5_init 35 = .ok (.iconst 4, 1) := by decide +kernel
theorem dX5_init_36 : decode cX5_init 36 = .ok (.newarray .int, 2) := by decide +kernel
theorem dX5_init_38 : decode cX5_init 38 = .ok (.putfield 22, 3) := by decide +kernel
theorem dX5_init_41 : decode cX5_init 41 = .ok (.aload_n 0, 1) := by decide +kernel
theorem dX5_init_42 : decode cX5_init 42 = .ok (.iconst 4, 1) := by decide +kernel
theorem dX5_init_43 : decode cX5_init 43 = .ok (.newarray .int, 2) := by decide +kernel
theorem dX5_init_45 : decode cX5_init 45 = .ok (.putfield 25, 3) := by decide +kernel
theorem dX5_init_48 : decode cX5_init 48 = .ok (.aload_n 0, 1) := by decide +kernel
theorem dX5_init_49 : decode cX5_init 49 = .ok (.iconst 4, 1) := by decide +kernel
theorem dX5_init_50 : decode cX5_init 50 = .ok (.newarray .int, 2) := by decide +kernel
theorem dX5_init_52 : decode cX5_init 52 = .ok (.putfield 28, 3) := by decide +kernel
theorem dX5_init_55 : decode cX5_init 55 = .ok (.aload_n 0, 1) := by decide +kernel
theorem dX5_init_56 : decode cX5_init 56 = .ok (.iconst 4, 1) := by decide +kernel
theorem dX5_init_57 : decode cX5_init 57 = .ok (.newarray .int, 2) := by decide +kernel
theorem dX5_init_59 : decode cX5_init 59 = .ok (.putfield 31, 3) := by decide +kernel
theorem dX5_init_62 : decode cX5_init 62 = .ok (.aload_n 0, 1) := by decide +kernel
theorem dX5_init_63 : decode cX5_init 63 = .ok (.iconst 4, 1) := by decide +kernel
theorem dX5_init_64 : decode cX5_init 64 = .ok (.newarray .int, 2) := by decide +kernel
theorem dX5_init_66 : decode cX5_init 66 = .ok (.putfield 34, 3) := by decide +kernel
theorem dX5_init_69 : decode cX5_init 69 = .ok (.aload_n 0, 1) := by decide +kernel
theorem dX5_init_70 : decode cX5_init 70 = .ok (.sipush 160, 3) := by decide +kernel
theorem dX5_init_73 : decode cX5_init 73 = .ok (.newarray .int, 2) := by decide +kernel
theorem dX5_init_75 : decode cX5_init 75 = .ok (.putfield 37, 3) := by decide +kernel
theorem dX5_init_78 : decode cX5_init 78 = .ok (.return_, 1) := by decide +kernel
theorem dX5_in_0 : decode cX5_in 0 = .ok (.lload_n 0, 1) := by decide +kernel
theorem dX5_in_1 : decode cX5_in 1 = .ok (.lload_n 2, 1) := by decide +kernel
theorem dX5_in_2 : decode cX5_in 2 = .ok (.lcmp, 1) := by decide +kernel
theorem dX5_in_3 : decode cX5_in 3 = .ok (.ifCond .lt 14, 3) := by decide +kernel
theorem dX5_in_6 : decode cX5_in 6 = .ok (.lload_n 0, 1) := by decide +kernel
theorem dX5_in_7 : decode cX5_in 7 = .ok (.lload 4, 2) := by decide +kernel
theorem dX5_in_9 : decode cX5_in 9 = .ok (.lcmp, 1) := by decide +kernel
theorem dX5_in_10 : decode cX5_in 10 = .ok (.ifCond .gt 7, 3) := by decide +kernel
theorem dX5_in_13 : decode cX5_in 13 = .ok (.iconst 1, 1) := by decide +kernel
theorem dX5_in_14 : decode cX5_in 14 = .ok (.goto 4, 3) := by decide +kernel
theorem dX5_in_17 : decode cX5_in 17 = .ok (.iconst 0, 1) := by decide +kernel
theorem dX5_in_18 : decode cX5_in 18 = .ok (.ireturn, 1) := by decide +kernel
theorem dX5_copies_0 : decode cX5_copies 0 = .ok (.iconst 0, 1) := by decide +kernel
theorem dX5_copies_1 : decode cX5_copies 1 = .ok (.istore_n 3, 1) := by decide +kernel
theorem dX5_copies_2 : decode cX5_copies 2 = .ok (.iload_n 3, 1) := by decide +kernel
theorem dX5_copies_3 : decode cX5_copies 3 = .ok (.sipush 400, 3) := by decide +kernel
theorem dX5_copies_6 : decode cX5_copies 6 = .ok (.if_icmp .ge 33, 3) := by decide +kernel
theorem dX5_copies_9 : decode cX5_copies 9 = .ok (.aload_n 0, 1) := by decide +kernel
theorem dX5_copies_10 : decode cX5_copies 10 = .ok (.getfield 7, 3) := by decide +kernel
theorem dX5_copies_13 : decode cX5_copies 13 = .ok (.sipush 400, 3) := by decide +kernel
theorem dX5_copies_16 : decode cX5_copies 16 = .ok (.iload_n 2, 1) := by decide +kernel
theorem dX5_copies_17 : decode cX5_copies 17 = .ok (.imul, 1) := by decide +kernel
theorem dX5_copies_18 : decode cX5_copies 18 = .ok (.iload_n 3, 1) := by decide +kernel
theorem dX5_copies_19 : decode cX5_copies 19 = .ok (.iadd, 1) := by decide +kernel
theorem dX5_copies_20 : decode cX5_copies 20 = .ok (.aload_n 0, 1) := by decide +kernel
theorem dX5_copies_21 : decode cX5_copies 21 = .ok (.getfield 7, 3) := by decide +kernel
theorem dX5_copies_24 : decode cX5_copies 24 = .ok (.sipush 400, 3) := by decide +kernel
theorem dX5_copies_27 : decode cX5_copies 27 = .ok (.iload_n 1, 1) := by decide +kernel
theorem dX5_copies_28 : decode cX5_copies 28 = .ok (.imul, 1) := by decide +kernel
theorem dX5_copies_29 : decode cX5_copies 29 = .ok (.iload_n 3, 1) := by decide +kernel
theorem dX5_copies_30 : decode cX5_copies 30 = .ok (.iadd, 1) := by decide +kernel
theorem dX5_copies_31 : decode cX5_copies 31 = .ok (.iaload, 1) := by decide +kernel
theorem dX5_copies_32 : decode cX5_copies 32 = .ok (.iastore, 1) := by decide +kernel
theorem dX5_copies_33 : decode cX5_copies 33 = .ok (.iinc 3 1, 3) := by decide +kernel
theorem dX5_copies_36 : decode cX5_copies 36 = .ok (.goto (-34), 3) := by decide +kernel
theorem dX5_copies_39 : decode cX5_copies 39 = .ok (.return_, 1) := by decide +kernel
theorem dX5_of_0 : decode cX5_of 0 = .ok (.aload_n 0, 1) := by decide +kernel
theorem dX5_of_1 : decode cX5_of 1 = .ok (.getfield 7, 3) := by decide +kernel
theorem dX5_of_4 : decode cX5_of 4 = .ok (.sipush 400, 3) := by decide +kernel
theorem dX5_of_7 : decode cX5_of 7 = .ok (.iload_n 1, 1) := by decide +kernel
theorem dX5_of_8 : decode cX5_of 8 = .ok (.imul, 1) := by decide +kernel
theorem dX5_of_9 : decode cX5_of 9 = .ok (.iload_n 2, 1) := by decide +kernel
theorem dX5_of_10 : decode cX5_of 10 = .ok (.iadd, 1) := by decide +kernel
theorem dX5_of_11 : decode cX5_of 11 = .ok (.iaload, 1) := by decide +kernel
theorem dX5_of_12 : decode cX5_of 12 = .ok (.ireturn, 1) := by decide +kernel
theorem dX5_lays_0 : decode cX5_lays 0 = .ok (.aload_n 0, 1) := by decide +kernel
theorem dX5_lays_1 : decode cX5_lays 1 = .ok (.getfield 7, 3) := by decide +kernel
theorem dX5_lays_4 : decode cX5_lays 4 = .ok (.sipush 400, 3) := by decide +kernel
theorem dX5_lays_7 : decode cX5_lays 7 = .ok (.iload_n 1, 1) := by decide +kernel
theorem dX5_lays_8 : decode cX5_lays 8 = .ok (.imul, 1) := by decide +kernel
theorem dX5_lays_9 : decode cX5_lays 9 = .ok (.iload_n 2, 1) := by decide +kernel
theorem dX5_lays_10 : decode cX5_lays 10 = .ok (.iadd, 1) := by decide +kernel
theorem dX5_lays_11 : decode cX5_lays 11 = .ok (.iload_n 3, 1) := by decide +kernel
theorem dX5_lays_12 : decode cX5_lays 12 = .ok (.iastore, 1) := by decide +kernel
theorem dX5_lays_13 : decode cX5_lays 13 = .ok (.return_, 1) := by decide +kernel
theorem dX5_at_0 : decode cX5_at 0 = .ok (.sipush 400, 3) := by decide +kernel
theorem dX5_at_3 : decode cX5_at 3 = .ok (.iload_n 0, 1) := by decide +kernel
theorem dX5_at_4 : decode cX5_at 4 = .ok (.imul, 1) := by decide +kernel
theorem dX5_at_5 : decode cX5_at 5 = .ok (.bipush 8, 2) := by decide +kernel
theorem dX5_at_7 : decode cX5_at 7 = .ok (.iadd, 1) := by decide +kernel
theorem dX5_at_8 : decode cX5_at 8 = .ok (.bipush 98, 2) := by decide +kernel
theorem dX5_at_10 : decode cX5_at 10 = .ok (.iload_n 1, 1) := by decide +kernel
theorem dX5_at_11 : decode cX5_at 11 = .ok (.imul, 1) := by decide +kernel
theorem dX5_at_12 : decode cX5_at 12 = .ok (.iadd, 1) := by decide +kernel
theorem dX5_at_13 : decode cX5_at 13 = .ok (.iload_n 2, 1) := by decide +kernel
theorem dX5_at_14 : decode cX5_at 14 = .ok (.iadd, 1) := by decide +kernel
theorem dX5_at_15 : decode cX5_at 15 = .ok (.ireturn, 1) := by decide +kernel
theorem dX5_atMeasure_0 : decode cX5_atMeasure 0 = .ok (.iload_n 0, 1) := by decide +kernel
theorem dX5_atMeasure_1 : decode cX5_atMeasure 1 = .ok (.iload_n 1, 1) := by decide +kernel
theorem dX5_atMeasure_2 : decode cX5_atMeasure 2 = .ok (.bipush 35, 2) := by decide +kernel
theorem dX5_atMeasure_4 : decode cX5_atMeasure 4 = .ok (.bipush 21, 2) := by decide +kernel
theorem dX5_atMeasure_6 : decode cX5_atMeasure 6 = .ok (.iload_n 2, 1) := by decide +kernel
theorem dX5_atMeasure_7 : decode cX5_atMeasure 7 = .ok (.imul, 1) := by decide +kernel
theorem dX5_atMeasure_8 : decode cX5_atMeasure 8 = .ok (.iadd, 1) := by decide +kernel
theorem dX5_atMeasure_9 : decode cX5_atMeasure 9 = .ok (.iload_n 3, 1) := by decide +kernel
theorem dX5_atMeasure_10 : decode cX5_atMeasure 10 = .ok (.iadd, 1) := by decide +kernel
theorem dX5_atMeasure_11 : decode cX5_atMeasure 11 = .ok (.invokestatic 40, 3) := by decide +kernel
theorem dX5_atMeasure_14 : decode cX5_atMeasure 14 = .ok (.ireturn, 1) := by decide +kernel
theorem dX5_isHouse_0 : decode cX5_isHouse 0 = .ok (.aload_n 0, 1) := by decide +kernel
theorem dX5_isHouse_1 : decode cX5_isHouse 1 = .ok (.getfield 7, 3) := by decide +kernel
theorem dX5_isHouse_4 : decode cX5_isHouse 4 = .ok (.bipush 7, 2) := by decide +kernel
theorem dX5_isHouse_6 : decode cX5_isHouse 6 = .ok (.iaload, 1) := by decide +kernel
theorem dX5_isHouse_7 : decode cX5_isHouse 7 = .ok (.ifCond .le 7, 3) := by decide +kernel
theorem dX5_isHouse_10 : decode cX5_isHouse 10 = .ok (.iconst 1, 1) := by decide +kernel
theorem dX5_isHouse_11 : decode cX5_isHouse 11 = .ok (.goto 4, 3) := by decide +kernel
theorem dX5_isHouse_14 : decode cX5_isHouse 14 = .ok (.iconst 0, 1) := by decide +kernel
theorem dX5_isHouse_15 : decode cX5_isHouse 15 = .ok (.ireturn, 1) := by decide +kernel
theorem dX5_isService_0 : decode cX5_isService 0 = .ok (.iload_n 1, 1) := by decide +kernel
theorem dX5_isService_1 : decode cX5_isService 1 = .ok (.i2l, 1) := by decide +kernel
theorem dX5_isService_2 : decode cX5_isService 2 = .ok (.lconst 0, 1) := by decide +kernel
theorem dX5_isService_3 : decode cX5_isService 3 = .ok (.aload_n 0, 1) := by decide +kernel
theorem dX5_isService_4 : decode cX5_isService 4 = .ok (.getfield 7, 3) := by decide +kernel
theorem dX5_isService_7 : decode cX5_isService 7 = .ok (.bipush 7, 2) := by decide +kernel
theorem dX5_isService_9 : decode cX5_isService 9 = .ok (.iaload, 1) := by decide +kernel
theorem dX5_isService_10 : decode cX5_isService 10 = .ok (.iconst 1, 1) := by decide +kernel
theorem dX5_isService_11 : decode cX5_isService 11 = .ok (.isub, 1) := by decide +kernel
theorem dX5_isService_12 : decode cX5_isService 12 = .ok (.i2l, 1) := by decide +kernel
theorem dX5_isService_13 : decode cX5_isService 13 = .ok (.invokestatic 44, 3) := by decide +kernel
theorem dX5_isService_16 : decode cX5_isService 16 = .ok (.ireturn, 1) := by decide +kernel
theorem dX5_isMeasure_0 : decode cX5_isMeasure 0 = .ok (.aload_n 0, 1) := by decide +kernel
theorem dX5_isMeasure_1 : decode cX5_isMeasure 1 = .ok (.iload_n 1, 1) := by decide +kernel
theorem dX5_isMeasure_2 : decode cX5_isMeasure 2 = .ok (.invokevirtual 48, 3) := by decide +kernel
theorem dX5_isMeasure_5 : decode cX5_isMeasure 5 = .ok (.ifCond .eq 31, 3) := by decide +kernel
theorem dX5_isMeasure_8 : decode cX5_isMeasure 8 = .ok (.iload_n 2, 1) := by decide +kernel
theorem dX5_isMeasure_9 : decode cX5_isMeasure 9 = .ok (.i2l, 1) := by decide +kernel
theorem dX5_isMeasure_10 : decode cX5_isMeasure 10 = .ok (.lconst 0, 1) := by decide +kernel
theorem dX5_isMeasure_11 : decode cX5_isMeasure 11 = .ok (.aload_n 0, 1) := by decide +kernel
theorem dX5_isMeasure_12 : decode cX5_isMeasure 12 = .ok (.getfield 7, 3) := by decide +kernel
theorem dX5_isMeasure_15 : decode cX5_isMeasure 15 = .ok (.iconst 0, 1) := by decide +kernel
theorem dX5_isMeasure_16 : decode cX5_isMeasure 16 = .ok (.iload_n 1, 1) := by decide +kernel
theorem dX5_isMeasure_17 : decode cX5_isMeasure 17 = .ok (.bipush 9, 2) := by decide +kernel
theorem dX5_isMeasure_19 : decode cX5_isMeasure 19 = .ok (.invokestatic 40, 3) := by decide +kernel
theorem dX5_isMeasure_22 : decode cX5_isMeasure 22 = .ok (.iaload, 1) := by decide +kernel
theorem dX5_isMeasure_23 : decode cX5_isMeasure 23 = .ok (.iconst 1, 1) := by decide +kernel
theorem dX5_isMeasure_24 : decode cX5_isMeasure 24 = .ok (.isub, 1) := by decide +kernel
theorem dX5_isMeasure_25 : decode cX5_isMeasure 25 = .ok (.i2l, 1) := by decide +kernel
theorem dX5_isMeasure_26 : decode cX5_isMeasure 26 = .ok (.invokestatic 44, 3) := by decide +kernel
theorem dX5_isMeasure_29 : decode cX5_isMeasure 29 = .ok (.ifCond .eq 7, 3) := by decide +kernel
theorem dX5_isMeasure_32 : decode cX5_isMeasure 32 = .ok (.iconst 1, 1) := by decide +kernel
theorem dX5_isMeasure_33 : decode cX5_isMeasure 33 = .ok (.goto 4, 3) := by decide +kernel
theorem dX5_isMeasure_36 : decode cX5_isMeasure 36 = .ok (.iconst 0, 1) := by decide +kernel
theorem dX5_isMeasure_37 : decode cX5_isMeasure 37 = .ok (.ireturn, 1) := by decide +kernel
theorem dX5_up_0 : decode cX5_up 0 = .ok (.iload_n 0, 1) := by decide +kernel
theorem dX5_up_1 : decode cX5_up 1 = .ok (.iload_n 1, 1) := by decide +kernel
theorem dX5_up_2 : decode cX5_up 2 = .ok (.iadd, 1) := by decide +kernel
theorem dX5_up_3 : decode cX5_up 3 = .ok (.iconst 1, 1) := by decide +kernel
theorem dX5_up_4 : decode cX5_up 4 = .ok (.isub, 1) := by decide +kernel
theorem dX5_up_5 : decode cX5_up 5 = .ok (.iload_n 1, 1) := by decide +kernel
theorem dX5_up_6 : decode cX5_up 6 = .ok (.idiv, 1) := by decide +kernel
theorem dX5_up_7 : decode cX5_up 7 = .ok (.ireturn, 1) := by decide +kernel
theorem dX5_countOf_0 : decode cX5_countOf 0 = .ok (.aload_n 0, 1) := by decide +kernel
theorem dX5_countOf_1 : decode cX5_countOf 1 = .ok (.getfield 7, 3) := by decide +kernel
theorem dX5_countOf_4 : decode cX5_countOf 4 = .ok (.iload_n 1, 1) := by decide +kernel
theorem dX5_countOf_5 : decode cX5_countOf 5 = .ok (.iload_n 2, 1) := by decide +kernel
theorem dX5_countOf_6 : decode cX5_countOf 6 = .ok (.bipush 10, 2) := by decide +kernel
theorem dX5_countOf_8 : decode cX5_countOf 8 = .ok (.invokestatic 40, 3) := by decide +kernel
theorem dX5_countOf_11 : decode cX5_countOf 11 = .ok (.iaload, 1) := by decide +kernel
theorem dX5_countOf_12 : decode cX5_countOf 12 = .ok (.istore_n 3, 1) := by decide +kernel
theorem dX5_countOf_13 : decode cX5_countOf 13 = .ok (.iconst 0, 1) := by decide +kernel
theorem dX5_countOf_14 : decode cX5_countOf 14 = .ok (.istore 4, 2) := by decide +kernel
theorem dX5_countOf_16 : decode cX5_countOf 16 = .ok (.iload 4, 2) := by decide +kernel
theorem dX5_countOf_18 : decode cX5_countOf 18 = .ok (.bipush 7, 2) := by decide +kernel
theorem dX5_countOf_20 : decode cX5_countOf 20 = .ok (.if_icmp .ge 27, 3) := by decide +kernel
theorem dX5_countOf_23 : decode cX5_countOf 23 = .ok (.iload_n 3, 1) := by decide +kernel
theorem dX5_countOf_24 : decode cX5_countOf 24 = .ok (.aload_n 0, 1) := by decide +kernel
theorem dX5_countOf_25 : decode cX5_countOf 25 = .ok (.getfield 7, 3) := by decide +kernel
theorem dX5_countOf_28 : decode cX5_countOf 28 = .ok (.iload_n 1, 1) := by decide +kernel
theorem dX5_countOf_29 : decode cX5_countOf 29 = .ok (.iload_n 2, 1) := by decide +kernel
theorem dX5_countOf_30 : decode cX5_countOf 30 = .ok (.bipush 11, 2) := by decide +kernel
theorem dX5_countOf_32 : decode cX5_countOf 32 = .ok (.iload 4, 2) := by decide +kernel
theorem dX5_countOf_34 : decode cX5_countOf 34 = .ok (.iadd, 1) := by decide +kernel
theorem dX5_countOf_35 : decode cX5_countOf 35 = .ok (.invokestatic 40, 3) := by decide +kernel
theorem dX5_countOf_38 : decode cX5_countOf 38 = .ok (.iaload, 1) := by decide +kernel
theorem dX5_countOf_39 : decode cX5_countOf 39 = .ok (.iadd, 1) := by decide +kernel
theorem dX5_countOf_40 : decode cX5_countOf 40 = .ok (.istore_n 3, 1) := by decide +kernel
theorem dX5_countOf_41 : decode cX5_countOf 41 = .ok (.iinc 4 1, 3) := by decide +kernel
theorem dX5_countOf_44 : decode cX5_countOf 44 = .ok (.goto (-28), 3) := by decide +kernel
theorem dX5_countOf_47 : decode cX5_countOf 47 = .ok (.iload_n 3, 1) := by decide +kernel
theorem dX5_countOf_48 : decode cX5_countOf 48 = .ok (.ireturn, 1) := by decide +kernel
theorem dX5_allCounts_0 : decode cX5_allCounts 0 = .ok (.iconst 0, 1) := by decide +kernel
theorem dX5_allCounts_1 : decode cX5_allCounts 1 = .ok (.istore_n 2, 1) := by decide +kernel
theorem dX5_allCounts_2 : decode cX5_allCounts 2 = .ok (.iconst 0, 1) := by decide +kernel
theorem dX5_allCounts_3 : decode cX5_allCounts 3 = .ok (.istore_n 3, 1) := by decide +kernel
theorem dX5_allCounts_4 : decode cX5_allCounts 4 = .ok (.iload_n 3, 1) := by decide +kernel
theorem dX5_allCounts_5 : decode cX5_allCounts 5 = .ok (.aload_n 0, 1) := by decide +kernel
theorem dX5_allCounts_6 : decode cX5_allCounts 6 = .ok (.iload_n 1, 1) := by decide +kernel
theorem dX5_allCounts_7 : decode cX5_allCounts 7 = .ok (.bipush 7, 2) := by decide +kernel
theorem dX5_allCounts_9 : decode cX5_allCounts 9 = .ok (.invokevirtual 52, 3) := by decide +kernel
theorem dX5_allCounts_12 : decode cX5_allCounts 12 = .ok (.if_icmp .ge 18, 3) := by decide +kernel
theorem dX5_allCounts_15 : decode cX5_allCounts 15 = .ok (.iload_n 2, 1) := by decide +kernel
theorem dX5_allCounts_16 : decode cX5_allCounts 16 = .ok (.aload_n 0, 1) := by decide +kernel
theorem dX5_allCounts_17 : decode cX5_allCounts 17 = .ok (.iload_n 1, 1) := by decide +kernel
theorem dX5_allCounts_18 : decode cX5_allCounts 18 = .ok (.iload_n 3, 1) := by decide +kernel
theorem dX5_allCounts_19 : decode cX5_allCounts 19 = .ok (.invokevirtual 56, 3) := by decide +kernel
theorem dX5_allCounts_22 : decode cX5_allCounts 22 = .ok (.iadd, 1) := by decide +kernel
theorem dX5_allCounts_23 : decode cX5_allCounts 23 = .ok (.istore_n 2, 1) := by decide +kernel
theorem dX5_allCounts_24 : decode cX5_allCounts 24 = .ok (.iinc 3 1, 3) := by decide +kernel
theorem dX5_allCounts_27 : decode cX5_allCounts 27 = .ok (.goto (-23), 3) := by decide +kernel
theorem dX5_allCounts_30 : decode cX5_allCounts 30 = .ok (.iload_n 2, 1) := by decide +kernel
theorem dX5_allCounts_31 : decode cX5_allCounts 31 = .ok (.ireturn, 1) := by decide +kernel
theorem dX5_pastOf_0 : decode cX5_pastOf 0 = .ok (.aload_n 0, 1) := by decide +kernel
theorem dX5_pastOf_1 : decode cX5_pastOf 1 = .ok (.iload_n 1, 1) := by decide +kernel
theorem dX5_pastOf_2 : decode cX5_pastOf 2 = .ok (.bipush 6, 2) := by decide +kernel
theorem dX5_pastOf_4 : decode cX5_pastOf 4 = .ok (.invokevirtual 52, 3) := by decide +kernel
theorem dX5_pastOf_7 : decode cX5_pastOf 7 = .ok (.bipush 18, 2) := by decide +kernel
theorem dX5_pastOf_9 : decode cX5_pastOf 9 = .ok (.if_icmp .ge 13, 3) := by decide +kernel
theorem dX5_pastOf_12 : decode cX5_pastOf 12 = .ok (.aload_n 0, 1) := by decide +kernel
theorem dX5_pastOf_13 : decode cX5_pastOf 13 = .ok (.iload_n 1, 1) := by decide +kernel
theorem dX5_pastOf_14 : decode cX5_pastOf 14 = .ok (.bipush 6, 2) := by decide +kernel
theorem dX5_pastOf_16 : decode cX5_pastOf 16 = .ok (.invokevirtual 52, 3) := by decide +kernel
theorem dX5_pastOf_19 : decode cX5_pastOf 19 = .ok (.goto 5, 3) := by decide +kernel
theorem dX5_pastOf_22 : decode cX5_pastOf 22 = .ok (.bipush 18, 2) := by decide +kernel
theorem dX5_pastOf_24 : decode cX5_pastOf 24 = .ok (.ireturn, 1) := by decide +kernel
theorem dX5_forecastOf_0 : decode cX5_forecastOf 0 = .ok (.iconst 0, 1) := by decide +kernel
theorem dX5_forecastOf_1 : decode cX5_forecastOf 1 = .ok (.istore 5, 2) := by decide +kernel
theorem dX5_forecastOf_3 : decode cX5_forecastOf 3 = .ok (.iconst 0, 1) := by decide +kernel
theorem dX5_forecastOf_4 : decode cX5_forecastOf 4 = .ok (.istore 6, 2) := by decide +kernel
theorem dX5_forecastOf_6 : decode cX5_forecastOf 6 = .ok (.iconst 1, 1) := by decide +kernel
theorem dX5_forecastOf_7 : decode cX5_forecastOf 7 = .ok (.istore 7, 2) := by decide +kernel
theorem dX5_forecastOf_9 : decode cX5_forecastOf 9 = .ok (.iload 7, 2) := by decide +kernel
theorem dX5_forecastOf_11 : decode cX5_forecastOf 11 = .ok (.iconst 3, 1) := by decide +kernel
theorem dX5_forecastOf_12 : decode cX5_forecastOf 12 = .ok (.if_icmp .gt 84, 3) := by decide +kernel
theorem dX5_forecastOf_15 : decode cX5_forecastOf 15 = .ok (.iload 7, 2) := by decide +kernel
theorem dX5_forecastOf_17 : decode cX5_forecastOf 17 = .ok (.aload_n 0, 1) := by decide +kernel
theorem dX5_forecastOf_18 : decode cX5_forecastOf 18 = .ok (.iload_n 1, 1) := by decide +kernel
theorem dX5_forecastOf_19 : decode cX5_forecastOf 19 = .ok (.iconst 4, 1) := by decide +kernel
theorem dX5_forecastOf_20 : decode cX5_forecastOf 20 = .ok (.invokevirtual 52, 3) := by decide +kernel
theorem dX5_forecastOf_23 : decode cX5_forecastOf 23 = .ok (.imul, 1) := by decide +kernel
theorem dX5_forecastOf_24 : decode cX5_forecastOf 24 = .ok (.iload 4, 2) := by decide +kernel
theorem dX5_forecastOf_26 : decode cX5_forecastOf 26 = .ok (.isub, 1) := by decide +kernel
theorem dX5_forecastOf_27 : decode cX5_forecastOf 27 = .ok (.iconst 1, 1) := by decide +kernel
theorem dX5_forecastOf_28 : decode cX5_forecastOf 28 = .ok (.isub, 1) := by decide +kernel
theorem dX5_forecastOf_29 : decode cX5_forecastOf 29 = .ok (.istore 8, 2) := by decide +kernel
theorem dX5_forecastOf_31 : decode cX5_forecastOf 31 = .ok (.iload 8, 2) := by decide +kernel
theorem dX5_forecastOf_33 : decode cX5_forecastOf 33 = .ok (.i2l, 1) := by decide +kernel
theorem dX5_forecastOf_34 : decode cX5_forecastOf 34 = .ok (.lconst 0, 1) := by decide +kernel
theorem dX5_forecastOf_35 : decode cX5_forecastOf 35 = .ok (.aload_n 0, 1) := by decide +kernel
theorem dX5_forecastOf_36 : decode cX5_forecastOf 36 = .ok (.iload_n 1, 1) := by decide +kernel
theorem dX5_forecastOf_37 : decode cX5_forecastOf 37 = .ok (.invokevirtual 59, 3) := by decide +kernel
theorem dX5_forecastOf_40 : decode cX5_forecastOf 40 = .ok (.iconst 1, 1) := by decide +kernel
theorem dX5_forecastOf_41 : decode cX5_forecastOf 41 = .ok (.isub, 1) := by decide +kernel
theorem dX5_forecastOf_42 : decode cX5_forecastOf 42 = .ok (.i2l, 1) := by decide +kernel
theorem dX5_forecastOf_43 : decode cX5_forecastOf 43 = .ok (.invokestatic 44, 3) := by decide +kernel
theorem dX5_forecastOf_46 : decode cX5_forecastOf 46 = .ok (.ifCond .eq 44, 3) := by decide +kernel
theorem dX5_forecastOf_49 : decode cX5_forecastOf 49 = .ok (.aload_n 0, 1) := by decide +kernel
theorem dX5_forecastOf_50 : decode cX5_forecastOf 50 = .ok (.getfield 7, 3) := by decide +kernel
theorem dX5_forecastOf_53 : decode cX5_forecastOf 53 = .ok (.iload_n 1, 1) := by decide +kernel
theorem dX5_forecastOf_54 : decode cX5_forecastOf 54 = .ok (.iload_n 2, 1) := by decide +kernel
theorem dX5_forecastOf_55 : decode cX5_forecastOf 55 = .ok (.iload_n 3, 1) := by decide +kernel
theorem dX5_forecastOf_56 : decode cX5_forecastOf 56 = .ok (.iconst 3, 1) := by decide +kernel
theorem dX5_forecastOf_57 : decode cX5_forecastOf 57 = .ok (.iload 8, 2) := by decide +kernel
theorem dX5_forecastOf_59 : decode cX5_forecastOf 59 = .ok (.iadd, 1) := by decide +kernel
theorem dX5_forecastOf_60 : decode cX5_forecastOf 60 = .ok (.invokestatic 63, 3) := by decide +kernel
theorem dX5_forecastOf_63 : decode cX5_forecastOf 63 = .ok (.iaload, 1) := by decide +kernel
theorem dX5_forecastOf_64 : decode cX5_forecastOf 64 = .ok (.ifCond .lt 26, 3) := by decide +kernel
theorem dX5_forecastOf_67 : decode cX5_forecastOf 67 = .ok (.iload 5, 2) := by decide +kernel
theorem dX5_forecastOf_69 : decode cX5_forecastOf 69 = .ok (.aload_n 0, 1) := by decide +kernel
theorem dX5_forecastOf_70 : decode cX5_forecastOf 70 = .ok (.getfield 7, 3) := by decide +kernel
theorem dX5_forecastOf_73 : decode cX5_forecastOf 73 = .ok (.iload_n 1, 1) := by decide +kernel
theorem dX5_forecastOf_74 : decode cX5_forecastOf 74 = .ok (.iload_n 2, 1) := by decide +kernel
theorem dX5_forecastOf_75 : decode cX5_forecastOf 75 = .ok (.iload_n 3, 1) := by decide +kernel
theorem dX5_forecastOf_76 : decode cX5_forecastOf 76 = .ok (.iconst 3, 1) := by decide +kernel
theorem dX5_forecastOf_77 : decode cX5_forecastOf 77 = .ok (.iload 8, 2) := by decide +kernel
theorem dX5_forecastOf_79 : decode cX5_forecastOf 79 = .ok (.iadd, 1) := by decide +kernel
theorem dX5_forecastOf_80 : decode cX5_forecastOf 80 = .ok (.invokestatic 63, 3) := by decide +kernel
theorem dX5_forecastOf_83 : decode cX5_forecastOf 83 = .ok (.iaload, 1) := by decide +kernel
theorem dX5_forecastOf_84 : decode cX5_forecastOf 84 = .ok (.iadd, 1) := by decide +kernel
theorem dX5_forecastOf_85 : decode cX5_forecastOf 85 = .ok (.istore 5, 2) := by decide +kernel
theorem dX5_forecastOf_87 : decode cX5_forecastOf 87 = .ok (.iinc 6 1, 3) := by decide +kernel
theorem dX5_forecastOf_90 : decode cX5_forecastOf 90 = .ok (.iinc 7 1, 3) := by decide +kernel
theorem dX5_forecastOf_93 : decode cX5_forecastOf 93 = .ok (.goto (-84), 3) := by decide +kernel
theorem dX5_forecastOf_96 : decode cX5_forecastOf 96 = .ok (.iload 6, 2) := by decide +kernel
theorem dX5_forecastOf_98 : decode cX5_forecastOf 98 = .ok (.ifCond .ne 7, 3) := by decide +kernel
theorem dX5_forecastOf_101 : decode cX5_forecastOf 101 = .ok (.iconst 0, 1) := by decide +kernel
theorem dX5_forecastOf_102 : decode cX5_forecastOf 102 = .ok (.goto 10, 3) := by decide +kernel
theorem dX5_forecastOf_105 : decode cX5_forecastOf 105 = .ok (.iload 5, 2) := by decide +kernel
theorem dX5_forecastOf_107 : decode cX5_forecastOf 107 = .ok (.iload 6, 2) := by decide +kernel
theorem dX5_forecastOf_109 : decode cX5_forecastOf 109 = .ok (.invokestatic 67, 3) := by decide +kernel
theorem dX5_forecastOf_112 : decode cX5_forecastOf 112 = .ok (.ireturn, 1) := by decide +kernel
theorem dX5_wantOf_0 : decode cX5_wantOf 0 = .ok (.aload_n 0, 1) := by decide +kernel
theorem dX5_wantOf_1 : decode cX5_wantOf 1 = .ok (.iload_n 1, 1) := by decide +kernel
theorem dX5_wantOf_2 : decode cX5_wantOf 2 = .ok (.iload_n 2, 1) := by decide +kernel
theorem dX5_wantOf_3 : decode cX5_wantOf 3 = .ok (.invokevirtual 56, 3) := by decide +kernel
theorem dX5_wantOf_6 : decode cX5_wantOf 6 = .ok (.istore 5, 2) := by decide +kernel
theorem dX5_wantOf_8 : decode cX5_wantOf 8 = .ok (.aload_n 0, 1) := by decide +kernel
theorem dX5_wantOf_9 : decode cX5_wantOf 9 = .ok (.getfield 7, 3) := by decide +kernel
theorem dX5_wantOf_12 : decode cX5_wantOf 12 = .ok (.iload_n 1, 1) := by decide +kernel
theorem dX5_wantOf_13 : decode cX5_wantOf 13 = .ok (.iload_n 2, 1) := by decide +kernel
theorem dX5_wantOf_14 : decode cX5_wantOf 14 = .ok (.iload_n 3, 1) := by decide +kernel
theorem dX5_wantOf_15 : decode cX5_wantOf 15 = .ok (.iconst 1, 1) := by decide +kernel
theorem dX5_wantOf_16 : decode cX5_wantOf 16 = .ok (.invokestatic 63, 3) := by decide +kernel
theorem dX5_wantOf_19 : decode cX5_wantOf 19 = .ok (.iaload, 1) := by decide +kernel
theorem dX5_wantOf_20 : decode cX5_wantOf 20 = .ok (.istore 6, 2) := by decide +kernel
theorem dX5_wantOf_22 : decode cX5_wantOf 22 = .ok (.aload_n 0, 1) := by decide +kernel
theorem dX5_wantOf_23 : decode cX5_wantOf 23 = .ok (.getfield 7, 3) := by decide +kernel
theorem dX5_wantOf_26 : decode cX5_wantOf 26 = .ok (.iload_n 1, 1) := by decide +kernel
theorem dX5_wantOf_27 : decode cX5_wantOf 27 = .ok (.iload_n 2, 1) := by decide +kernel
theorem dX5_wantOf_28 : decode cX5_wantOf 28 = .ok (.bipush 10, 2) := by decide +kernel
theorem dX5_wantOf_30 : decode cX5_wantOf 30 = .ok (.invokestatic 40, 3) := by decide +kernel
theorem dX5_wantOf_33 : decode cX5_wantOf 33 = .ok (.iaload, 1) := by decide +kernel
theorem dX5_wantOf_34 : decode cX5_wantOf 34 = .ok (.istore 7, 2) := by decide +kernel
theorem dX5_wantOf_36 : decode cX5_wantOf 36 = .ok (.iload 4, 2) := by decide +kernel
theorem dX5_wantOf_38 : decode cX5_wantOf 38 = .ok (.ifCond .ge 6, 3) := by decide +kernel
theorem dX5_wantOf_41 : decode cX5_wantOf 41 = .ok (.iload 5, 2) := by decide +kernel
theorem dX5_wantOf_43 : decode cX5_wantOf 43 = .ok (.ireturn, 1) := by decide +kernel
theorem dX5_wantOf_44 : decode cX5_wantOf 44 = .ok (.aload_n 0, 1) := by decide +kernel
theorem dX5_wantOf_45 : decode cX5_wantOf 45 = .ok (.getfield 7, 3) := by decide +kernel
theorem dX5_wantOf_48 : decode cX5_wantOf 48 = .ok (.iload_n 1, 1) := by decide +kernel
theorem dX5_wantOf_49 : decode cX5_wantOf 49 = .ok (.iload_n 2, 1) := by decide +kernel
theorem dX5_wantOf_50 : decode cX5_wantOf 50 = .ok (.iload_n 3, 1) := by decide +kernel
theorem dX5_wantOf_51 : decode cX5_wantOf 51 = .ok (.iconst 0, 1) := by decide +kernel
theorem dX5_wantOf_52 : decode cX5_wantOf 52 = .ok (.invokestatic 63, 3) := by decide +kernel
theorem dX5_wantOf_55 : decode cX5_wantOf 55 = .ok (.iaload, 1) := by decide +kernel
theorem dX5_wantOf_56 : decode cX5_wantOf 56 = .ok (.tableswitch 128 1 3 #[28, 36, 71], 28) := by decide +kernel
theorem dX5_wantOf_84 : decode cX5_wantOf 84 = .ok (.iload 4, 2) := by decide +kernel
theorem dX5_wantOf_86 : decode cX5_wantOf 86 = .ok (.iload 6, 2) := by decide +kernel
theorem dX5_wantOf_88 : decode cX5_wantOf 88 = .ok (.invokestatic 67, 3) := by decide +kernel
theorem dX5_wantOf_91 : decode cX5_wantOf 91 = .ok (.ireturn, 1) := by decide +kernel
theorem dX5_wantOf_92 : decode cX5_wantOf 92 = .ok (.aload_n 0, 1) := by decide +kernel
theorem dX5_wantOf_93 : decode cX5_wantOf 93 = .ok (.iload_n 1, 1) := by decide +kernel
theorem dX5_wantOf_94 : decode cX5_wantOf 94 = .ok (.iload_n 2, 1) := by decide +kernel
theorem dX5_wantOf_95 : decode cX5_wantOf 95 = .ok (.iload_n 3, 1) := by decide +kernel
theorem dX5_wantOf_96 : decode cX5_wantOf 96 = .ok (.aload_n 0, 1) := by decide +kernel
theorem dX5_wantOf_97 : decode cX5_wantOf 97 = .ok (.iload_n 1, 1) := by decide +kernel
theorem dX5_wantOf_98 : decode cX5_wantOf 98 = .ok (.iconst 1, 1) := by decide +kernel
theorem dX5_wantOf_99 : decode cX5_wantOf 99 = .ok (.invokevirtual 52, 3) := by decide +kernel
theorem dX5_wantOf_102 : decode cX5_wantOf 102 = .ok (.invokevirtual 70, 3) := by decide +kernel
theorem dX5_wantOf_105 : decode cX5_wantOf 105 = .ok (.istore 8, 2) := by decide +kernel
theorem dX5_wantOf_107 : decode cX5_wantOf 107 = .ok (.iload 8, 2) := by decide +kernel
theorem dX5_wantOf_109 : decode cX5_wantOf 109 = .ok (.iload 4, 2) := by decide +kernel
theorem dX5_wantOf_111 : decode cX5_wantOf 111 = .ok (.if_icmp .le 8, 3) := by decide +kernel
theorem dX5_wantOf_114 : decode cX5_wantOf 114 = .ok (.iload 8, 2) := by decide +kernel
theorem dX5_wantOf_116 : decode cX5_wantOf 116 = .ok (.goto 5, 3) := by decide +kernel
theorem dX5_wantOf_119 : decode cX5_wantOf 119 = .ok (.iload 4, 2) := by decide +kernel
theorem dX5_wantOf_121 : decode cX5_wantOf 121 = .ok (.iload 6, 2) := by decide +kernel
theorem dX5_wantOf_123 : decode cX5_wantOf 123 = .ok (.invokestatic 67, 3) := by decide +kernel
theorem dX5_wantOf_126 : decode cX5_wantOf 126 = .ok (.ireturn, 1) := by decide +kernel
theorem dX5_wantOf_127 : decode cX5_wantOf 127 = .ok (.iload 4, 2) := by decide +kernel
theorem dX5_wantOf_129 : decode cX5_wantOf 129 = .ok (.iload 6, 2) := by decide +kernel
theorem dX5_wantOf_131 : decode cX5_wantOf 131 = .ok (.if_icmp .le 11, 3) := by decide +kernel
theorem dX5_wantOf_134 : decode cX5_wantOf 134 = .ok (.iload 4, 2) := by decide +kernel
theorem dX5_wantOf_136 : decode cX5_wantOf 136 = .ok (.iload 6, 2) := by decide +kernel
theorem dX5_wantOf_138 : decode cX5_wantOf 138 = .ok (.isub, 1) := by decide +kernel
theorem dX5_wantOf_139 : decode cX5_wantOf 139 = .ok (.goto 8, 3) := by decide +kernel
theorem dX5_wantOf_142 : decode cX5_wantOf 142 = .ok (.iload 6, 2) := by decide +kernel
theorem dX5_wantOf_144 : decode cX5_wantOf 144 = .ok (.iload 4, 2) := by decide +kernel
theorem dX5_wantOf_146 : decode cX5_wantOf 146 = .ok (.isub, 1) := by decide +kernel
theorem dX5_wantOf_147 : decode cX5_wantOf 147 = .ok (.istore 9, 2) := by decide +kernel
theorem dX5_wantOf_149 : decode cX5_wantOf 149 = .ok (.bipush 10, 2) := by decide +kernel
theorem dX5_wantOf_151 : decode cX5_wantOf 151 = .ok (.iload 9, 2) := by decide +kernel
theorem dX5_wantOf_153 : decode cX5_wantOf 153 = .ok (.imul, 1) := by decide +kernel
theorem dX5_wantOf_154 : decode cX5_wantOf 154 = .ok (.iload 6, 2) := by decide +kernel
theorem dX5_wantOf_156 : decode cX5_wantOf 156 = .ok (.if_icmp .gt 8, 3) := by decide +kernel
theorem dX5_wantOf_159 : decode cX5_wantOf 159 = .ok (.iload 5, 2) := by decide +kernel
theorem dX5_wantOf_161 : decode cX5_wantOf 161 = .ok (.goto 22, 3) := by decide +kernel
theorem dX5_wantOf_164 : decode cX5_wantOf 164 = .ok (.iload 7, 2) := by decide +kernel
theorem dX5_wantOf_166 : decode cX5_wantOf 166 = .ok (.ifCond .ne 7, 3) := by decide +kernel
theorem dX5_wantOf_169 : decode cX5_wantOf 169 = .ok (.iconst 1, 1) := by decide +kernel
theorem dX5_wantOf_170 : decode cX5_wantOf 170 = .ok (.goto 5, 3) := by decide +kernel
theorem dX5_wantOf_173 : decode cX5_wantOf 173 = .ok (.iload 7, 2) := by decide +kernel
theorem dX5_wantOf_175 : decode cX5_wantOf 175 = .ok (.iload 4, 2) := by decide +kernel
theorem dX5_wantOf_177 : decode cX5_wantOf 177 = .ok (.imul, 1) := by decide +kernel
theorem dX5_wantOf_178 : decode cX5_wantOf 178 = .ok (.iload 6, 2) := by decide +kernel
theorem dX5_wantOf_180 : decode cX5_wantOf 180 = .ok (.invokestatic 67, 3) := by decide +kernel
theorem dX5_wantOf_183 : decode cX5_wantOf 183 = .ok (.ireturn, 1) := by decide +kernel
theorem dX5_wantOf_184 : decode cX5_wantOf 184 = .ok (.iload 4, 2) := by decide +kernel
theorem dX5_wantOf_186 : decode cX5_wantOf 186 = .ok (.ifCond .le 16, 3) := by decide +kernel
theorem dX5_wantOf_189 : decode cX5_wantOf 189 = .ok (.iload 5, 2) := by decide +kernel
theorem dX5_wantOf_191 : decode cX5_wantOf 191 = .ok (.iload 4, 2) := by decide +kernel
theorem dX5_wantOf_193 : decode cX5_wantOf 193 = .ok (.iconst 1, 1) := by decide +kernel
theorem dX5_wantOf_194 : decode cX5_wantOf 194 = .ok (.isub, 1) := by decide +kernel
theorem dX5_wantOf_195 : decode cX5_wantOf 195 = .ok (.iload 6, 2) := by decide +kernel
theorem dX5_wantOf_197 : decode cX5_wantOf 197 = .ok (.idiv, 1) := by decide +kernel
theorem dX5_wantOf_198 : decode cX5_wantOf 198 = .ok (.iadd, 1) := by decide +kernel
theorem dX5_wantOf_199 : decode cX5_wantOf 199 = .ok (.goto 16, 3) := by decide +kernel
theorem dX5_wantOf_202 : decode cX5_wantOf 202 = .ok (.iload 5, 2) := by decide +kernel
theorem dX5_wantOf_204 : decode cX5_wantOf 204 = .ok (.ifCond .le 10, 3) := by decide +kernel
theorem dX5_wantOf_207 : decode cX5_wantOf 207 = .ok (.iload 5, 2) := by decide +kernel
theorem dX5_wantOf_209 : decode cX5_wantOf 209 = .ok (.iconst 1, 1) := by decide +kernel
theorem dX5_wantOf_210 : decode cX5_wantOf 210 = .ok (.isub, 1) := by decide +kernel
theorem dX5_wantOf_211 : decode cX5_wantOf 211 = .ok (.goto 4, 3) := by decide +kernel
theorem dX5_wantOf_214 : decode cX5_wantOf 214 = .ok (.iconst 0, 1) := by decide +kernel
theorem dX5_wantOf_215 : decode cX5_wantOf 215 = .ok (.ireturn, 1) := by decide +kernel
theorem dX5_wanted_0 : decode cX5_wanted 0 = .ok (.aload_n 0, 1) := by decide +kernel
theorem dX5_wanted_1 : decode cX5_wanted 1 = .ok (.getfield 7, 3) := by decide +kernel
theorem dX5_wanted_4 : decode cX5_wanted 4 = .ok (.iload_n 1, 1) := by decide +kernel
theorem dX5_wanted_5 : decode cX5_wanted 5 = .ok (.iload_n 2, 1) := by decide +kernel
theorem dX5_wanted_6 : decode cX5_wanted 6 = .ok (.bipush 9, 2) := by decide +kernel
theorem dX5_wanted_8 : decode cX5_wanted 8 = .ok (.invokestatic 40, 3) := by decide +kernel
theorem dX5_wanted_11 : decode cX5_wanted 11 = .ok (.iaload, 1) := by decide +kernel
theorem dX5_wanted_12 : decode cX5_wanted 12 = .ok (.ifCond .ne 17, 3) := by decide +kernel
theorem dX5_wanted_15 : decode cX5_wanted 15 = .ok (.aload_n 0, 1) := by decide +kernel
theorem dX5_wanted_16 : decode cX5_wanted 16 = .ok (.getfield 7, 3) := by decide +kernel
theorem dX5_wanted_19 : decode cX5_wanted 19 = .ok (.iload_n 1, 1) := by decide +kernel
theorem dX5_wanted_20 : decode cX5_wanted 20 = .ok (.iload_n 2, 1) := by decide +kernel
theorem dX5_wanted_21 : decode cX5_wanted 21 = .ok (.iconst 0, 1) := by decide +kernel
theorem dX5_wanted_22 : decode cX5_wanted 22 = .ok (.invokestatic 40, 3) := by decide +kernel
theorem dX5_wanted_25 : decode cX5_wanted 25 = .ok (.iaload, 1) := by decide +kernel
theorem dX5_wanted_26 : decode cX5_wanted 26 = .ok (.goto 4, 3) := by decide +kernel
theorem dX5_wanted_29 : decode cX5_wanted 29 = .ok (.iconst 0, 1) := by decide +kernel
theorem dX5_wanted_30 : decode cX5_wanted 30 = .ok (.istore_n 3, 1) := by decide +kernel
theorem dX5_wanted_31 : decode cX5_wanted 31 = .ok (.iconst 0, 1) := by decide +kernel
theorem dX5_wanted_32 : decode cX5_wanted 32 = .ok (.istore 4, 2) := by decide +kernel
theorem dX5_wanted_34 : decode cX5_wanted 34 = .ok (.iload 4, 2) := by decide +kernel
theorem dX5_wanted_36 : decode cX5_wanted 36 = .ok (.aload_n 0, 1) := by decide +kernel
theorem dX5_wanted_37 : decode cX5_wanted 37 = .ok (.getfield 7, 3) := by decide +kernel
theorem dX5_wanted_40 : decode cX5_wanted 40 = .ok (.iload_n 1, 1) := by decide +kernel
theorem dX5_wanted_41 : decode cX5_wanted 41 = .ok (.iload_n 2, 1) := by decide +kernel
theorem dX5_wanted_42 : decode cX5_wanted 42 = .ok (.bipush 9, 2) := by decide +kernel
theorem dX5_wanted_44 : decode cX5_wanted 44 = .ok (.invokestatic 40, 3) := by decide +kernel
theorem dX5_wanted_47 : decode cX5_wanted 47 = .ok (.iaload, 1) := by decide +kernel
theorem dX5_wanted_48 : decode cX5_wanted 48 = .ok (.if_icmp .ge 45, 3) := by decide +kernel
theorem dX5_wanted_51 : decode cX5_wanted 51 = .ok (.aload_n 0, 1) := by decide +kernel
theorem dX5_wanted_52 : decode cX5_wanted 52 = .ok (.iload_n 1, 1) := by decide +kernel
theorem dX5_wanted_53 : decode cX5_wanted 53 = .ok (.iload_n 2, 1) := by decide +kernel
theorem dX5_wanted_54 : decode cX5_wanted 54 = .ok (.iload 4, 2) := by decide +kernel
theorem dX5_wanted_56 : decode cX5_wanted 56 = .ok (.aload_n 0, 1) := by decide +kernel
theorem dX5_wanted_57 : decode cX5_wanted 57 = .ok (.getfield 7, 3) := by decide +kernel
theorem dX5_wanted_60 : decode cX5_wanted 60 = .ok (.iload_n 1, 1) := by decide +kernel
theorem dX5_wanted_61 : decode cX5_wanted 61 = .ok (.iload_n 2, 1) := by decide +kernel
theorem dX5_wanted_62 : decode cX5_wanted 62 = .ok (.iload 4, 2) := by decide +kernel
theorem dX5_wanted_64 : decode cX5_wanted 64 = .ok (.iconst 2, 1) := by decide +kernel
theorem dX5_wanted_65 : decode cX5_wanted 65 = .ok (.invokestatic 63, 3) := by decide +kernel
theorem dX5_wanted_68 : decode cX5_wanted 68 = .ok (.iaload, 1) := by decide +kernel
theorem dX5_wanted_69 : decode cX5_wanted 69 = .ok (.invokevirtual 73, 3) := by decide +kernel
theorem dX5_wanted_72 : decode cX5_wanted 72 = .ok (.istore 5, 2) := by decide +kernel
theorem dX5_wanted_74 : decode cX5_wanted 74 = .ok (.iload 5, 2) := by decide +kernel
theorem dX5_wanted_76 : decode cX5_wanted 76 = .ok (.iload_n 3, 1) := by decide +kernel
theorem dX5_wanted_77 : decode cX5_wanted 77 = .ok (.if_icmp .le 8, 3) := by decide +kernel
theorem dX5_wanted_80 : decode cX5_wanted 80 = .ok (.iload 5, 2) := by decide +kernel
theorem dX5_wanted_82 : decode cX5_wanted 82 = .ok (.goto 4, 3) := by decide +kernel
theorem dX5_wanted_85 : decode cX5_wanted 85 = .ok (.iload_n 3, 1) := by decide +kernel
theorem dX5_wanted_86 : decode cX5_wanted 86 = .ok (.istore_n 3, 1) := by decide +kernel
theorem dX5_wanted_87 : decode cX5_wanted 87 = .ok (.iinc 4 1, 3) := by decide +kernel
theorem dX5_wanted_90 : decode cX5_wanted 90 = .ok (.goto (-56), 3) := by decide +kernel
theorem dX5_wanted_93 : decode cX5_wanted 93 = .ok (.iload_n 3, 1) := by decide +kernel
theorem dX5_wanted_94 : decode cX5_wanted 94 = .ok (.ireturn, 1) := by decide +kernel
theorem dX5_starts_0 : decode cX5_starts 0 = .ok (.iconst 0, 1) := by decide +kernel
theorem dX5_starts_1 : decode cX5_starts 1 = .ok (.istore_n 2, 1) := by decide +kernel
theorem dX5_starts_2 : decode cX5_starts 2 = .ok (.iload_n 2, 1) := by decide +kernel
theorem dX5_starts_3 : decode cX5_starts 3 = .ok (.aload_n 0, 1) := by decide +kernel
theorem dX5_starts_4 : decode cX5_starts 4 = .ok (.iload_n 1, 1) := by decide +kernel
theorem dX5_starts_5 : decode cX5_starts 5 = .ok (.bipush 7, 2) := by decide +kernel
theorem dX5_starts_7 : decode cX5_starts 7 = .ok (.invokevirtual 52, 3) := by decide +kernel
theorem dX5_starts_10 : decode cX5_starts 10 = .ok (.if_icmp .ge 49, 3) := by decide +kernel
theorem dX5_starts_13 : decode cX5_starts 13 = .ok (.aload_n 0, 1) := by decide +kernel
theorem dX5_starts_14 : decode cX5_starts 14 = .ok (.getfield 7, 3) := by decide +kernel
theorem dX5_starts_17 : decode cX5_starts 17 = .ok (.iload_n 1, 1) := by decide +kernel
theorem dX5_starts_18 : decode cX5_starts 18 = .ok (.iload_n 2, 1) := by decide +kernel
theorem dX5_starts_19 : decode cX5_starts 19 = .ok (.bipush 10, 2) := by decide +kernel
theorem dX5_starts_21 : decode cX5_starts 21 = .ok (.invokestatic 40, 3) := by decide +kernel
theorem dX5_starts_24 : decode cX5_starts 24 = .ok (.dup2, 1) := by decide +kernel
theorem dX5_starts_25 : decode cX5_starts 25 = .ok (.iaload, 1) := by decide +kernel
theorem dX5_starts_26 : decode cX5_starts 26 = .ok (.aload_n 0, 1) := by decide +kernel
theorem dX5_starts_27 : decode cX5_starts 27 = .ok (.getfield 7, 3) := by decide +kernel
theorem dX5_starts_30 : decode cX5_starts 30 = .ok (.iload_n 1, 1) := by decide +kernel
theorem dX5_starts_31 : decode cX5_starts 31 = .ok (.iload_n 2, 1) := by decide +kernel
theorem dX5_starts_32 : decode cX5_starts 32 = .ok (.bipush 11, 2) := by decide +kernel
theorem dX5_starts_34 : decode cX5_starts 34 = .ok (.invokestatic 40, 3) := by decide +kernel
theorem dX5_starts_37 : decode cX5_starts 37 = .ok (.iaload, 1) := by decide +kernel
theorem dX5_starts_38 : decode cX5_starts 38 = .ok (.iadd, 1) := by decide +kernel
theorem dX5_starts_39 : decode cX5_starts 39 = .ok (.iastore, 1) := by decide +kernel
theorem dX5_starts_40 : decode cX5_starts 40 = .ok (.aload_n 0, 1) := by decide +kernel
theorem dX5_starts_41 : decode cX5_starts 41 = .ok (.getfield 7, 3) := by decide +kernel
theorem dX5_starts_44 : decode cX5_starts 44 = .ok (.iload_n 1, 1) := by decide +kernel
theorem dX5_starts_45 : decode cX5_starts 45 = .ok (.iload_n 2, 1) := by decide +kernel
theorem dX5_starts_46 : decode cX5_starts 46 = .ok (.bipush 11, 2) := by decide +kernel
theorem dX5_starts_48 : decode cX5_starts 48 = .ok (.invokestatic 40, 3) := by decide +kernel
theorem dX5_starts_51 : decode cX5_starts 51 = .ok (.iconst 0, 1) := by decide +kernel
theorem dX5_starts_52 : decode cX5_starts 52 = .ok (.iastore, 1) := by decide +kernel
theorem dX5_starts_53 : decode cX5_starts 53 = .ok (.iinc 2 1, 3) := by decide +kernel
theorem dX5_starts_56 : decode cX5_starts 56 = .ok (.goto (-54), 3) := by decide +kernel
theorem dX5_starts_59 : decode cX5_starts 59 = .ok (.return_, 1) := by decide +kernel
theorem dX5_ofWants_0 : decode cX5_ofWants 0 = .ok (.aload_n 0, 1) := by decide +kernel
theorem dX5_ofWants_1 : decode cX5_ofWants 1 = .ok (.getfield 13, 3) := by decide +kernel
theorem dX5_ofWants_4 : decode cX5_ofWants 4 = .ok (.iload_n 2, 1) := by decide +kernel
theorem dX5_ofWants_5 : decode cX5_ofWants 5 = .ok (.iaload, 1) := by decide +kernel
theorem dX5_ofWants_6 : decode cX5_ofWants 6 = .ok (.istore 5, 2) := by decide +kernel
theorem dX5_ofWants_8 : decode cX5_ofWants 8 = .ok (.iconst 0, 1) := by decide +kernel
theorem dX5_ofWants_9 : decode cX5_ofWants 9 = .ok (.istore 6, 2) := by decide +kernel
theorem dX5_ofWants_11 : decode cX5_ofWants 11 = .ok (.iload 6, 2) := by decide +kernel
theorem dX5_ofWants_13 : decode cX5_ofWants 13 = .ok (.iload_n 3, 1) := by decide +kernel
theorem dX5_ofWants_14 : decode cX5_ofWants 14 = .ok (.iconst 1, 1) := by decide +kernel
theorem dX5_ofWants_15 : decode cX5_ofWants 15 = .ok (.isub, 1) := by decide +kernel
theorem dX5_ofWants_16 : decode cX5_ofWants 16 = .ok (.if_icmp .ge 81, 3) := by decide +kernel
theorem dX5_ofWants_19 : decode cX5_ofWants 19 = .ok (.iload 6, 2) := by decide +kernel
theorem dX5_ofWants_21 : decode cX5_ofWants 21 = .ok (.aload_n 0, 1) := by decide +kernel
theorem dX5_ofWants_22 : decode cX5_ofWants 22 = .ok (.getfield 7, 3) := by decide +kernel
theorem dX5_ofWants_25 : decode cX5_ofWants 25 = .ok (.iload_n 1, 1) := by decide +kernel
theorem dX5_ofWants_26 : decode cX5_ofWants 26 = .ok (.iload_n 2, 1) := by decide +kernel
theorem dX5_ofWants_27 : decode cX5_ofWants 27 = .ok (.bipush 24, 2) := by decide +kernel
theorem dX5_ofWants_29 : decode cX5_ofWants 29 = .ok (.invokestatic 40, 3) := by decide +kernel
theorem dX5_ofWants_32 : decode cX5_ofWants 32 = .ok (.iaload, 1) := by decide +kernel
theorem dX5_ofWants_33 : decode cX5_ofWants 33 = .ok (.if_icmp .ge 64, 3) := by decide +kernel
theorem dX5_ofWants_36 : decode cX5_ofWants 36 = .ok (.aload_n 0, 1) := by decide +kernel
theorem dX5_ofWants_37 : decode cX5_ofWants 37 = .ok (.getfield 7, 3) := by decide +kernel
theorem dX5_ofWants_40 : decode cX5_ofWants 40 = .ok (.iload_n 1, 1) := by decide +kernel
theorem dX5_ofWants_41 : decode cX5_ofWants 41 = .ok (.iload_n 2, 1) := by decide +kernel
theorem dX5_ofWants_42 : decode cX5_ofWants 42 = .ok (.bipush 18, 2) := by decide +kernel
theorem dX5_ofWants_44 : decode cX5_ofWants 44 = .ok (.iload 6, 2) := by decide +kernel
theorem dX5_ofWants_46 : decode cX5_ofWants 46 = .ok (.iadd, 1) := by decide +kernel
theorem dX5_ofWants_47 : decode cX5_ofWants 47 = .ok (.invokestatic 40, 3) := by decide +kernel
theorem dX5_ofWants_50 : decode cX5_ofWants 50 = .ok (.iaload, 1) := by decide +kernel
theorem dX5_ofWants_51 : decode cX5_ofWants 51 = .ok (.istore 7, 2) := by decide +kernel
theorem dX5_ofWants_53 : decode cX5_ofWants 53 = .ok (.iload 4, 2) := by decide +kernel
theorem dX5_ofWants_55 : decode cX5_ofWants 55 = .ok (.ifCond .eq 20, 3) := by decide +kernel
theorem dX5_ofWants_58 : decode cX5_ofWants 58 = .ok (.iload 7, 2) := by decide +kernel
theorem dX5_ofWants_60 : decode cX5_ofWants 60 = .ok (.iload 5, 2) := by decide +kernel
theorem dX5_ofWants_62 : decode cX5_ofWants 62 = .ok (.if_icmp .ge 8, 3) := by decide +kernel
theorem dX5_ofWants_65 : decode cX5_ofWants 65 = .ok (.iload 7, 2) := by decide +kernel
theorem dX5_ofWants_67 : decode cX5_ofWants 67 = .ok (.goto 22, 3) := by decide +kernel
theorem dX5_ofWants_70 : decode cX5_ofWants 70 = .ok (.iload 5, 2) := by decide +kernel
theorem dX5_ofWants_72 : decode cX5_ofWants 72 = .ok (.goto 17, 3) := by decide +kernel
theorem dX5_ofWants_75 : decode cX5_ofWants 75 = .ok (.iload 7, 2) := by decide +kernel
theorem dX5_ofWants_77 : decode cX5_ofWants 77 = .ok (.iload 5, 2) := by decide +kernel
theorem dX5_ofWants_79 : decode cX5_ofWants 79 = .ok (.if_icmp .le 8, 3) := by decide +kernel
theorem dX5_ofWants_82 : decode cX5_ofWants 82 = .ok (.iload 7, 2) := by decide +kernel
theorem dX5_ofWants_84 : decode cX5_ofWants 84 = .ok (.goto 5, 3) := by decide +kernel
theorem dX5_ofWants_87 : decode cX5_ofWants 87 = .ok (.iload 5, 2) := by decide +kernel
theorem dX5_ofWants_89 : decode cX5_ofWants 89 = .ok (.istore 5, 2) := by decide +kernel
theorem dX5_ofWants_91 : decode cX5_ofWants 91 = .ok (.iinc 6 1, 3) := by decide +kernel
theorem dX5_ofWants_94 : decode cX5_ofWants 94 = .ok (.goto (-83), 3) := by decide +kernel
theorem dX5_ofWants_97 : decode cX5_ofWants 97 = .ok (.iload 5, 2) := by decide +kernel
theorem dX5_ofWants_99 : decode cX5_ofWants 99 = .ok (.ireturn, 1) := by decide +kernel
theorem dX5_sumOf_0 : decode cX5_sumOf 0 = .ok (.iconst 0, 1) := by decide +kernel
theorem dX5_sumOf_1 : decode cX5_sumOf 1 = .ok (.istore 5, 2) := by decide +kernel
theorem dX5_sumOf_3 : decode cX5_sumOf 3 = .ok (.iconst 0, 1) := by decide +kernel
theorem dX5_sumOf_4 : decode cX5_sumOf 4 = .ok (.istore 6, 2) := by decide +kernel
theorem dX5_sumOf_6 : decode cX5_sumOf 6 = .ok (.iload 6, 2) := by decide +kernel
theorem dX5_sumOf_8 : decode cX5_sumOf 8 = .ok (.iload 4, 2) := by decide +kernel
theorem dX5_sumOf_10 : decode cX5_sumOf 10 = .ok (.if_icmp .ge 28, 3) := by decide +kernel
theorem dX5_sumOf_13 : decode cX5_sumOf 13 = .ok (.iload 5, 2) := by decide +kernel
theorem dX5_sumOf_15 : decode cX5_sumOf 15 = .ok (.aload_n 0, 1) := by decide +kernel
theorem dX5_sumOf_16 : decode cX5_sumOf 16 = .ok (.getfield 7, 3) := by decide +kernel
theorem dX5_sumOf_19 : decode cX5_sumOf 19 = .ok (.iload_n 1, 1) := by decide +kernel
theorem dX5_sumOf_20 : decode cX5_sumOf 20 = .ok (.iload_n 2, 1) := by decide +kernel
theorem dX5_sumOf_21 : decode cX5_sumOf 21 = .ok (.iload_n 3, 1) := by decide +kernel
theorem dX5_sumOf_22 : decode cX5_sumOf 22 = .ok (.iload 6, 2) := by decide +kernel
theorem dX5_sumOf_24 : decode cX5_sumOf 24 = .ok (.iadd, 1) := by decide +kernel
theorem dX5_sumOf_25 : decode cX5_sumOf 25 = .ok (.invokestatic 40, 3) := by decide +kernel
theorem dX5_sumOf_28 : decode cX5_sumOf 28 = .ok (.iaload, 1) := by decide +kernel
theorem dX5_sumOf_29 : decode cX5_sumOf 29 = .ok (.iadd, 1) := by decide +kernel
theorem dX5_sumOf_30 : decode cX5_sumOf 30 = .ok (.istore 5, 2) := by decide +kernel
theorem dX5_sumOf_32 : decode cX5_sumOf 32 = .ok (.iinc 6 1, 3) := by decide +kernel
theorem dX5_sumOf_35 : decode cX5_sumOf 35 = .ok (.goto (-29), 3) := by decide +kernel
theorem dX5_sumOf_38 : decode cX5_sumOf 38 = .ok (.iload 5, 2) := by decide +kernel
theorem dX5_sumOf_40 : decode cX5_sumOf 40 = .ok (.ireturn, 1) := by decide +kernel
theorem dX5_weighs_0 : decode cX5_weighs 0 = .ok (.aload_n 0, 1) := by decide +kernel
theorem dX5_weighs_1 : decode cX5_weighs 1 = .ok (.iload_n 1, 1) := by decide +kernel
theorem dX5_weighs_2 : decode cX5_weighs 2 = .ok (.iload_n 2, 1) := by decide +kernel
theorem dX5_weighs_3 : decode cX5_weighs 3 = .ok (.invokevirtual 56, 3) := by decide +kernel
theorem dX5_weighs_6 : decode cX5_weighs 6 = .ok (.istore_n 3, 1) := by decide +kernel
theorem dX5_weighs_7 : decode cX5_weighs 7 = .ok (.aload_n 0, 1) := by decide +kernel
theorem dX5_weighs_8 : decode cX5_weighs 8 = .ok (.getfield 13, 3) := by decide +kernel
theorem dX5_weighs_11 : decode cX5_weighs 11 = .ok (.iload_n 2, 1) := by decide +kernel
theorem dX5_weighs_12 : decode cX5_weighs 12 = .ok (.aload_n 0, 1) := by decide +kernel
theorem dX5_weighs_13 : decode cX5_weighs 13 = .ok (.iload_n 1, 1) := by decide +kernel
theorem dX5_weighs_14 : decode cX5_weighs 14 = .ok (.iload_n 2, 1) := by decide +kernel
theorem dX5_weighs_15 : decode cX5_weighs 15 = .ok (.invokevirtual 76, 3) := by decide +kernel
theorem dX5_weighs_18 : decode cX5_weighs 18 = .ok (.iastore, 1) := by decide +kernel
theorem dX5_weighs_19 : decode cX5_weighs 19 = .ok (.aload_n 0, 1) := by decide +kernel
theorem dX5_weighs_20 : decode cX5_weighs 20 = .ok (.iload_n 1, 1) := by decide +kernel
theorem dX5_weighs_21 : decode cX5_weighs 21 = .ok (.iload_n 2, 1) := by decide +kernel
theorem dX5_weighs_22 : decode cX5_weighs 22 = .ok (.aload_n 0, 1) := by decide +kernel
theorem dX5_weighs_23 : decode cX5_weighs 23 = .ok (.getfield 7, 3) := by decide +kernel
theorem dX5_weighs_26 : decode cX5_weighs 26 = .ok (.iload_n 1, 1) := by decide +kernel
theorem dX5_weighs_27 : decode cX5_weighs 27 = .ok (.iload_n 2, 1) := by decide +kernel
theorem dX5_weighs_28 : decode cX5_weighs 28 = .ok (.iconst 3, 1) := by decide +kernel
theorem dX5_weighs_29 : decode cX5_weighs 29 = .ok (.invokestatic 40, 3) := by decide +kernel
theorem dX5_weighs_32 : decode cX5_weighs 32 = .ok (.iaload, 1) := by decide +kernel
theorem dX5_weighs_33 : decode cX5_weighs 33 = .ok (.iconst 1, 1) := by decide +kernel
theorem dX5_weighs_34 : decode cX5_weighs 34 = .ok (.invokevirtual 79, 3) := by decide +kernel
theorem dX5_weighs_37 : decode cX5_weighs 37 = .ok (.istore 4, 2) := by decide +kernel
theorem dX5_weighs_39 : decode cX5_weighs 39 = .ok (.aload_n 0, 1) := by decide +kernel
theorem dX5_weighs_40 : decode cX5_weighs 40 = .ok (.iload_n 1, 1) := by decide +kernel
theorem dX5_weighs_41 : decode cX5_weighs 41 = .ok (.iload_n 2, 1) := by decide +kernel
theorem dX5_weighs_42 : decode cX5_weighs 42 = .ok (.aload_n 0, 1) := by decide +kernel
theorem dX5_weighs_43 : decode cX5_weighs 43 = .ok (.getfield 7, 3) := by decide +kernel
theorem dX5_weighs_46 : decode cX5_weighs 46 = .ok (.iload_n 1, 1) := by decide +kernel
theorem dX5_weighs_47 : decode cX5_weighs 47 = .ok (.iload_n 2, 1) := by decide +kernel
theorem dX5_weighs_48 : decode cX5_weighs 48 = .ok (.iconst 4, 1) := by decide +kernel
theorem dX5_weighs_49 : decode cX5_weighs 49 = .ok (.invokestatic 40, 3) := by decide +kernel
theorem dX5_weighs_52 : decode cX5_weighs 52 = .ok (.iaload, 1) := by decide +kernel
theorem dX5_weighs_53 : decode cX5_weighs 53 = .ok (.iconst 0, 1) := by decide +kernel
theorem dX5_weighs_54 : decode cX5_weighs 54 = .ok (.invokevirtual 79, 3) := by decide +kernel
theorem dX5_weighs_57 : decode cX5_weighs 57 = .ok (.istore 5, 2) := by decide +kernel
theorem dX5_weighs_59 : decode cX5_weighs 59 = .ok (.aload_n 0, 1) := by decide +kernel
theorem dX5_weighs_60 : decode cX5_weighs 60 = .ok (.getfield 16, 3) := by decide +kernel
theorem dX5_weighs_63 : decode cX5_weighs 63 = .ok (.iload_n 2, 1) := by decide +kernel
theorem dX5_weighs_64 : decode cX5_weighs 64 = .ok (.iload_n 3, 1) := by decide +kernel
theorem dX5_weighs_65 : decode cX5_weighs 65 = .ok (.iload 4, 2) := by decide +kernel
theorem dX5_weighs_67 : decode cX5_weighs 67 = .ok (.if_icmp .ge 8, 3) := by decide +kernel
theorem dX5_weighs_70 : decode cX5_weighs 70 = .ok (.iload 4, 2) := by decide +kernel
theorem dX5_weighs_72 : decode cX5_weighs 72 = .ok (.goto 15, 3) := by decide +kernel
theorem dX5_weighs_75 : decode cX5_weighs 75 = .ok (.iload_n 3, 1) := by decide +kernel
theorem dX5_weighs_76 : decode cX5_weighs 76 = .ok (.iload 5, 2) := by decide +kernel
theorem dX5_weighs_78 : decode cX5_weighs 78 = .ok (.if_icmp .le 8, 3) := by decide +kernel
theorem dX5_weighs_81 : decode cX5_weighs 81 = .ok (.iload 5, 2) := by decide +kernel
theorem dX5_weighs_83 : decode cX5_weighs 83 = .ok (.goto 4, 3) := by decide +kernel
theorem dX5_weighs_86 : decode cX5_weighs 86 = .ok (.iload_n 3, 1) := by decide +kernel
theorem dX5_weighs_87 : decode cX5_weighs 87 = .ok (.iastore, 1) := by decide +kernel
theorem dX5_weighs_88 : decode cX5_weighs 88 = .ok (.aload_n 0, 1) := by decide +kernel
theorem dX5_weighs_89 : decode cX5_weighs 89 = .ok (.getfield 7, 3) := by decide +kernel
theorem dX5_weighs_92 : decode cX5_weighs 92 = .ok (.iload_n 1, 1) := by decide +kernel
theorem dX5_weighs_93 : decode cX5_weighs 93 = .ok (.iload_n 2, 1) := by decide +kernel
theorem dX5_weighs_94 : decode cX5_weighs 94 = .ok (.bipush 8, 2) := by decide +kernel
theorem dX5_weighs_96 : decode cX5_weighs 96 = .ok (.invokestatic 40, 3) := by decide +kernel
theorem dX5_weighs_99 : decode cX5_weighs 99 = .ok (.iaload, 1) := by decide +kernel
theorem dX5_weighs_100 : decode cX5_weighs 100 = .ok (.iconst 1, 1) := by decide +kernel
theorem dX5_weighs_101 : decode cX5_weighs 101 = .ok (.isub, 1) := by decide +kernel
theorem dX5_weighs_102 : decode cX5_weighs 102 = .ok (.istore 6, 2) := by decide +kernel
theorem dX5_weighs_104 : decode cX5_weighs 104 = .ok (.iload_n 3, 1) := by decide +kernel
theorem dX5_weighs_105 : decode cX5_weighs 105 = .ok (.aload_n 0, 1) := by decide +kernel
theorem dX5_weighs_106 : decode cX5_weighs 106 = .ok (.iload_n 1, 1) := by decide +kernel
theorem dX5_weighs_107 : decode cX5_weighs 107 = .ok (.iload_n 2, 1) := by decide +kernel
theorem dX5_weighs_108 : decode cX5_weighs 108 = .ok (.bipush 28, 2) := by decide +kernel
theorem dX5_weighs_110 : decode cX5_weighs 110 = .ok (.iload 6, 2) := by decide +kernel
theorem dX5_weighs_112 : decode cX5_weighs 112 = .ok (.invokevirtual 83, 3) := by decide +kernel
theorem dX5_weighs_115 : decode cX5_weighs 115 = .ok (.iadd, 1) := by decide +kernel
theorem dX5_weighs_116 : decode cX5_weighs 116 = .ok (.aload_n 0, 1) := by decide +kernel
theorem dX5_weighs_117 : decode cX5_weighs 117 = .ok (.getfield 7, 3) := by decide +kernel
theorem dX5_weighs_120 : decode cX5_weighs 120 = .ok (.iload_n 1, 1) := by decide +kernel
theorem dX5_weighs_121 : decode cX5_weighs 121 = .ok (.iload_n 2, 1) := by decide +kernel
theorem dX5_weighs_122 : decode cX5_weighs 122 = .ok (.bipush 7, 2) := by decide +kernel
theorem dX5_weighs_124 : decode cX5_weighs 124 = .ok (.invokestatic 40, 3) := by decide +kernel
theorem dX5_weighs_127 : decode cX5_weighs 127 = .ok (.iaload, 1) := by decide +kernel
theorem dX5_weighs_128 : decode cX5_weighs 128 = .ok (.isub, 1) := by decide +kernel
theorem dX5_weighs_129 : decode cX5_weighs 129 = .ok (.istore 7, 2) := by decide +kernel
theorem dX5_weighs_131 : decode cX5_weighs 131 = .ok (.iload_n 3, 1) := by decide +kernel
theorem dX5_weighs_132 : decode cX5_weighs 132 = .ok (.aload_n 0, 1) := by decide +kernel
theorem dX5_weighs_133 : decode cX5_weighs 133 = .ok (.iload_n 1, 1) := by decide +kernel
theorem dX5_weighs_134 : decode cX5_weighs 134 = .ok (.iload_n 2, 1) := by decide +kernel
theorem dX5_weighs_135 : decode cX5_weighs 135 = .ok (.bipush 25, 2) := by decide +kernel
theorem dX5_weighs_137 : decode cX5_weighs 137 = .ok (.iload 6, 2) := by decide +kernel
theorem dX5_weighs_139 : decode cX5_weighs 139 = .ok (.invokevirtual 83, 3) := by decide +kernel
theorem dX5_weighs_142 : decode cX5_weighs 142 = .ok (.isub, 1) := by decide +kernel
theorem dX5_weighs_143 : decode cX5_weighs 143 = .ok (.istore 8, 2) := by decide +kernel
theorem dX5_weighs_145 : decode cX5_weighs 145 = .ok (.iload 8, 2) := by decide +kernel
theorem dX5_weighs_147 : decode cX5_weighs 147 = .ok (.ifCond .ge 7, 3) := by decide +kernel
theorem dX5_weighs_150 : decode cX5_weighs 150 = .ok (.iconst 0, 1) := by decide +kernel
theorem dX5_weighs_151 : decode cX5_weighs 151 = .ok (.goto 5, 3) := by decide +kernel
theorem dX5_weighs_154 : decode cX5_weighs 154 = .ok (.iload 8, 2) := by decide +kernel
theorem dX5_weighs_156 : decode cX5_weighs 156 = .ok (.istore 8, 2) := by decide +kernel
theorem dX5_weighs_158 : decode cX5_weighs 158 = .ok (.iload 8, 2) := by decide +kernel
theorem dX5_weighs_160 : decode cX5_weighs 160 = .ok (.aload_n 0, 1) := by decide +kernel
theorem dX5_weighs_161 : decode cX5_weighs 161 = .ok (.getfield 7, 3) := by decide +kernel
theorem dX5_weighs_164 : decode cX5_weighs 164 = .ok (.iload_n 1, 1) := by decide +kernel
theorem dX5_weighs_165 : decode cX5_weighs 165 = .ok (.iload_n 2, 1) := by decide +kernel
theorem dX5_weighs_166 : decode cX5_weighs 166 = .ok (.bipush 6, 2) := by decide +kernel
theorem dX5_weighs_168 : decode cX5_weighs 168 = .ok (.invokestatic 40, 3) := by decide +kernel
theorem dX5_weighs_171 : decode cX5_weighs 171 = .ok (.iaload, 1) := by decide +kernel
theorem dX5_weighs_172 : decode cX5_weighs 172 = .ok (.imul, 1) := by decide +kernel
theorem dX5_weighs_173 : decode cX5_weighs 173 = .ok (.bipush 100, 2) := by decide +kernel
theorem dX5_weighs_175 : decode cX5_weighs 175 = .ok (.invokestatic 67, 3) := by decide +kernel
theorem dX5_weighs_178 : decode cX5_weighs 178 = .ok (.istore 9, 2) := by decide +kernel
theorem dX5_weighs_180 : decode cX5_weighs 180 = .ok (.iload 8, 2) := by decide +kernel
theorem dX5_weighs_182 : decode cX5_weighs 182 = .ok (.iload 9, 2) := by decide +kernel
theorem dX5_weighs_184 : decode cX5_weighs 184 = .ok (.aload_n 0, 1) := by decide +kernel
theorem dX5_weighs_185 : decode cX5_weighs 185 = .ok (.getfield 7, 3) := by decide +kernel
theorem dX5_weighs_188 : decode cX5_weighs 188 = .ok (.iload_n 1, 1) := by decide +kernel
theorem dX5_weighs_189 : decode cX5_weighs 189 = .ok (.iload_n 2, 1) := by decide +kernel
theorem dX5_weighs_190 : decode cX5_weighs 190 = .ok (.iconst 5, 1) := by decide +kernel
theorem dX5_weighs_191 : decode cX5_weighs 191 = .ok (.invokestatic 40, 3) := by decide +kernel
theorem dX5_weighs_194 : decode cX5_weighs 194 = .ok (.iaload, 1) := by decide +kernel
theorem dX5_weighs_195 : decode cX5_weighs 195 = .ok (.if_icmp .le 8, 3) := by decide +kernel
theorem dX5_weighs_198 : decode cX5_weighs 198 = .ok (.iload 9, 2) := by decide +kernel
theorem dX5_weighs_200 : decode cX5_weighs 200 = .ok (.goto 14, 3) := by decide +kernel
theorem dX5_weighs_203 : decode cX5_weighs 203 = .ok (.aload_n 0, 1) := by decide +kernel
theorem dX5_weighs_204 : decode cX5_weighs 204 = .ok (.getfield 7, 3) := by decide +kernel
theorem dX5_weighs_207 : decode cX5_weighs 207 = .ok (.iload_n 1, 1) := by decide +kernel
theorem dX5_weighs_208 : decode cX5_weighs 208 = .ok (.iload_n 2, 1) := by decide +kernel
theorem dX5_weighs_209 : decode cX5_weighs 209 = .ok (.iconst 5, 1) := by decide +kernel
theorem dX5_weighs_210 : decode cX5_weighs 210 = .ok (.invokestatic 40, 3) := by decide +kernel
theorem dX5_weighs_213 : decode cX5_weighs 213 = .ok (.iaload, 1) := by decide +kernel
theorem dX5_weighs_214 : decode cX5_weighs 214 = .ok (.iadd, 1) := by decide +kernel
theorem dX5_weighs_215 : decode cX5_weighs 215 = .ok (.istore 10, 2) := by decide +kernel
theorem dX5_weighs_217 : decode cX5_weighs 217 = .ok (.aload_n 0, 1) := by decide +kernel
theorem dX5_weighs_218 : decode cX5_weighs 218 = .ok (.getfield 19, 3) := by decide +kernel
theorem dX5_weighs_221 : decode cX5_weighs 221 = .ok (.iload_n 2, 1) := by decide +kernel
theorem dX5_weighs_222 : decode cX5_weighs 222 = .ok (.iload_n 3, 1) := by decide +kernel
theorem dX5_weighs_223 : decode cX5_weighs 223 = .ok (.iastore, 1) := by decide +kernel
theorem dX5_weighs_224 : decode cX5_weighs 224 = .ok (.aload_n 0, 1) := by decide +kernel
theorem dX5_weighs_225 : decode cX5_weighs 225 = .ok (.getfield 16, 3) := by decide +kernel
theorem dX5_weighs_228 : decode cX5_weighs 228 = .ok (.iload_n 2, 1) := by decide +kernel
theorem dX5_weighs_229 : decode cX5_weighs 229 = .ok (.iaload, 1) := by decide +kernel
theorem dX5_weighs_230 : decode cX5_weighs 230 = .ok (.iload_n 3, 1) := by decide +kernel
theorem dX5_weighs_231 : decode cX5_weighs 231 = .ok (.if_icmp .ge 48, 3) := by decide +kernel
theorem dX5_weighs_234 : decode cX5_weighs 234 = .ok (.aload_n 0, 1) := by decide +kernel
theorem dX5_weighs_235 : decode cX5_weighs 235 = .ok (.getfield 16, 3) := by decide +kernel
theorem dX5_weighs_238 : decode cX5_weighs 238 = .ok (.iload_n 2, 1) := by decide +kernel
theorem dX5_weighs_239 : decode cX5_weighs 239 = .ok (.iaload, 1) := by decide +kernel
theorem dX5_weighs_240 : decode cX5_weighs 240 = .ok (.iload 7, 2) := by decide +kernel
theorem dX5_weighs_242 : decode cX5_weighs 242 = .ok (.if_icmp .le 12, 3) := by decide +kernel
theorem dX5_weighs_245 : decode cX5_weighs 245 = .ok (.aload_n 0, 1) := by decide +kernel
theorem dX5_weighs_246 : decode cX5_weighs 246 = .ok (.getfield 16, 3) := by decide +kernel
theorem dX5_weighs_249 : decode cX5_weighs 249 = .ok (.iload_n 2, 1) := by decide +kernel
theorem dX5_weighs_250 : decode cX5_weighs 250 = .ok (.iaload, 1) := by decide +kernel
theorem dX5_weighs_251 : decode cX5_weighs 251 = .ok (.goto 5, 3) := by decide +kernel
theorem dX5_weighs_254 : decode cX5_weighs 254 = .ok (.iload 7, 2) := by decide +kernel
theorem dX5_weighs_256 : decode cX5_weighs 256 = .ok (.istore 11, 2) := by decide +kernel
theorem dX5_weighs_258 : decode cX5_weighs 258 = .ok (.aload_n 0, 1) := by decide +kernel
theorem dX5_weighs_259 : decode cX5_weighs 259 = .ok (.getfield 19, 3) := by decide +kernel
theorem dX5_weighs_262 : decode cX5_weighs 262 = .ok (.iload_n 2, 1) := by decide +kernel
theorem dX5_weighs_263 : decode cX5_weighs 263 = .ok (.iload 11, 2) := by decide +kernel
theorem dX5_weighs_265 : decode cX5_weighs 265 = .ok (.iload_n 3, 1) := by decide +kernel
theorem dX5_weighs_266 : decode cX5_weighs 266 = .ok (.if_icmp .le 7, 3) := by decide +kernel
theorem dX5_weighs_269 : decode cX5_weighs 269 = .ok (.iload_n 3, 1) := by decide +kernel
theorem dX5_weighs_270 : decode cX5_weighs 270 = .ok (.goto 5, 3) := by decide +kernel
theorem dX5_weighs_273 : decode cX5_weighs 273 = .ok (.iload 11, 2) := by decide +kernel
theorem dX5_weighs_275 : decode cX5_weighs 275 = .ok (.iastore, 1) := by decide +kernel
theorem dX5_weighs_276 : decode cX5_weighs 276 = .ok (.goto 55, 3) := by decide +kernel
theorem dX5_weighs_279 : decode cX5_weighs 279 = .ok (.aload_n 0, 1) := by decide +kernel
theorem dX5_weighs_280 : decode cX5_weighs 280 = .ok (.getfield 16, 3) := by decide +kernel
theorem dX5_weighs_283 : decode cX5_weighs 283 = .ok (.iload_n 2, 1) := by decide +kernel
theorem dX5_weighs_284 : decode cX5_weighs 284 = .ok (.iaload, 1) := by decide +kernel
theorem dX5_weighs_285 : decode cX5_weighs 285 = .ok (.iload_n 3, 1) := by decide +kernel
theorem dX5_weighs_286 : decode cX5_weighs 286 = .ok (.if_icmp .le 45, 3) := by decide +kernel
theorem dX5_weighs_289 : decode cX5_weighs 289 = .ok (.aload_n 0, 1) := by decide +kernel
theorem dX5_weighs_290 : decode cX5_weighs 290 = .ok (.getfield 16, 3) := by decide +kernel
theorem dX5_weighs_293 : decode cX5_weighs 293 = .ok (.iload_n 2, 1) := by decide +kernel
theorem dX5_weighs_294 : decode cX5_weighs 294 = .ok (.iaload, 1) := by decide +kernel
theorem dX5_weighs_295 : decode cX5_weighs 295 = .ok (.iload 10, 2) := by decide +kernel
theorem dX5_weighs_297 : decode cX5_weighs 297 = .ok (.if_icmp .ge 12, 3) := by decide +kernel
theorem dX5_weighs_300 : decode cX5_weighs 300 = .ok (.aload_n 0, 1) := by decide +kernel
theorem dX5_weighs_301 : decode cX5_weighs 301 = .ok (.getfield 16, 3) := by decide +kernel
theorem dX5_weighs_304 : decode cX5_weighs 304 = .ok (.iload_n 2, 1) := by decide +kernel
theorem dX5_weighs_305 : decode cX5_weighs 305 = .ok (.iaload, 1) := by decide +kernel
theorem dX5_weighs_306 : decode cX5_weighs 306 = .ok (.goto 5, 3) := by decide +kernel
theorem dX5_weighs_309 : decode cX5_weighs 309 = .ok (.iload 10, 2) := by decide +kernel
theorem dX5_weighs_311 : decode cX5_weighs 311 = .ok (.istore 11, 2) := by decide +kernel
theorem dX5_weighs_313 : decode cX5_weighs 313 = .ok (.aload_n 0, 1) := by decide +kernel
theorem dX5_weighs_314 : decode cX5_weighs 314 = .ok (.getfield 19, 3) := by decide +kernel
theorem dX5_weighs_317 : decode cX5_weighs 317 = .ok (.iload_n 2, 1) := by decide +kernel
theorem dX5_weighs_318 : decode cX5_weighs 318 = .ok (.iload 11, 2) := by decide +kernel
theorem dX5_weighs_320 : decode cX5_weighs 320 = .ok (.iload_n 3, 1) := by decide +kernel
theorem dX5_weighs_321 : decode cX5_weighs 321 = .ok (.if_icmp .ge 7, 3) := by decide +kernel
theorem dX5_weighs_324 : decode cX5_weighs 324 = .ok (.iload_n 3, 1) := by decide +kernel
theorem dX5_weighs_325 : decode cX5_weighs 325 = .ok (.goto 5, 3) := by decide +kernel
theorem dX5_weighs_328 : decode cX5_weighs 328 = .ok (.iload 11, 2) := by decide +kernel
theorem dX5_weighs_330 : decode cX5_weighs 330 = .ok (.iastore, 1) := by decide +kernel
theorem dX5_weighs_331 : decode cX5_weighs 331 = .ok (.aload_n 0, 1) := by decide +kernel
theorem dX5_weighs_332 : decode cX5_weighs 332 = .ok (.getfield 19, 3) := by decide +kernel
theorem dX5_weighs_335 : decode cX5_weighs 335 = .ok (.iload_n 2, 1) := by decide +kernel
theorem dX5_weighs_336 : decode cX5_weighs 336 = .ok (.iaload, 1) := by decide +kernel
theorem dX5_weighs_337 : decode cX5_weighs 337 = .ok (.aload_n 0, 1) := by decide +kernel
theorem dX5_weighs_338 : decode cX5_weighs 338 = .ok (.getfield 7, 3) := by decide +kernel
theorem dX5_weighs_341 : decode cX5_weighs 341 = .ok (.iload_n 1, 1) := by decide +kernel
theorem dX5_weighs_342 : decode cX5_weighs 342 = .ok (.iload_n 2, 1) := by decide +kernel
theorem dX5_weighs_343 : decode cX5_weighs 343 = .ok (.iconst 0, 1) := by decide +kernel
theorem dX5_weighs_344 : decode cX5_weighs 344 = .ok (.invokestatic 40, 3) := by decide +kernel
theorem dX5_weighs_347 : decode cX5_weighs 347 = .ok (.iaload, 1) := by decide +kernel
theorem dX5_weighs_348 : decode cX5_weighs 348 = .ok (.if_icmp .ge 17, 3) := by decide +kernel
theorem dX5_weighs_351 : decode cX5_weighs 351 = .ok (.aload_n 0, 1) := by decide +kernel
theorem dX5_weighs_352 : decode cX5_weighs 352 = .ok (.getfield 7, 3) := by decide +kernel
theorem dX5_weighs_355 : decode cX5_weighs 355 = .ok (.iload_n 1, 1) := by decide +kernel
theorem dX5_weighs_356 : decode cX5_weighs 356 = .ok (.iload_n 2, 1) := by decide +kernel
theorem dX5_weighs_357 : decode cX5_weighs 357 = .ok (.iconst 0, 1) := by decide +kernel
theorem dX5_weighs_358 : decode cX5_weighs 358 = .ok (.invokestatic 40, 3) := by decide +kernel
theorem dX5_weighs_361 : decode cX5_weighs 361 = .ok (.iaload, 1) := by decide +kernel
theorem dX5_weighs_362 : decode cX5_weighs 362 = .ok (.goto 9, 3) := by decide +kernel
theorem dX5_weighs_365 : decode cX5_weighs 365 = .ok (.aload_n 0, 1) := by decide +kernel
theorem dX5_weighs_366 : decode cX5_weighs 366 = .ok (.getfield 19, 3) := by decide +kernel
theorem dX5_weighs_369 : decode cX5_weighs 369 = .ok (.iload_n 2, 1) := by decide +kernel
theorem dX5_weighs_370 : decode cX5_weighs 370 = .ok (.iaload, 1) := by decide +kernel
theorem dX5_weighs_371 : decode cX5_weighs 371 = .ok (.istore 11, 2) := by decide +kernel
theorem dX5_weighs_373 : decode cX5_weighs 373 = .ok (.aload_n 0, 1) := by decide +kernel
theorem dX5_weighs_374 : decode cX5_weighs 374 = .ok (.getfield 22, 3) := by decide +kernel
theorem dX5_weighs_377 : decode cX5_weighs 377 = .ok (.iload_n 2, 1) := by decide +kernel
theorem dX5_weighs_378 : decode cX5_weighs 378 = .ok (.iload 11, 2) := by decide +kernel
theorem dX5_weighs_380 : decode cX5_weighs 380 = .ok (.aload_n 0, 1) := by decide +kernel
theorem dX5_weighs_381 : decode cX5_weighs 381 = .ok (.getfield 7, 3) := by decide +kernel
theorem dX5_weighs_384 : decode cX5_weighs 384 = .ok (.iload_n 1, 1) := by decide +kernel
theorem dX5_weighs_385 : decode cX5_weighs 385 = .ok (.iload_n 2, 1) := by decide +kernel
theorem dX5_weighs_386 : decode cX5_weighs 386 = .ok (.iconst 1, 1) := by decide +kernel
theorem dX5_weighs_387 : decode cX5_weighs 387 = .ok (.invokestatic 40, 3) := by decide +kernel
theorem dX5_weighs_390 : decode cX5_weighs 390 = .ok (.iaload, 1) := by decide +kernel
theorem dX5_weighs_391 : decode cX5_weighs 391 = .ok (.if_icmp .le 17, 3) := by decide +kernel
theorem dX5_weighs_394 : decode cX5_weighs 394 = .ok (.aload_n 0, 1) := by decide +kernel
theorem dX5_weighs_395 : decode cX5_weighs 395 = .ok (.getfield 7, 3) := by decide +kernel
theorem dX5_weighs_398 : decode cX5_weighs 398 = .ok (.iload_n 1, 1) := by decide +kernel
theorem dX5_weighs_399 : decode cX5_weighs 399 = .ok (.iload_n 2, 1) := by decide +kernel
theorem dX5_weighs_400 : decode cX5_weighs 400 = .ok (.iconst 1, 1) := by decide +kernel
theorem dX5_weighs_401 : decode cX5_weighs 401 = .ok (.invokestatic 40, 3) := by decide +kernel
theorem dX5_weighs_404 : decode cX5_weighs 404 = .ok (.iaload, 1) := by decide +kernel
theorem dX5_weighs_405 : decode cX5_weighs 405 = .ok (.goto 5, 3) := by decide +kernel
theorem dX5_weighs_408 : decode cX5_weighs 408 = .ok (.iload 11, 2) := by decide +kernel
theorem dX5_weighs_410 : decode cX5_weighs 410 = .ok (.iastore, 1) := by decide +kernel
theorem dX5_weighs_411 : decode cX5_weighs 411 = .ok (.return_, 1) := by decide +kernel
theorem dX5_givesUp_0 : decode cX5_givesUp 0 = .ok (.aload_n 0, 1) := by decide +kernel
theorem dX5_givesUp_1 : decode cX5_givesUp 1 = .ok (.iload_n 1, 1) := by decide +kernel
theorem dX5_givesUp_2 : decode cX5_givesUp 2 = .ok (.iload_n 2, 1) := by decide +kernel
theorem dX5_givesUp_3 : decode cX5_givesUp 3 = .ok (.invokevirtual 56, 3) := by decide +kernel
theorem dX5_givesUp_6 : decode cX5_givesUp 6 = .ok (.aload_n 0, 1) := by decide +kernel
theorem dX5_givesUp_7 : decode cX5_givesUp 7 = .ok (.getfield 22, 3) := by decide +kernel
theorem dX5_givesUp_10 : decode cX5_givesUp 10 = .ok (.iload_n 2, 1) := by decide +kernel
theorem dX5_givesUp_11 : decode cX5_givesUp 11 = .ok (.iaload, 1) := by decide +kernel
theorem dX5_givesUp_12 : decode cX5_givesUp 12 = .ok (.isub, 1) := by decide +kernel
theorem dX5_givesUp_13 : decode cX5_givesUp 13 = .ok (.istore_n 3, 1) := by decide +kernel
theorem dX5_givesUp_14 : decode cX5_givesUp 14 = .ok (.aload_n 0, 1) := by decide +kernel
theorem dX5_givesUp_15 : decode cX5_givesUp 15 = .ok (.getfield 34, 3) := by decide +kernel
theorem dX5_givesUp_18 : decode cX5_givesUp 18 = .ok (.iload_n 2, 1) := by decide +kernel
theorem dX5_givesUp_19 : decode cX5_givesUp 19 = .ok (.iload_n 3, 1) := by decide +kernel
theorem dX5_givesUp_20 : decode cX5_givesUp 20 = .ok (.ifCond .le 7, 3) := by decide +kernel
theorem dX5_givesUp_23 : decode cX5_givesUp 23 = .ok (.iload_n 3, 1) := by decide +kernel
theorem dX5_givesUp_24 : decode cX5_givesUp 24 = .ok (.goto 4, 3) := by decide +kernel
theorem dX5_givesUp_27 : decode cX5_givesUp 27 = .ok (.iconst 0, 1) := by decide +kernel
theorem dX5_givesUp_28 : decode cX5_givesUp 28 = .ok (.iastore, 1) := by decide +kernel
theorem dX5_givesUp_29 : decode cX5_givesUp 29 = .ok (.bipush 6, 2) := by decide +kernel
theorem dX5_givesUp_31 : decode cX5_givesUp 31 = .ok (.istore 4, 2) := by decide +kernel
theorem dX5_givesUp_33 : decode cX5_givesUp 33 = .ok (.iload 4, 2) := by decide +kernel
theorem dX5_givesUp_35 : decode cX5_givesUp 35 = .ok (.ifCond .lt 78, 3) := by decide +kernel
theorem dX5_givesUp_38 : decode cX5_givesUp 38 = .ok (.iload_n 3, 1) := by decide +kernel
theorem dX5_givesUp_39 : decode cX5_givesUp 39 = .ok (.ifCond .le 74, 3) := by decide +kernel
theorem dX5_givesUp_42 : decode cX5_givesUp 42 = .ok (.aload_n 0, 1) := by decide +kernel
theorem dX5_givesUp_43 : decode cX5_givesUp 43 = .ok (.getfield 7, 3) := by decide +kernel
theorem dX5_givesUp_46 : decode cX5_givesUp 46 = .ok (.iload_n 1, 1) := by decide +kernel
theorem dX5_givesUp_47 : decode cX5_givesUp 47 = .ok (.iload_n 2, 1) := by decide +kernel
theorem dX5_givesUp_48 : decode cX5_givesUp 48 = .ok (.bipush 11, 2) := by decide +kernel
theorem dX5_givesUp_50 : decode cX5_givesUp 50 = .ok (.iload 4, 2) := by decide +kernel
theorem dX5_givesUp_52 : decode cX5_givesUp 52 = .ok (.iadd, 1) := by decide +kernel
theorem dX5_givesUp_53 : decode cX5_givesUp 53 = .ok (.invokestatic 40, 3) := by decide +kernel
theorem dX5_givesUp_56 : decode cX5_givesUp 56 = .ok (.iaload, 1) := by decide +kernel
theorem dX5_givesUp_57 : decode cX5_givesUp 57 = .ok (.iload_n 3, 1) := by decide +kernel
theorem dX5_givesUp_58 : decode cX5_givesUp 58 = .ok (.if_icmp .ge 21, 3) := by decide +kernel
theorem dX5_givesUp_61 : decode cX5_givesUp 61 = .ok (.aload_n 0, 1) := by decide +kernel
theorem dX5_givesUp_62 : decode cX5_givesUp 62 = .ok (.getfield 7, 3) := by decide +kernel
theorem dX5_givesUp_65 : decode cX5_givesUp 65 = .ok (.iload_n 1, 1) := by decide +kernel
theorem dX5_givesUp_66 : decode cX5_givesUp 66 = .ok (.iload_n 2, 1) := by decide +kernel
theorem dX5_givesUp_67 : decode cX5_givesUp 67 = .ok (.bipush 11, 2) := by decide +kernel
theorem dX5_givesUp_69 : decode cX5_givesUp 69 = .ok (.iload 4, 2) := by decide +kernel
theorem dX5_givesUp_71 : decode cX5_givesUp 71 = .ok (.iadd, 1) := by decide +kernel
theorem dX5_givesUp_72 : decode cX5_givesUp 72 = .ok (.invokestatic 40, 3) := by decide +kernel
theorem dX5_givesUp_75 : decode cX5_givesUp 75 = .ok (.iaload, 1) := by decide +kernel
theorem dX5_givesUp_76 : decode cX5_givesUp 76 = .ok (.goto 4, 3) := by decide +kernel
theorem dX5_givesUp_79 : decode cX5_givesUp 79 = .ok (.iload_n 3, 1) := by decide +kernel
theorem dX5_givesUp_80 : decode cX5_givesUp 80 = .ok (.istore 5, 2) := by decide +kernel
theorem dX5_givesUp_82 : decode cX5_givesUp 82 = .ok (.aload_n 0, 1) := by decide +kernel
theorem dX5_givesUp_83 : decode cX5_givesUp 83 = .ok (.getfield 7, 3) := by decide +kernel
theorem dX5_givesUp_86 : decode cX5_givesUp 86 = .ok (.iload_n 1, 1) := by decide +kernel
theorem dX5_givesUp_87 : decode cX5_givesUp 87 = .ok (.iload_n 2, 1) := by decide +kernel
theorem dX5_givesUp_88 : decode cX5_givesUp 88 = .ok (.bipush 11, 2) := by decide +kernel
theorem dX5_givesUp_90 : decode cX5_givesUp 90 = .ok (.iload 4, 2) := by decide +kernel
theorem dX5_givesUp_92 : decode cX5_givesUp 92 = .ok (.iadd, 1) := by decide +kernel
theorem dX5_givesUp_93 : decode cX5_givesUp 93 = .ok (.invokestatic 40, 3) := by decide +kernel
theorem dX5_givesUp_96 : decode cX5_givesUp 96 = .ok (.dup2, 1) := by decide +kernel
theorem dX5_givesUp_97 : decode cX5_givesUp 97 = .ok (.iaload, 1) := by decide +kernel
theorem dX5_givesUp_98 : decode cX5_givesUp 98 = .ok (.iload 5, 2) := by decide +kernel
theorem dX5_givesUp_100 : decode cX5_givesUp 100 = .ok (.isub, 1) := by decide +kernel
theorem dX5_givesUp_101 : decode cX5_givesUp 101 = .ok (.iastore, 1) := by decide +kernel
theorem dX5_givesUp_102 : decode cX5_givesUp 102 = .ok (.iload_n 3, 1) := by decide +kernel
theorem dX5_givesUp_103 : decode cX5_givesUp 103 = .ok (.iload 5, 2) := by decide +kernel
theorem dX5_givesUp_105 : decode cX5_givesUp 105 = .ok (.isub, 1) := by decide +kernel
theorem dX5_givesUp_106 : decode cX5_givesUp 106 = .ok (.istore_n 3, 1) := by decide +kernel
theorem dX5_givesUp_107 : decode cX5_givesUp 107 = .ok (.iinc 4 (-1), 3) := by decide +kernel
theorem dX5_givesUp_110 : decode cX5_givesUp 110 = .ok (.goto (-77), 3) := by decide +kernel
theorem dX5_givesUp_113 : decode cX5_givesUp 113 = .ok (.aload_n 0, 1) := by decide +kernel
theorem dX5_givesUp_114 : decode cX5_givesUp 114 = .ok (.getfield 7, 3) := by decide +kernel
theorem dX5_givesUp_117 : decode cX5_givesUp 117 = .ok (.iload_n 1, 1) := by decide +kernel
theorem dX5_givesUp_118 : decode cX5_givesUp 118 = .ok (.iload_n 2, 1) := by decide +kernel
theorem dX5_givesUp_119 : decode cX5_givesUp 119 = .ok (.bipush 10, 2) := by decide +kernel
theorem dX5_givesUp_121 : decode cX5_givesUp 121 = .ok (.invokestatic 40, 3) := by decide +kernel
theorem dX5_givesUp_124 : decode cX5_givesUp 124 = .ok (.dup2, 1) := by decide +kernel
theorem dX5_givesUp_125 : decode cX5_givesUp 125 = .ok (.iaload, 1) := by decide +kernel
theorem dX5_givesUp_126 : decode cX5_givesUp 126 = .ok (.iload_n 3, 1) := by decide +kernel
theorem dX5_givesUp_127 : decode cX5_givesUp 127 = .ok (.ifCond .le 7, 3) := by decide +kernel
theorem dX5_givesUp_130 : decode cX5_givesUp 130 = .ok (.iload_n 3, 1) := by decide +kernel
theorem dX5_givesUp_131 : decode cX5_givesUp 131 = .ok (.goto 4, 3) := by decide +kernel
theorem dX5_givesUp_134 : decode cX5_givesUp 134 = .ok (.iconst 0, 1) := by decide +kernel
theorem dX5_givesUp_135 : decode cX5_givesUp 135 = .ok (.isub, 1) := by decide +kernel
theorem dX5_givesUp_136 : decode cX5_givesUp 136 = .ok (.iastore, 1) := by decide +kernel
theorem dX5_givesUp_137 : decode cX5_givesUp 137 = .ok (.return_, 1) := by decide +kernel
theorem dX5_isAhead_0 : decode cX5_isAhead 0 = .ok (.aload_n 0, 1) := by decide +kernel
theorem dX5_isAhead_1 : decode cX5_isAhead 1 = .ok (.getfield 7, 3) := by decide +kernel
theorem dX5_isAhead_4 : decode cX5_isAhead 4 = .ok (.iload_n 1, 1) := by decide +kernel
theorem dX5_isAhead_5 : decode cX5_isAhead 5 = .ok (.iload_n 2, 1) := by decide +kernel
theorem dX5_isAhead_6 : decode cX5_isAhead 6 = .ok (.iconst 2, 1) := by decide +kernel
theorem dX5_isAhead_7 : decode cX5_isAhead 7 = .ok (.invokestatic 40, 3) := by decide +kernel
theorem dX5_isAhead_10 : decode cX5_isAhead 10 = .ok (.iaload, 1) := by decide +kernel
theorem dX5_isAhead_11 : decode cX5_isAhead 11 = .ok (.aload_n 0, 1) := by decide +kernel
theorem dX5_isAhead_12 : decode cX5_isAhead 12 = .ok (.getfield 7, 3) := by decide +kernel
theorem dX5_isAhead_15 : decode cX5_isAhead 15 = .ok (.iload_n 1, 1) := by decide +kernel
theorem dX5_isAhead_16 : decode cX5_isAhead 16 = .ok (.iload_n 3, 1) := by decide +kernel
theorem dX5_isAhead_17 : decode cX5_isAhead 17 = .ok (.iconst 2, 1) := by decide +kernel
theorem dX5_isAhead_18 : decode cX5_isAhead 18 = .ok (.invokestatic 40, 3) := by decide +kernel
theorem dX5_isAhead_21 : decode cX5_isAhead 21 = .ok (.iaload, 1) := by decide +kernel
theorem dX5_isAhead_22 : decode cX5_isAhead 22 = .ok (.isub, 1) := by decide +kernel
theorem dX5_isAhead_23 : decode cX5_isAhead 23 = .ok (.istore 4, 2) := by decide +kernel
theorem dX5_isAhead_25 : decode cX5_isAhead 25 = .ok (.aload_n 0, 1) := by decide +kernel
theorem dX5_isAhead_26 : decode cX5_isAhead 26 = .ok (.getfield 25, 3) := by decide +kernel
theorem dX5_isAhead_29 : decode cX5_isAhead 29 = .ok (.iload_n 2, 1) := by decide +kernel
theorem dX5_isAhead_30 : decode cX5_isAhead 30 = .ok (.iaload, 1) := by decide +kernel
theorem dX5_isAhead_31 : decode cX5_isAhead 31 = .ok (.aload_n 0, 1) := by decide +kernel
theorem dX5_isAhead_32 : decode cX5_isAhead 32 = .ok (.getfield 22, 3) := by decide +kernel
theorem dX5_isAhead_35 : decode cX5_isAhead 35 = .ok (.iload_n 3, 1) := by decide +kernel
theorem dX5_isAhead_36 : decode cX5_isAhead 36 = .ok (.iaload, 1) := by decide +kernel
theorem dX5_isAhead_37 : decode cX5_isAhead 37 = .ok (.imul, 1) := by decide +kernel
theorem dX5_isAhead_38 : decode cX5_isAhead 38 = .ok (.aload_n 0, 1) := by decide +kernel
theorem dX5_isAhead_39 : decode cX5_isAhead 39 = .ok (.getfield 25, 3) := by decide +kernel
theorem dX5_isAhead_42 : decode cX5_isAhead 42 = .ok (.iload_n 3, 1) := by decide +kernel
theorem dX5_isAhead_43 : decode cX5_isAhead 43 = .ok (.iaload, 1) := by decide +kernel
theorem dX5_isAhead_44 : decode cX5_isAhead 44 = .ok (.aload_n 0, 1) := by decide +kernel
theorem dX5_isAhead_45 : decode cX5_isAhead 45 = .ok (.getfield 22, 3) := by decide +kernel
theorem dX5_isAhead_48 : decode cX5_isAhead 48 = .ok (.iload_n 2, 1) := by decide +kernel
theorem dX5_isAhead_49 : decode cX5_isAhead 49 = .ok (.iaload, 1) := by decide +kernel
theorem dX5_isAhead_50 : decode cX5_isAhead 50 = .ok (.imul, 1) := by decide +kernel
theorem dX5_isAhead_51 : decode cX5_isAhead 51 = .ok (.isub, 1) := by decide +kernel
theorem dX5_isAhead_52 : decode cX5_isAhead 52 = .ok (.istore 5, 2) := by decide +kernel
theorem dX5_isAhead_54 : decode cX5_isAhead 54 = .ok (.iload 4, 2) := by decide +kernel
theorem dX5_isAhead_56 : decode cX5_isAhead 56 = .ok (.ifCond .gt 23, 3) := by decide +kernel
theorem dX5_isAhead_59 : decode cX5_isAhead 59 = .ok (.iload 4, 2) := by decide +kernel
theorem dX5_isAhead_61 : decode cX5_isAhead 61 = .ok (.ifCond .ne 22, 3) := by decide +kernel
theorem dX5_isAhead_64 : decode cX5_isAhead 64 = .ok (.iload 5, 2) := by decide +kernel
theorem dX5_isAhead_66 : decode cX5_isAhead 66 = .ok (.ifCond .lt 13, 3) := by decide +kernel
theorem dX5_isAhead_69 : decode cX5_isAhead 69 = .ok (.iload 5, 2) := by decide +kernel
theorem dX5_isAhead_71 : decode cX5_isAhead 71 = .ok (.ifCond .ne 12, 3) := by decide +kernel
theorem dX5_isAhead_74 : decode cX5_isAhead 74 = .ok (.iload_n 2, 1) := by decide +kernel
theorem dX5_isAhead_75 : decode cX5_isAhead 75 = .ok (.iload_n 3, 1) := by decide +kernel
theorem dX5_isAhead_76 : decode cX5_isAhead 76 = .ok (.if_icmp .ge 7, 3) := by decide +kernel
theorem dX5_isAhead_79 : decode cX5_isAhead 79 = .ok (.iconst 1, 1) := by decide +kernel
theorem dX5_isAhead_80 : decode cX5_isAhead 80 = .ok (.goto 4, 3) := by decide +kernel
theorem dX5_isAhead_83 : decode cX5_isAhead 83 = .ok (.iconst 0, 1) := by decide +kernel
theorem dX5_isAhead_84 : decode cX5_isAhead 84 = .ok (.ireturn, 1) := by decide +kernel
theorem dX5_gets_0 : decode cX5_gets 0 = .ok (.aload_n 0, 1) := by decide +kernel
theorem dX5_gets_1 : decode cX5_gets 1 = .ok (.iload_n 1, 1) := by decide +kernel
theorem dX5_gets_2 : decode cX5_gets 2 = .ok (.bipush 7, 2) := by decide +kernel
theorem dX5_gets_4 : decode cX5_gets 4 = .ok (.invokevirtual 52, 3) := by decide +kernel
theorem dX5_gets_7 : decode cX5_gets 7 = .ok (.istore_n 2, 1) := by decide +kernel
theorem dX5_gets_8 : decode cX5_gets 8 = .ok (.iconst 0, 1) := by decide +kernel
theorem dX5_gets_9 : decode cX5_gets 9 = .ok (.istore_n 3, 1) := by decide +kernel
theorem dX5_gets_10 : decode cX5_gets 10 = .ok (.iload_n 3, 1) := by decide +kernel
theorem dX5_gets_11 : decode cX5_gets 11 = .ok (.iload_n 2, 1) := by decide +kernel
theorem dX5_gets_12 : decode cX5_gets 12 = .ok (.if_icmp .ge 28, 3) := by decide +kernel
theorem dX5_gets_15 : decode cX5_gets 15 = .ok (.aload_n 0, 1) := by decide +kernel
theorem dX5_gets_16 : decode cX5_gets 16 = .ok (.getfield 25, 3) := by decide +kernel
theorem dX5_gets_19 : decode cX5_gets 19 = .ok (.iload_n 3, 1) := by decide +kernel
theorem dX5_gets_20 : decode cX5_gets 20 = .ok (.aload_n 0, 1) := by decide +kernel
theorem dX5_gets_21 : decode cX5_gets 21 = .ok (.iload_n 1, 1) := by decide +kernel
theorem dX5_gets_22 : decode cX5_gets 22 = .ok (.iload_n 3, 1) := by decide +kernel
theorem dX5_gets_23 : decode cX5_gets 23 = .ok (.invokevirtual 56, 3) := by decide +kernel
theorem dX5_gets_26 : decode cX5_gets 26 = .ok (.iastore, 1) := by decide +kernel
theorem dX5_gets_27 : decode cX5_gets 27 = .ok (.aload_n 0, 1) := by decide +kernel
theorem dX5_gets_28 : decode cX5_gets 28 = .ok (.getfield 31, 3) := by decide +kernel
theorem dX5_gets_31 : decode cX5_gets 31 = .ok (.iload_n 3, 1) := by decide +kernel
theorem dX5_gets_32 : decode cX5_gets 32 = .ok (.iconst 0, 1) := by decide +kernel
theorem dX5_gets_33 : decode cX5_gets 33 = .ok (.iastore, 1) := by decide +kernel
theorem dX5_gets_34 : decode cX5_gets 34 = .ok (.iinc 3 1, 3) := by decide +kernel
theorem dX5_gets_37 : decode cX5_gets 37 = .ok (.goto (-27), 3) := by decide +kernel
theorem dX5_gets_40 : decode cX5_gets 40 = .ok (.iconst 0, 1) := by decide +kernel
theorem dX5_gets_41 : decode cX5_gets 41 = .ok (.istore_n 3, 1) := by decide +kernel
theorem dX5_gets_42 : decode cX5_gets 42 = .ok (.iload_n 3, 1) := by decide +kernel
theorem dX5_gets_43 : decode cX5_gets 43 = .ok (.iload_n 2, 1) := by decide +kernel
theorem dX5_gets_44 : decode cX5_gets 44 = .ok (.if_icmp .ge 107, 3) := by decide +kernel
theorem dX5_gets_47 : decode cX5_gets 47 = .ok (.aload_n 0, 1) := by decide +kernel
theorem dX5_gets_48 : decode cX5_gets 48 = .ok (.getfield 28, 3) := by decide +kernel
theorem dX5_gets_51 : decode cX5_gets 51 = .ok (.iload_n 3, 1) := by decide +kernel
theorem dX5_gets_52 : decode cX5_gets 52 = .ok (.aload_n 0, 1) := by decide +kernel
theorem dX5_gets_53 : decode cX5_gets 53 = .ok (.getfield 25, 3) := by decide +kernel
theorem dX5_gets_56 : decode cX5_gets 56 = .ok (.iload_n 3, 1) := by decide +kernel
theorem dX5_gets_57 : decode cX5_gets 57 = .ok (.iaload, 1) := by decide +kernel
theorem dX5_gets_58 : decode cX5_gets 58 = .ok (.aload_n 0, 1) := by decide +kernel
theorem dX5_gets_59 : decode cX5_gets 59 = .ok (.getfield 22, 3) := by decide +kernel
theorem dX5_gets_62 : decode cX5_gets 62 = .ok (.iload_n 3, 1) := by decide +kernel
theorem dX5_gets_63 : decode cX5_gets 63 = .ok (.iaload, 1) := by decide +kernel
theorem dX5_gets_64 : decode cX5_gets 64 = .ok (.if_icmp .ge 7, 3) := by decide +kernel
theorem dX5_gets_67 : decode cX5_gets 67 = .ok (.iconst 0, 1) := by decide +kernel
theorem dX5_gets_68 : decode cX5_gets 68 = .ok (.goto 4, 3) := by decide +kernel
theorem dX5_gets_71 : decode cX5_gets 71 = .ok (.iconst (-1), 1) := by decide +kernel
theorem dX5_gets_72 : decode cX5_gets 72 = .ok (.iastore, 1) := by decide +kernel
theorem dX5_gets_73 : decode cX5_gets 73 = .ok (.iconst 0, 1) := by decide +kernel
theorem dX5_gets_74 : decode cX5_gets 74 = .ok (.istore 4, 2) := by decide +kernel
theorem dX5_gets_76 : decode cX5_gets 76 = .ok (.iload 4, 2) := by decide +kernel
theorem dX5_gets_78 : decode cX5_gets 78 = .ok (.iload_n 2, 1) := by decide +kernel
theorem dX5_gets_79 : decode cX5_gets 79 = .ok (.if_icmp .ge 66, 3) := by decide +kernel
theorem dX5_gets_82 : decode cX5_gets 82 = .ok (.aload_n 0, 1) := by decide +kernel
theorem dX5_gets_83 : decode cX5_gets 83 = .ok (.getfield 28, 3) := by decide +kernel
theorem dX5_gets_86 : decode cX5_gets 86 = .ok (.iload_n 3, 1) := by decide +kernel
theorem dX5_gets_87 : decode cX5_gets 87 = .ok (.dup2, 1) := by decide +kernel
theorem dX5_gets_88 : decode cX5_gets 88 = .ok (.iaload, 1) := by decide +kernel
theorem dX5_gets_89 : decode cX5_gets 89 = .ok (.aload_n 0, 1) := by decide +kernel
theorem dX5_gets_90 : decode cX5_gets 90 = .ok (.getfield 28, 3) := by decide +kernel
theorem dX5_gets_93 : decode cX5_gets 93 = .ok (.iload_n 3, 1) := by decide +kernel
theorem dX5_gets_94 : decode cX5_gets 94 = .ok (.iaload, 1) := by decide +kernel
theorem dX5_gets_95 : decode cX5_gets 95 = .ok (.ifCond .lt 41, 3) := by decide +kernel
theorem dX5_gets_98 : decode cX5_gets 98 = .ok (.iload 4, 2) := by decide +kernel
theorem dX5_gets_100 : decode cX5_gets 100 = .ok (.iload_n 3, 1) := by decide +kernel
theorem dX5_gets_101 : decode cX5_gets 101 = .ok (.if_icmp .eq 35, 3) := by decide +kernel
theorem dX5_gets_104 : decode cX5_gets 104 = .ok (.aload_n 0, 1) := by decide +kernel
theorem dX5_gets_105 : decode cX5_gets 105 = .ok (.getfield 25, 3) := by decide +kernel
theorem dX5_gets_108 : decode cX5_gets 108 = .ok (.iload 4, 2) := by decide +kernel
theorem dX5_gets_110 : decode cX5_gets 110 = .ok (.iaload, 1) := by decide +kernel
theorem dX5_gets_111 : decode cX5_gets 111 = .ok (.aload_n 0, 1) := by decide +kernel
theorem dX5_gets_112 : decode cX5_gets 112 = .ok (.getfield 22, 3) := by decide +kernel
theorem dX5_gets_115 : decode cX5_gets 115 = .ok (.iload 4, 2) := by decide +kernel
theorem dX5_gets_117 : decode cX5_gets 117 = .ok (.iaload, 1) := by decide +kernel
theorem dX5_gets_118 : decode cX5_gets 118 = .ok (.if_icmp .ge 18, 3) := by decide +kernel
theorem dX5_gets_121 : decode cX5_gets 121 = .ok (.aload_n 0, 1) := by decide +kernel
theorem dX5_gets_122 : decode cX5_gets 122 = .ok (.iload_n 1, 1) := by decide +kernel
theorem dX5_gets_123 : decode cX5_gets 123 = .ok (.iload 4, 2) := by decide +kernel
theorem dX5_gets_125 : decode cX5_gets 125 = .ok (.iload_n 3, 1) := by decide +kernel
theorem dX5_gets_126 : decode cX5_gets 126 = .ok (.invokevirtual 86, 3) := by decide +kernel
theorem dX5_gets_129 : decode cX5_gets 129 = .ok (.ifCond .eq 7, 3) := by decide +kernel
theorem dX5_gets_132 : decode cX5_gets 132 = .ok (.iconst 1, 1) := by decide +kernel
theorem dX5_gets_133 : decode cX5_gets 133 = .ok (.goto 4, 3) := by decide +kernel
theorem dX5_gets_136 : decode cX5_gets 136 = .ok (.iconst 0, 1) := by decide +kernel
theorem dX5_gets_137 : decode cX5_gets 137 = .ok (.iadd, 1) := by decide +kernel
theorem dX5_gets_138 : decode cX5_gets 138 = .ok (.iastore, 1) := by decide +kernel
theorem dX5_gets_139 : decode cX5_gets 139 = .ok (.iinc 4 1, 3) := by decide +kernel
theorem dX5_gets_142 : decode cX5_gets 142 = .ok (.goto (-66), 3) := by decide +kernel
theorem dX5_gets_145 : decode cX5_gets 145 = .ok (.iinc 3 1, 3) := by decide +kernel
theorem dX5_gets_148 : decode cX5_gets 148 = .ok (.goto (-106), 3) := by decide +kernel
theorem dX5_gets_151 : decode cX5_gets 151 = .ok (.iconst 0, 1) := by decide +kernel
theorem dX5_gets_152 : decode cX5_gets 152 = .ok (.istore_n 3, 1) := by decide +kernel
theorem dX5_gets_153 : decode cX5_gets 153 = .ok (.iload_n 3, 1) := by decide +kernel
theorem dX5_gets_154 : decode cX5_gets 154 = .ok (.iload_n 2, 1) := by decide +kernel
theorem dX5_gets_155 : decode cX5_gets 155 = .ok (.if_icmp .ge 42, 3) := by decide +kernel
theorem dX5_gets_158 : decode cX5_gets 158 = .ok (.iconst 0, 1) := by decide +kernel
theorem dX5_gets_159 : decode cX5_gets 159 = .ok (.istore 4, 2) := by decide +kernel
theorem dX5_gets_161 : decode cX5_gets 161 = .ok (.iload 4, 2) := by decide +kernel
theorem dX5_gets_163 : decode cX5_gets 163 = .ok (.iload_n 2, 1) := by decide +kernel
theorem dX5_gets_164 : decode cX5_gets 164 = .ok (.if_icmp .ge 27, 3) := by decide +kernel
theorem dX5_gets_167 : decode cX5_gets 167 = .ok (.aload_n 0, 1) := by decide +kernel
theorem dX5_gets_168 : decode cX5_gets 168 = .ok (.getfield 28, 3) := by decide +kernel
theorem dX5_gets_171 : decode cX5_gets 171 = .ok (.iload 4, 2) := by decide +kernel
theorem dX5_gets_173 : decode cX5_gets 173 = .ok (.iaload, 1) := by decide +kernel
theorem dX5_gets_174 : decode cX5_gets 174 = .ok (.iload_n 3, 1) := by decide +kernel
theorem dX5_gets_175 : decode cX5_gets 175 = .ok (.if_icmp .ne 10, 3) := by decide +kernel
theorem dX5_gets_178 : decode cX5_gets 178 = .ok (.aload_n 0, 1) := by decide +kernel
theorem dX5_gets_179 : decode cX5_gets 179 = .ok (.iload_n 1, 1) := by decide +kernel
theorem dX5_gets_180 : decode cX5_gets 180 = .ok (.iload 4, 2) := by decide +kernel
theorem dX5_gets_182 : decode cX5_gets 182 = .ok (.invokevirtual 90, 3) := by decide +kernel
theorem dX5_gets_185 : decode cX5_gets 185 = .ok (.iinc 4 1, 3) := by decide +kernel
theorem dX5_gets_188 : decode cX5_gets 188 = .ok (.goto (-27), 3) := by decide +kernel
theorem dX5_gets_191 : decode cX5_gets 191 = .ok (.iinc 3 1, 3) := by decide +kernel
theorem dX5_gets_194 : decode cX5_gets 194 = .ok (.goto (-41), 3) := by decide +kernel
theorem dX5_gets_197 : decode cX5_gets 197 = .ok (.return_, 1) := by decide +kernel
theorem dX5_getsOne_0 : decode cX5_getsOne 0 = .ok (.aload_n 0, 1) := by decide +kernel
theorem dX5_getsOne_1 : decode cX5_getsOne 1 = .ok (.iload_n 1, 1) := by decide +kernel
theorem dX5_getsOne_2 : decode cX5_getsOne 2 = .ok (.iconst 0, 1) := by decide +kernel
theorem dX5_getsOne_3 : decode cX5_getsOne 3 = .ok (.invokevirtual 52, 3) := by decide +kernel
theorem dX5_getsOne_6 : decode cX5_getsOne 6 = .ok (.aload_n 0, 1) := by decide +kernel
theorem dX5_getsOne_7 : decode cX5_getsOne 7 = .ok (.iload_n 1, 1) := by decide +kernel
theorem dX5_getsOne_8 : decode cX5_getsOne 8 = .ok (.invokevirtual 94, 3) := by decide +kernel
theorem dX5_getsOne_11 : decode cX5_getsOne 11 = .ok (.isub, 1) := by decide +kernel
theorem dX5_getsOne_12 : decode cX5_getsOne 12 = .ok (.istore_n 3, 1) := by decide +kernel
theorem dX5_getsOne_13 : decode cX5_getsOne 13 = .ok (.aload_n 0, 1) := by decide +kernel
theorem dX5_getsOne_14 : decode cX5_getsOne 14 = .ok (.getfield 22, 3) := by decide +kernel
theorem dX5_getsOne_17 : decode cX5_getsOne 17 = .ok (.iload_n 2, 1) := by decide +kernel
theorem dX5_getsOne_18 : decode cX5_getsOne 18 = .ok (.iaload, 1) := by decide +kernel
theorem dX5_getsOne_19 : decode cX5_getsOne 19 = .ok (.aload_n 0, 1) := by decide +kernel
theorem dX5_getsOne_20 : decode cX5_getsOne 20 = .ok (.getfield 25, 3) := by decide +kernel
theorem dX5_getsOne_23 : decode cX5_getsOne 23 = .ok (.iload_n 2, 1) := by decide +kernel
theorem dX5_getsOne_24 : decode cX5_getsOne 24 = .ok (.iaload, 1) := by decide +kernel
theorem dX5_getsOne_25 : decode cX5_getsOne 25 = .ok (.isub, 1) := by decide +kernel
theorem dX5_getsOne_26 : decode cX5_getsOne 26 = .ok (.istore 4, 2) := by decide +kernel
theorem dX5_getsOne_28 : decode cX5_getsOne 28 = .ok (.iload 4, 2) := by decide +kernel
theorem dX5_getsOne_30 : decode cX5_getsOne 30 = .ok (.iload_n 3, 1) := by decide +kernel
theorem dX5_getsOne_31 : decode cX5_getsOne 31 = .ok (.if_icmp .ge 8, 3) := by decide +kernel
theorem dX5_getsOne_34 : decode cX5_getsOne 34 = .ok (.iload 4, 2) := by decide +kernel
theorem dX5_getsOne_36 : decode cX5_getsOne 36 = .ok (.goto 4, 3) := by decide +kernel
theorem dX5_getsOne_39 : decode cX5_getsOne 39 = .ok (.iload_n 3, 1) := by decide +kernel
theorem dX5_getsOne_40 : decode cX5_getsOne 40 = .ok (.istore 5, 2) := by decide +kernel
theorem dX5_getsOne_42 : decode cX5_getsOne 42 = .ok (.aload_n 0, 1) := by decide +kernel
theorem dX5_getsOne_43 : decode cX5_getsOne 43 = .ok (.getfield 31, 3) := by decide +kernel
theorem dX5_getsOne_46 : decode cX5_getsOne 46 = .ok (.iload_n 2, 1) := by decide +kernel
theorem dX5_getsOne_47 : decode cX5_getsOne 47 = .ok (.iload 5, 2) := by decide +kernel
theorem dX5_getsOne_49 : decode cX5_getsOne 49 = .ok (.ifCond .le 8, 3) := by decide +kernel
theorem dX5_getsOne_52 : decode cX5_getsOne 52 = .ok (.iload 5, 2) := by decide +kernel
theorem dX5_getsOne_54 : decode cX5_getsOne 54 = .ok (.goto 4, 3) := by decide +kernel
theorem dX5_getsOne_57 : decode cX5_getsOne 57 = .ok (.iconst 0, 1) := by decide +kernel
theorem dX5_getsOne_58 : decode cX5_getsOne 58 = .ok (.iastore, 1) := by decide +kernel
theorem dX5_getsOne_59 : decode cX5_getsOne 59 = .ok (.aload_n 0, 1) := by decide +kernel
theorem dX5_getsOne_60 : decode cX5_getsOne 60 = .ok (.getfield 31, 3) := by decide +kernel
theorem dX5_getsOne_63 : decode cX5_getsOne 63 = .ok (.iload_n 2, 1) := by decide +kernel
theorem dX5_getsOne_64 : decode cX5_getsOne 64 = .ok (.iaload, 1) := by decide +kernel
theorem dX5_getsOne_65 : decode cX5_getsOne 65 = .ok (.aload_n 0, 1) := by decide +kernel
theorem dX5_getsOne_66 : decode cX5_getsOne 66 = .ok (.iload_n 1, 1) := by decide +kernel
theorem dX5_getsOne_67 : decode cX5_getsOne 67 = .ok (.iconst 5, 1) := by decide +kernel
theorem dX5_getsOne_68 : decode cX5_getsOne 68 = .ok (.invokevirtual 52, 3) := by decide +kernel
theorem dX5_getsOne_71 : decode cX5_getsOne 71 = .ok (.if_icmp .ge 12, 3) := by decide +kernel
theorem dX5_getsOne_74 : decode cX5_getsOne 74 = .ok (.aload_n 0, 1) := by decide +kernel
theorem dX5_getsOne_75 : decode cX5_getsOne 75 = .ok (.getfield 31, 3) := by decide +kernel
theorem dX5_getsOne_78 : decode cX5_getsOne 78 = .ok (.iload_n 2, 1) := by decide +kernel
theorem dX5_getsOne_79 : decode cX5_getsOne 79 = .ok (.iaload, 1) := by decide +kernel
theorem dX5_getsOne_80 : decode cX5_getsOne 80 = .ok (.goto 9, 3) := by decide +kernel
theorem dX5_getsOne_83 : decode cX5_getsOne 83 = .ok (.aload_n 0, 1) := by decide +kernel
theorem dX5_getsOne_84 : decode cX5_getsOne 84 = .ok (.iload_n 1, 1) := by decide +kernel
theorem dX5_getsOne_85 : decode cX5_getsOne 85 = .ok (.iconst 5, 1) := by decide +kernel
theorem dX5_getsOne_86 : decode cX5_getsOne 86 = .ok (.invokevirtual 52, 3) := by decide +kernel
theorem dX5_getsOne_89 : decode cX5_getsOne 89 = .ok (.istore 6, 2) := by decide +kernel
theorem dX5_getsOne_91 : decode cX5_getsOne 91 = .ok (.aload_n 0, 1) := by decide +kernel
theorem dX5_getsOne_92 : decode cX5_getsOne 92 = .ok (.iload_n 1, 1) := by decide +kernel
theorem dX5_getsOne_93 : decode cX5_getsOne 93 = .ok (.iconst 5, 1) := by decide +kernel
theorem dX5_getsOne_94 : decode cX5_getsOne 94 = .ok (.aload_n 0, 1) := by decide +kernel
theorem dX5_getsOne_95 : decode cX5_getsOne 95 = .ok (.iload_n 1, 1) := by decide +kernel
theorem dX5_getsOne_96 : decode cX5_getsOne 96 = .ok (.iconst 5, 1) := by decide +kernel
theorem dX5_getsOne_97 : decode cX5_getsOne 97 = .ok (.invokevirtual 52, 3) := by decide +kernel
theorem dX5_getsOne_100 : decode cX5_getsOne 100 = .ok (.iload 6, 2) := by decide +kernel
theorem dX5_getsOne_102 : decode cX5_getsOne 102 = .ok (.isub, 1) := by decide +kernel
theorem dX5_getsOne_103 : decode cX5_getsOne 103 = .ok (.invokevirtual 97, 3) := by decide +kernel
theorem dX5_getsOne_106 : decode cX5_getsOne 106 = .ok (.aload_n 0, 1) := by decide +kernel
theorem dX5_getsOne_107 : decode cX5_getsOne 107 = .ok (.getfield 7, 3) := by decide +kernel
theorem dX5_getsOne_110 : decode cX5_getsOne 110 = .ok (.iload_n 1, 1) := by decide +kernel
theorem dX5_getsOne_111 : decode cX5_getsOne 111 = .ok (.iload_n 2, 1) := by decide +kernel
theorem dX5_getsOne_112 : decode cX5_getsOne 112 = .ok (.bipush 12, 2) := by decide +kernel
theorem dX5_getsOne_114 : decode cX5_getsOne 114 = .ok (.invokestatic 40, 3) := by decide +kernel
theorem dX5_getsOne_117 : decode cX5_getsOne 117 = .ok (.dup2, 1) := by decide +kernel
theorem dX5_getsOne_118 : decode cX5_getsOne 118 = .ok (.iaload, 1) := by decide +kernel
theorem dX5_getsOne_119 : decode cX5_getsOne 119 = .ok (.iload 6, 2) := by decide +kernel
theorem dX5_getsOne_121 : decode cX5_getsOne 121 = .ok (.iadd, 1) := by decide +kernel
theorem dX5_getsOne_122 : decode cX5_getsOne 122 = .ok (.iastore, 1) := by decide +kernel
theorem dX5_getsOne_123 : decode cX5_getsOne 123 = .ok (.aload_n 0, 1) := by decide +kernel
theorem dX5_getsOne_124 : decode cX5_getsOne 124 = .ok (.getfield 7, 3) := by decide +kernel
theorem dX5_getsOne_127 : decode cX5_getsOne 127 = .ok (.iload_n 1, 1) := by decide +kernel
theorem dX5_getsOne_128 : decode cX5_getsOne 128 = .ok (.iload_n 2, 1) := by decide +kernel
theorem dX5_getsOne_129 : decode cX5_getsOne 129 = .ok (.bipush 11, 2) := by decide +kernel
theorem dX5_getsOne_131 : decode cX5_getsOne 131 = .ok (.aload_n 0, 1) := by decide +kernel
theorem dX5_getsOne_132 : decode cX5_getsOne 132 = .ok (.iload_n 1, 1) := by decide +kernel
theorem dX5_getsOne_133 : decode cX5_getsOne 133 = .ok (.iconst 1, 1) := by decide +kernel
theorem dX5_getsOne_134 : decode cX5_getsOne 134 = .ok (.invokevirtual 52, 3) := by decide +kernel
theorem dX5_getsOne_137 : decode cX5_getsOne 137 = .ok (.iadd, 1) := by decide +kernel
theorem dX5_getsOne_138 : decode cX5_getsOne 138 = .ok (.invokestatic 40, 3) := by decide +kernel
theorem dX5_getsOne_141 : decode cX5_getsOne 141 = .ok (.dup2, 1) := by decide +kernel
theorem dX5_getsOne_142 : decode cX5_getsOne 142 = .ok (.iaload, 1) := by decide +kernel
theorem dX5_getsOne_143 : decode cX5_getsOne 143 = .ok (.aload_n 0, 1) := by decide +kernel
theorem dX5_getsOne_144 : decode cX5_getsOne 144 = .ok (.getfield 31, 3) := by decide +kernel
theorem dX5_getsOne_147 : decode cX5_getsOne 147 = .ok (.iload_n 2, 1) := by decide +kernel
theorem dX5_getsOne_148 : decode cX5_getsOne 148 = .ok (.iaload, 1) := by decide +kernel
theorem dX5_getsOne_149 : decode cX5_getsOne 149 = .ok (.iload 6, 2) := by decide +kernel
theorem dX5_getsOne_151 : decode cX5_getsOne 151 = .ok (.isub, 1) := by decide +kernel
theorem dX5_getsOne_152 : decode cX5_getsOne 152 = .ok (.iadd, 1) := by decide +kernel
theorem dX5_getsOne_153 : decode cX5_getsOne 153 = .ok (.iastore, 1) := by decide +kernel
theorem dX5_getsOne_154 : decode cX5_getsOne 154 = .ok (.return_, 1) := by decide +kernel
theorem dX5_moves_0 : decode cX5_moves 0 = .ok (.aload_n 0, 1) := by decide +kernel
theorem dX5_moves_1 : decode cX5_moves 1 = .ok (.getfield 7, 3) := by decide +kernel
theorem dX5_moves_4 : decode cX5_moves 4 = .ok (.iload_n 1, 1) := by decide +kernel
theorem dX5_moves_5 : decode cX5_moves 5 = .ok (.iload_n 2, 1) := by decide +kernel
theorem dX5_moves_6 : decode cX5_moves 6 = .ok (.iload_n 3, 1) := by decide +kernel
theorem dX5_moves_7 : decode cX5_moves 7 = .ok (.iconst 2, 1) := by decide +kernel
theorem dX5_moves_8 : decode cX5_moves 8 = .ok (.iadd, 1) := by decide +kernel
theorem dX5_moves_9 : decode cX5_moves 9 = .ok (.invokestatic 40, 3) := by decide +kernel
theorem dX5_moves_12 : decode cX5_moves 12 = .ok (.aload_n 0, 1) := by decide +kernel
theorem dX5_moves_13 : decode cX5_moves 13 = .ok (.getfield 7, 3) := by decide +kernel
theorem dX5_moves_16 : decode cX5_moves 16 = .ok (.iload_n 1, 1) := by decide +kernel
theorem dX5_moves_17 : decode cX5_moves 17 = .ok (.iload_n 2, 1) := by decide +kernel
theorem dX5_moves_18 : decode cX5_moves 18 = .ok (.iload_n 3, 1) := by decide +kernel
theorem dX5_moves_19 : decode cX5_moves 19 = .ok (.iconst 1, 1) := by decide +kernel
theorem dX5_moves_20 : decode cX5_moves 20 = .ok (.iadd, 1) := by decide +kernel
theorem dX5_moves_21 : decode cX5_moves 21 = .ok (.invokestatic 40, 3) := by decide +kernel
theorem dX5_moves_24 : decode cX5_moves 24 = .ok (.iaload, 1) := by decide +kernel
theorem dX5_moves_25 : decode cX5_moves 25 = .ok (.iastore, 1) := by decide +kernel
theorem dX5_moves_26 : decode cX5_moves 26 = .ok (.aload_n 0, 1) := by decide +kernel
theorem dX5_moves_27 : decode cX5_moves 27 = .ok (.getfield 7, 3) := by decide +kernel
theorem dX5_moves_30 : decode cX5_moves 30 = .ok (.iload_n 1, 1) := by decide +kernel
theorem dX5_moves_31 : decode cX5_moves 31 = .ok (.iload_n 2, 1) := by decide +kernel
theorem dX5_moves_32 : decode cX5_moves 32 = .ok (.iload_n 3, 1) := by decide +kernel
theorem dX5_moves_33 : decode cX5_moves 33 = .ok (.iconst 1, 1) := by decide +kernel
theorem dX5_moves_34 : decode cX5_moves 34 = .ok (.iadd, 1) := by decide +kernel
theorem dX5_moves_35 : decode cX5_moves 35 = .ok (.invokestatic 40, 3) := by decide +kernel
theorem dX5_moves_38 : decode cX5_moves 38 = .ok (.aload_n 0, 1) := by decide +kernel
theorem dX5_moves_39 : decode cX5_moves 39 = .ok (.getfield 7, 3) := by decide +kernel
theorem dX5_moves_42 : decode cX5_moves 42 = .ok (.iload_n 1, 1) := by decide +kernel
theorem dX5_moves_43 : decode cX5_moves 43 = .ok (.iload_n 2, 1) := by decide +kernel
theorem dX5_moves_44 : decode cX5_moves 44 = .ok (.iload_n 3, 1) := by decide +kernel
theorem dX5_moves_45 : decode cX5_moves 45 = .ok (.invokestatic 40, 3) := by decide +kernel
theorem dX5_moves_48 : decode cX5_moves 48 = .ok (.iaload, 1) := by decide +kernel
theorem dX5_moves_49 : decode cX5_moves 49 = .ok (.iastore, 1) := by decide +kernel
theorem dX5_moves_50 : decode cX5_moves 50 = .ok (.aload_n 0, 1) := by decide +kernel
theorem dX5_moves_51 : decode cX5_moves 51 = .ok (.getfield 7, 3) := by decide +kernel
theorem dX5_moves_54 : decode cX5_moves 54 = .ok (.iload_n 1, 1) := by decide +kernel
theorem dX5_moves_55 : decode cX5_moves 55 = .ok (.iload_n 2, 1) := by decide +kernel
theorem dX5_moves_56 : decode cX5_moves 56 = .ok (.iload_n 3, 1) := by decide +kernel
theorem dX5_moves_57 : decode cX5_moves 57 = .ok (.invokestatic 40, 3) := by decide +kernel
theorem dX5_moves_60 : decode cX5_moves 60 = .ok (.iload 4, 2) := by decide +kernel
theorem dX5_moves_62 : decode cX5_moves 62 = .ok (.iastore, 1) := by decide +kernel
theorem dX5_moves_63 : decode cX5_moves 63 = .ok (.return_, 1) := by decide +kernel
theorem dX5_sums_0 : decode cX5_sums 0 = .ok (.aload_n 0, 1) := by decide +kernel
theorem dX5_sums_1 : decode cX5_sums 1 = .ok (.getfield 13, 3) := by decide +kernel
theorem dX5_sums_4 : decode cX5_sums 4 = .ok (.iload_n 2, 1) := by decide +kernel
theorem dX5_sums_5 : decode cX5_sums 5 = .ok (.iaload, 1) := by decide +kernel
theorem dX5_sums_6 : decode cX5_sums 6 = .ok (.aload_n 0, 1) := by decide +kernel
theorem dX5_sums_7 : decode cX5_sums 7 = .ok (.getfield 7, 3) := by decide +kernel
theorem dX5_sums_10 : decode cX5_sums 10 = .ok (.iload_n 1, 1) := by decide +kernel
theorem dX5_sums_11 : decode cX5_sums 11 = .ok (.iload_n 2, 1) := by decide +kernel
theorem dX5_sums_12 : decode cX5_sums 12 = .ok (.bipush 10, 2) := by decide +kernel
theorem dX5_sums_14 : decode cX5_sums 14 = .ok (.invokestatic 40, 3) := by decide +kernel
theorem dX5_sums_17 : decode cX5_sums 17 = .ok (.iaload, 1) := by decide +kernel
theorem dX5_sums_18 : decode cX5_sums 18 = .ok (.isub, 1) := by decide +kernel
theorem dX5_sums_19 : decode cX5_sums 19 = .ok (.istore_n 3, 1) := by decide +kernel
theorem dX5_sums_20 : decode cX5_sums 20 = .ok (.aload_n 0, 1) := by decide +kernel
theorem dX5_sums_21 : decode cX5_sums 21 = .ok (.getfield 7, 3) := by decide +kernel
theorem dX5_sums_24 : decode cX5_sums 24 = .ok (.iload_n 1, 1) := by decide +kernel
theorem dX5_sums_25 : decode cX5_sums 25 = .ok (.iload_n 2, 1) := by decide +kernel
theorem dX5_sums_26 : decode cX5_sums 26 = .ok (.bipush 32, 2) := by decide +kernel
theorem dX5_sums_28 : decode cX5_sums 28 = .ok (.invokestatic 40, 3) := by decide +kernel
theorem dX5_sums_31 : decode cX5_sums 31 = .ok (.dup2, 1) := by decide +kernel
theorem dX5_sums_32 : decode cX5_sums 32 = .ok (.iaload, 1) := by decide +kernel
theorem dX5_sums_33 : decode cX5_sums 33 = .ok (.aload_n 0, 1) := by decide +kernel
theorem dX5_sums_34 : decode cX5_sums 34 = .ok (.iload_n 1, 1) := by decide +kernel
theorem dX5_sums_35 : decode cX5_sums 35 = .ok (.iload_n 2, 1) := by decide +kernel
theorem dX5_sums_36 : decode cX5_sums 36 = .ok (.invokevirtual 56, 3) := by decide +kernel
theorem dX5_sums_39 : decode cX5_sums 39 = .ok (.iadd, 1) := by decide +kernel
theorem dX5_sums_40 : decode cX5_sums 40 = .ok (.iastore, 1) := by decide +kernel
theorem dX5_sums_41 : decode cX5_sums 41 = .ok (.aload_n 0, 1) := by decide +kernel
theorem dX5_sums_42 : decode cX5_sums 42 = .ok (.getfield 7, 3) := by decide +kernel
theorem dX5_sums_45 : decode cX5_sums 45 = .ok (.iload_n 1, 1) := by decide +kernel
theorem dX5_sums_46 : decode cX5_sums 46 = .ok (.iload_n 2, 1) := by decide +kernel
theorem dX5_sums_47 : decode cX5_sums 47 = .ok (.bipush 33, 2) := by decide +kernel
theorem dX5_sums_49 : decode cX5_sums 49 = .ok (.invokestatic 40, 3) := by decide +kernel
theorem dX5_sums_52 : decode cX5_sums 52 = .ok (.dup2, 1) := by decide +kernel
theorem dX5_sums_53 : decode cX5_sums 53 = .ok (.iaload, 1) := by decide +kernel
theorem dX5_sums_54 : decode cX5_sums 54 = .ok (.iload_n 3, 1) := by decide +kernel
theorem dX5_sums_55 : decode cX5_sums 55 = .ok (.ifCond .le 7, 3) := by decide +kernel
theorem dX5_sums_58 : decode cX5_sums 58 = .ok (.iload_n 3, 1) := by decide +kernel
theorem dX5_sums_59 : decode cX5_sums 59 = .ok (.goto 4, 3) := by decide +kernel
theorem dX5_sums_62 : decode cX5_sums 62 = .ok (.iconst 0, 1) := by decide +kernel
theorem dX5_sums_63 : decode cX5_sums 63 = .ok (.iadd, 1) := by decide +kernel
theorem dX5_sums_64 : decode cX5_sums 64 = .ok (.iastore, 1) := by decide +kernel
theorem dX5_sums_65 : decode cX5_sums 65 = .ok (.aload_n 0, 1) := by decide +kernel
theorem dX5_sums_66 : decode cX5_sums 66 = .ok (.getfield 7, 3) := by decide +kernel
theorem dX5_sums_69 : decode cX5_sums 69 = .ok (.iload_n 1, 1) := by decide +kernel
theorem dX5_sums_70 : decode cX5_sums 70 = .ok (.iload_n 2, 1) := by decide +kernel
theorem dX5_sums_71 : decode cX5_sums 71 = .ok (.bipush 31, 2) := by decide +kernel
theorem dX5_sums_73 : decode cX5_sums 73 = .ok (.invokestatic 40, 3) := by decide +kernel
theorem dX5_sums_76 : decode cX5_sums 76 = .ok (.iaload, 1) := by decide +kernel
theorem dX5_sums_77 : decode cX5_sums 77 = .ok (.istore 4, 2) := by decide +kernel
theorem dX5_sums_79 : decode cX5_sums 79 = .ok (.aload_n 0, 1) := by decide +kernel
theorem dX5_sums_80 : decode cX5_sums 80 = .ok (.getfield 7, 3) := by decide +kernel
theorem dX5_sums_83 : decode cX5_sums 83 = .ok (.iload_n 1, 1) := by decide +kernel
theorem dX5_sums_84 : decode cX5_sums 84 = .ok (.iload_n 2, 1) := by decide +kernel
theorem dX5_sums_85 : decode cX5_sums 85 = .ok (.bipush 34, 2) := by decide +kernel
theorem dX5_sums_87 : decode cX5_sums 87 = .ok (.invokestatic 40, 3) := by decide +kernel
theorem dX5_sums_90 : decode cX5_sums 90 = .ok (.dup2, 1) := by decide +kernel
theorem dX5_sums_91 : decode cX5_sums 91 = .ok (.iaload, 1) := by decide +kernel
theorem dX5_sums_92 : decode cX5_sums 92 = .ok (.aload_n 0, 1) := by decide +kernel
theorem dX5_sums_93 : decode cX5_sums 93 = .ok (.getfield 31, 3) := by decide +kernel
theorem dX5_sums_96 : decode cX5_sums 96 = .ok (.iload_n 2, 1) := by decide +kernel
theorem dX5_sums_97 : decode cX5_sums 97 = .ok (.iaload, 1) := by decide +kernel
theorem dX5_sums_98 : decode cX5_sums 98 = .ok (.ifCond .le 8, 3) := by decide +kernel
theorem dX5_sums_101 : decode cX5_sums 101 = .ok (.iload 4, 2) := by decide +kernel
theorem dX5_sums_103 : decode cX5_sums 103 = .ok (.ifCond .lt 17, 3) := by decide +kernel
theorem dX5_sums_106 : decode cX5_sums 106 = .ok (.aload_n 0, 1) := by decide +kernel
theorem dX5_sums_107 : decode cX5_sums 107 = .ok (.getfield 34, 3) := by decide +kernel
theorem dX5_sums_110 : decode cX5_sums 110 = .ok (.iload_n 2, 1) := by decide +kernel
theorem dX5_sums_111 : decode cX5_sums 111 = .ok (.iaload, 1) := by decide +kernel
theorem dX5_sums_112 : decode cX5_sums 112 = .ok (.ifCond .le 12, 3) := by decide +kernel
theorem dX5_sums_115 : decode cX5_sums 115 = .ok (.iload 4, 2) := by decide +kernel
theorem dX5_sums_117 : decode cX5_sums 117 = .ok (.ifCond .le 7, 3) := by decide +kernel
theorem dX5_sums_120 : decode cX5_sums 120 = .ok (.iconst 1, 1) := by decide +kernel
theorem dX5_sums_121 : decode cX5_sums 121 = .ok (.goto 4, 3) := by decide +kernel
theorem dX5_sums_124 : decode cX5_sums 124 = .ok (.iconst 0, 1) := by decide +kernel
theorem dX5_sums_125 : decode cX5_sums 125 = .ok (.iadd, 1) := by decide +kernel
theorem dX5_sums_126 : decode cX5_sums 126 = .ok (.iastore, 1) := by decide +kernel
theorem dX5_sums_127 : decode cX5_sums 127 = .ok (.aload_n 0, 1) := by decide +kernel
theorem dX5_sums_128 : decode cX5_sums 128 = .ok (.getfield 7, 3) := by decide +kernel
theorem dX5_sums_131 : decode cX5_sums 131 = .ok (.iload_n 1, 1) := by decide +kernel
theorem dX5_sums_132 : decode cX5_sums 132 = .ok (.iload_n 2, 1) := by decide +kernel
theorem dX5_sums_133 : decode cX5_sums 133 = .ok (.bipush 31, 2) := by decide +kernel
theorem dX5_sums_135 : decode cX5_sums 135 = .ok (.invokestatic 40, 3) := by decide +kernel
theorem dX5_sums_138 : decode cX5_sums 138 = .ok (.aload_n 0, 1) := by decide +kernel
theorem dX5_sums_139 : decode cX5_sums 139 = .ok (.getfield 31, 3) := by decide +kernel
theorem dX5_sums_142 : decode cX5_sums 142 = .ok (.iload_n 2, 1) := by decide +kernel
theorem dX5_sums_143 : decode cX5_sums 143 = .ok (.iaload, 1) := by decide +kernel
theorem dX5_sums_144 : decode cX5_sums 144 = .ok (.ifCond .le 7, 3) := by decide +kernel
theorem dX5_sums_147 : decode cX5_sums 147 = .ok (.iconst 1, 1) := by decide +kernel
theorem dX5_sums_148 : decode cX5_sums 148 = .ok (.goto 18, 3) := by decide +kernel
theorem dX5_sums_151 : decode cX5_sums 151 = .ok (.aload_n 0, 1) := by decide +kernel
theorem dX5_sums_152 : decode cX5_sums 152 = .ok (.getfield 34, 3) := by decide +kernel
theorem dX5_sums_155 : decode cX5_sums 155 = .ok (.iload_n 2, 1) := by decide +kernel
theorem dX5_sums_156 : decode cX5_sums 156 = .ok (.iaload, 1) := by decide +kernel
theorem dX5_sums_157 : decode cX5_sums 157 = .ok (.ifCond .le 7, 3) := by decide +kernel
theorem dX5_sums_160 : decode cX5_sums 160 = .ok (.iconst (-1), 1) := by decide +kernel
theorem dX5_sums_161 : decode cX5_sums 161 = .ok (.goto 5, 3) := by decide +kernel
theorem dX5_sums_164 : decode cX5_sums 164 = .ok (.iload 4, 2) := by decide +kernel
theorem dX5_sums_166 : decode cX5_sums 166 = .ok (.iastore, 1) := by decide +kernel
theorem dX5_sums_167 : decode cX5_sums 167 = .ok (.aload_n 0, 1) := by decide +kernel
theorem dX5_sums_168 : decode cX5_sums 168 = .ok (.iload_n 1, 1) := by decide +kernel
theorem dX5_sums_169 : decode cX5_sums 169 = .ok (.iload_n 2, 1) := by decide +kernel
theorem dX5_sums_170 : decode cX5_sums 170 = .ok (.bipush 25, 2) := by decide +kernel
theorem dX5_sums_172 : decode cX5_sums 172 = .ok (.aload_n 0, 1) := by decide +kernel
theorem dX5_sums_173 : decode cX5_sums 173 = .ok (.getfield 31, 3) := by decide +kernel
theorem dX5_sums_176 : decode cX5_sums 176 = .ok (.iload_n 2, 1) := by decide +kernel
theorem dX5_sums_177 : decode cX5_sums 177 = .ok (.iaload, 1) := by decide +kernel
theorem dX5_sums_178 : decode cX5_sums 178 = .ok (.invokevirtual 101, 3) := by decide +kernel
theorem dX5_sums_181 : decode cX5_sums 181 = .ok (.aload_n 0, 1) := by decide +kernel
theorem dX5_sums_182 : decode cX5_sums 182 = .ok (.iload_n 1, 1) := by decide +kernel
theorem dX5_sums_183 : decode cX5_sums 183 = .ok (.iload_n 2, 1) := by decide +kernel
theorem dX5_sums_184 : decode cX5_sums 184 = .ok (.bipush 28, 2) := by decide +kernel
theorem dX5_sums_186 : decode cX5_sums 186 = .ok (.aload_n 0, 1) := by decide +kernel
theorem dX5_sums_187 : decode cX5_sums 187 = .ok (.getfield 34, 3) := by decide +kernel
theorem dX5_sums_190 : decode cX5_sums 190 = .ok (.iload_n 2, 1) := by decide +kernel
theorem dX5_sums_191 : decode cX5_sums 191 = .ok (.iaload, 1) := by decide +kernel
theorem dX5_sums_192 : decode cX5_sums 192 = .ok (.invokevirtual 101, 3) := by decide +kernel
theorem dX5_sums_195 : decode cX5_sums 195 = .ok (.iconst 5, 1) := by decide +kernel
theorem dX5_sums_196 : decode cX5_sums 196 = .ok (.istore 5, 2) := by decide +kernel
theorem dX5_sums_198 : decode cX5_sums 198 = .ok (.iload 5, 2) := by decide +kernel
theorem dX5_sums_200 : decode cX5_sums 200 = .ok (.ifCond .le 41, 3) := by decide +kernel
theorem dX5_sums_203 : decode cX5_sums 203 = .ok (.aload_n 0, 1) := by decide +kernel
theorem dX5_sums_204 : decode cX5_sums 204 = .ok (.getfield 7, 3) := by decide +kernel
theorem dX5_sums_207 : decode cX5_sums 207 = .ok (.iload_n 1, 1) := by decide +kernel
theorem dX5_sums_208 : decode cX5_sums 208 = .ok (.iload_n 2, 1) := by decide +kernel
theorem dX5_sums_209 : decode cX5_sums 209 = .ok (.bipush 18, 2) := by decide +kernel
theorem dX5_sums_211 : decode cX5_sums 211 = .ok (.iload 5, 2) := by decide +kernel
theorem dX5_sums_213 : decode cX5_sums 213 = .ok (.iadd, 1) := by decide +kernel
theorem dX5_sums_214 : decode cX5_sums 214 = .ok (.invokestatic 40, 3) := by decide +kernel
theorem dX5_sums_217 : decode cX5_sums 217 = .ok (.aload_n 0, 1) := by decide +kernel
theorem dX5_sums_218 : decode cX5_sums 218 = .ok (.getfield 7, 3) := by decide +kernel
theorem dX5_sums_221 : decode cX5_sums 221 = .ok (.iload_n 1, 1) := by decide +kernel
theorem dX5_sums_222 : decode cX5_sums 222 = .ok (.iload_n 2, 1) := by decide +kernel
theorem dX5_sums_223 : decode cX5_sums 223 = .ok (.bipush 18, 2) := by decide +kernel
theorem dX5_sums_225 : decode cX5_sums 225 = .ok (.iload 5, 2) := by decide +kernel
theorem dX5_sums_227 : decode cX5_sums 227 = .ok (.iadd, 1) := by decide +kernel
theorem dX5_sums_228 : decode cX5_sums 228 = .ok (.iconst 1, 1) := by decide +kernel
theorem dX5_sums_229 : decode cX5_sums 229 = .ok (.isub, 1) := by decide +kernel
theorem dX5_sums_230 : decode cX5_sums 230 = .ok (.invokestatic 40, 3) := by decide +kernel
theorem dX5_sums_233 : decode cX5_sums 233 = .ok (.iaload, 1) := by decide +kernel
theorem dX5_sums_234 : decode cX5_sums 234 = .ok (.iastore, 1) := by decide +kernel
theorem dX5_sums_235 : decode cX5_sums 235 = .ok (.iinc 5 (-1), 3) := by decide +kernel
theorem dX5_sums_238 : decode cX5_sums 238 = .ok (.goto (-40), 3) := by decide +kernel
theorem dX5_sums_241 : decode cX5_sums 241 = .ok (.aload_n 0, 1) := by decide +kernel
theorem dX5_sums_242 : decode cX5_sums 242 = .ok (.getfield 7, 3) := by decide +kernel
theorem dX5_sums_245 : decode cX5_sums 245 = .ok (.iload_n 1, 1) := by decide +kernel
theorem dX5_sums_246 : decode cX5_sums 246 = .ok (.iload_n 2, 1) := by decide +kernel
theorem dX5_sums_247 : decode cX5_sums 247 = .ok (.bipush 18, 2) := by decide +kernel
theorem dX5_sums_249 : decode cX5_sums 249 = .ok (.invokestatic 40, 3) := by decide +kernel
theorem dX5_sums_252 : decode cX5_sums 252 = .ok (.aload_n 0, 1) := by decide +kernel
theorem dX5_sums_253 : decode cX5_sums 253 = .ok (.getfield 13, 3) := by decide +kernel
theorem dX5_sums_256 : decode cX5_sums 256 = .ok (.iload_n 2, 1) := by decide +kernel
theorem dX5_sums_257 : decode cX5_sums 257 = .ok (.iaload, 1) := by decide +kernel
theorem dX5_sums_258 : decode cX5_sums 258 = .ok (.iastore, 1) := by decide +kernel
theorem dX5_sums_259 : decode cX5_sums 259 = .ok (.aload_n 0, 1) := by decide +kernel
theorem dX5_sums_260 : decode cX5_sums 260 = .ok (.getfield 7, 3) := by decide +kernel
theorem dX5_sums_263 : decode cX5_sums 263 = .ok (.iload_n 1, 1) := by decide +kernel
theorem dX5_sums_264 : decode cX5_sums 264 = .ok (.iload_n 2, 1) := by decide +kernel
theorem dX5_sums_265 : decode cX5_sums 265 = .ok (.bipush 24, 2) := by decide +kernel
theorem dX5_sums_267 : decode cX5_sums 267 = .ok (.invokestatic 40, 3) := by decide +kernel
theorem dX5_sums_270 : decode cX5_sums 270 = .ok (.dup2, 1) := by decide +kernel
theorem dX5_sums_271 : decode cX5_sums 271 = .ok (.iaload, 1) := by decide +kernel
theorem dX5_sums_272 : decode cX5_sums 272 = .ok (.aload_n 0, 1) := by decide +kernel
theorem dX5_sums_273 : decode cX5_sums 273 = .ok (.getfield 7, 3) := by decide +kernel
theorem dX5_sums_276 : decode cX5_sums 276 = .ok (.iload_n 1, 1) := by decide +kernel
theorem dX5_sums_277 : decode cX5_sums 277 = .ok (.iload_n 2, 1) := by decide +kernel
theorem dX5_sums_278 : decode cX5_sums 278 = .ok (.bipush 24, 2) := by decide +kernel
theorem dX5_sums_280 : decode cX5_sums 280 = .ok (.invokestatic 40, 3) := by decide +kernel
theorem dX5_sums_283 : decode cX5_sums 283 = .ok (.iaload, 1) := by decide +kernel
theorem dX5_sums_284 : decode cX5_sums 284 = .ok (.bipush 6, 2) := by decide +kernel
theorem dX5_sums_286 : decode cX5_sums 286 = .ok (.if_icmp .ge 7, 3) := by decide +kernel
theorem dX5_sums_289 : decode cX5_sums 289 = .ok (.iconst 1, 1) := by decide +kernel
theorem dX5_sums_290 : decode cX5_sums 290 = .ok (.goto 4, 3) := by decide +kernel
theorem dX5_sums_293 : decode cX5_sums 293 = .ok (.iconst 0, 1) := by decide +kernel
theorem dX5_sums_294 : decode cX5_sums 294 = .ok (.iadd, 1) := by decide +kernel
theorem dX5_sums_295 : decode cX5_sums 295 = .ok (.iastore, 1) := by decide +kernel
theorem dX5_sums_296 : decode cX5_sums 296 = .ok (.iconst 0, 1) := by decide +kernel
theorem dX5_sums_297 : decode cX5_sums 297 = .ok (.istore 5, 2) := by decide +kernel
theorem dX5_sums_299 : decode cX5_sums 299 = .ok (.iload 5, 2) := by decide +kernel
theorem dX5_sums_301 : decode cX5_sums 301 = .ok (.aload_n 0, 1) := by decide +kernel
theorem dX5_sums_302 : decode cX5_sums 302 = .ok (.getfield 7, 3) := by decide +kernel
theorem dX5_sums_305 : decode cX5_sums 305 = .ok (.iload_n 1, 1) := by decide +kernel
theorem dX5_sums_306 : decode cX5_sums 306 = .ok (.iload_n 2, 1) := by decide +kernel
theorem dX5_sums_307 : decode cX5_sums 307 = .ok (.bipush 9, 2) := by decide +kernel
theorem dX5_sums_309 : decode cX5_sums 309 = .ok (.invokestatic 40, 3) := by decide +kernel
theorem dX5_sums_312 : decode cX5_sums 312 = .ok (.iaload, 1) := by decide +kernel
theorem dX5_sums_313 : decode cX5_sums 313 = .ok (.if_icmp .ge 84, 3) := by decide +kernel
theorem dX5_sums_316 : decode cX5_sums 316 = .ok (.bipush 17, 2) := by decide +kernel
theorem dX5_sums_318 : decode cX5_sums 318 = .ok (.istore 6, 2) := by decide +kernel
theorem dX5_sums_320 : decode cX5_sums 320 = .ok (.iload 6, 2) := by decide +kernel
theorem dX5_sums_322 : decode cX5_sums 322 = .ok (.ifCond .le 43, 3) := by decide +kernel
theorem dX5_sums_325 : decode cX5_sums 325 = .ok (.aload_n 0, 1) := by decide +kernel
theorem dX5_sums_326 : decode cX5_sums 326 = .ok (.getfield 7, 3) := by decide +kernel
theorem dX5_sums_329 : decode cX5_sums 329 = .ok (.iload_n 1, 1) := by decide +kernel
theorem dX5_sums_330 : decode cX5_sums 330 = .ok (.iload_n 2, 1) := by decide +kernel
theorem dX5_sums_331 : decode cX5_sums 331 = .ok (.iload 5, 2) := by decide +kernel
theorem dX5_sums_333 : decode cX5_sums 333 = .ok (.iconst 3, 1) := by decide +kernel
theorem dX5_sums_334 : decode cX5_sums 334 = .ok (.iload 6, 2) := by decide +kernel
theorem dX5_sums_336 : decode cX5_sums 336 = .ok (.iadd, 1) := by decide +kernel
theorem dX5_sums_337 : decode cX5_sums 337 = .ok (.invokestatic 63, 3) := by decide +kernel
theorem dX5_sums_340 : decode cX5_sums 340 = .ok (.aload_n 0, 1) := by decide +kernel
theorem dX5_sums_341 : decode cX5_sums 341 = .ok (.getfield 7, 3) := by decide +kernel
theorem dX5_sums_344 : decode cX5_sums 344 = .ok (.iload_n 1, 1) := by decide +kernel
theorem dX5_sums_345 : decode cX5_sums 345 = .ok (.iload_n 2, 1) := by decide +kernel
theorem dX5_sums_346 : decode cX5_sums 346 = .ok (.iload 5, 2) := by decide +kernel
theorem dX5_sums_348 : decode cX5_sums 348 = .ok (.iconst 3, 1) := by decide +kernel
theorem dX5_sums_349 : decode cX5_sums 349 = .ok (.iload 6, 2) := by decide +kernel
theorem dX5_sums_351 : decode cX5_sums 351 = .ok (.iadd, 1) := by decide +kernel
theorem dX5_sums_352 : decode cX5_sums 352 = .ok (.iconst 1, 1) := by decide +kernel
theorem dX5_sums_353 : decode cX5_sums 353 = .ok (.isub, 1) := by decide +kernel
theorem dX5_sums_354 : decode cX5_sums 354 = .ok (.invokestatic 63, 3) := by decide +kernel
theorem dX5_sums_357 : decode cX5_sums 357 = .ok (.iaload, 1) := by decide +kernel
theorem dX5_sums_358 : decode cX5_sums 358 = .ok (.iastore, 1) := by decide +kernel
theorem dX5_sums_359 : decode cX5_sums 359 = .ok (.iinc 6 (-1), 3) := by decide +kernel
theorem dX5_sums_362 : decode cX5_sums 362 = .ok (.goto (-42), 3) := by decide +kernel
theorem dX5_sums_365 : decode cX5_sums 365 = .ok (.aload_n 0, 1) := by decide +kernel
theorem dX5_sums_366 : decode cX5_sums 366 = .ok (.getfield 7, 3) := by decide +kernel
theorem dX5_sums_369 : decode cX5_sums 369 = .ok (.iload_n 1, 1) := by decide +kernel
theorem dX5_sums_370 : decode cX5_sums 370 = .ok (.iload_n 2, 1) := by decide +kernel
theorem dX5_sums_371 : decode cX5_sums 371 = .ok (.iload 5, 2) := by decide +kernel
theorem dX5_sums_373 : decode cX5_sums 373 = .ok (.iconst 3, 1) := by decide +kernel
theorem dX5_sums_374 : decode cX5_sums 374 = .ok (.invokestatic 63, 3) := by decide +kernel
theorem dX5_sums_377 : decode cX5_sums 377 = .ok (.aload_n 0, 1) := by decide +kernel
theorem dX5_sums_378 : decode cX5_sums 378 = .ok (.getfield 7, 3) := by decide +kernel
theorem dX5_sums_381 : decode cX5_sums 381 = .ok (.iload_n 1, 1) := by decide +kernel
theorem dX5_sums_382 : decode cX5_sums 382 = .ok (.iload_n 2, 1) := by decide +kernel
theorem dX5_sums_383 : decode cX5_sums 383 = .ok (.iload 5, 2) := by decide +kernel
theorem dX5_sums_385 : decode cX5_sums 385 = .ok (.iconst 2, 1) := by decide +kernel
theorem dX5_sums_386 : decode cX5_sums 386 = .ok (.invokestatic 63, 3) := by decide +kernel
theorem dX5_sums_389 : decode cX5_sums 389 = .ok (.iaload, 1) := by decide +kernel
theorem dX5_sums_390 : decode cX5_sums 390 = .ok (.iastore, 1) := by decide +kernel
theorem dX5_sums_391 : decode cX5_sums 391 = .ok (.iinc 5 1, 3) := by decide +kernel
theorem dX5_sums_394 : decode cX5_sums 394 = .ok (.goto (-95), 3) := by decide +kernel
theorem dX5_sums_397 : decode cX5_sums 397 = .ok (.iconst 0, 1) := by decide +kernel
theorem dX5_sums_398 : decode cX5_sums 398 = .ok (.istore 5, 2) := by decide +kernel
theorem dX5_sums_400 : decode cX5_sums 400 = .ok (.iload 5, 2) := by decide +kernel
theorem dX5_sums_402 : decode cX5_sums 402 = .ok (.bipush 6, 2) := by decide +kernel
theorem dX5_sums_404 : decode cX5_sums 404 = .ok (.if_icmp .ge 41, 3) := by decide +kernel
theorem dX5_sums_407 : decode cX5_sums 407 = .ok (.aload_n 0, 1) := by decide +kernel
theorem dX5_sums_408 : decode cX5_sums 408 = .ok (.getfield 7, 3) := by decide +kernel
theorem dX5_sums_411 : decode cX5_sums 411 = .ok (.iload_n 1, 1) := by decide +kernel
theorem dX5_sums_412 : decode cX5_sums 412 = .ok (.iload_n 2, 1) := by decide +kernel
theorem dX5_sums_413 : decode cX5_sums 413 = .ok (.bipush 11, 2) := by decide +kernel
theorem dX5_sums_415 : decode cX5_sums 415 = .ok (.iload 5, 2) := by decide +kernel
theorem dX5_sums_417 : decode cX5_sums 417 = .ok (.iadd, 1) := by decide +kernel
theorem dX5_sums_418 : decode cX5_sums 418 = .ok (.invokestatic 40, 3) := by decide +kernel
theorem dX5_sums_421 : decode cX5_sums 421 = .ok (.aload_n 0, 1) := by decide +kernel
theorem dX5_sums_422 : decode cX5_sums 422 = .ok (.getfield 7, 3) := by decide +kernel
theorem dX5_sums_425 : decode cX5_sums 425 = .ok (.iload_n 1, 1) := by decide +kernel
theorem dX5_sums_426 : decode cX5_sums 426 = .ok (.iload_n 2, 1) := by decide +kernel
theorem dX5_sums_427 : decode cX5_sums 427 = .ok (.bipush 11, 2) := by decide +kernel
theorem dX5_sums_429 : decode cX5_sums 429 = .ok (.iload 5, 2) := by decide +kernel
theorem dX5_sums_431 : decode cX5_sums 431 = .ok (.iadd, 1) := by decide +kernel
theorem dX5_sums_432 : decode cX5_sums 432 = .ok (.iconst 1, 1) := by decide +kernel
theorem dX5_sums_433 : decode cX5_sums 433 = .ok (.iadd, 1) := by decide +kernel
theorem dX5_sums_434 : decode cX5_sums 434 = .ok (.invokestatic 40, 3) := by decide +kernel
theorem dX5_sums_437 : decode cX5_sums 437 = .ok (.iaload, 1) := by decide +kernel
theorem dX5_sums_438 : decode cX5_sums 438 = .ok (.iastore, 1) := by decide +kernel
theorem dX5_sums_439 : decode cX5_sums 439 = .ok (.iinc 5 1, 3) := by decide +kernel
theorem dX5_sums_442 : decode cX5_sums 442 = .ok (.goto (-42), 3) := by decide +kernel
theorem dX5_sums_445 : decode cX5_sums 445 = .ok (.aload_n 0, 1) := by decide +kernel
theorem dX5_sums_446 : decode cX5_sums 446 = .ok (.getfield 7, 3) := by decide +kernel
theorem dX5_sums_449 : decode cX5_sums 449 = .ok (.iload_n 1, 1) := by decide +kernel
theorem dX5_sums_450 : decode cX5_sums 450 = .ok (.iload_n 2, 1) := by decide +kernel
theorem dX5_sums_451 : decode cX5_sums 451 = .ok (.bipush 17, 2) := by decide +kernel
theorem dX5_sums_453 : decode cX5_sums 453 = .ok (.invokestatic 40, 3) := by decide +kernel
theorem dX5_sums_456 : decode cX5_sums 456 = .ok (.iconst 0, 1) := by decide +kernel
theorem dX5_sums_457 : decode cX5_sums 457 = .ok (.iastore, 1) := by decide +kernel
theorem dX5_sums_458 : decode cX5_sums 458 = .ok (.return_, 1) := by decide +kernel
theorem dX5_does_0 : decode cX5_does 0 = .ok (.aload_n 0, 1) := by decide +kernel
theorem dX5_does_1 : decode cX5_does 1 = .ok (.iload_n 1, 1) := by decide +kernel
theorem dX5_does_2 : decode cX5_does 2 = .ok (.invokevirtual 105, 3) := by decide +kernel
theorem dX5_does_5 : decode cX5_does 5 = .ok (.iconst 0, 1) := by decide +kernel
theorem dX5_does_6 : decode cX5_does 6 = .ok (.istore_n 2, 1) := by decide +kernel
theorem dX5_does_7 : decode cX5_does 7 = .ok (.iload_n 2, 1) := by decide +kernel
theorem dX5_does_8 : decode cX5_does 8 = .ok (.aload_n 0, 1) := by decide +kernel
theorem dX5_does_9 : decode cX5_does 9 = .ok (.iload_n 1, 1) := by decide +kernel
theorem dX5_does_10 : decode cX5_does 10 = .ok (.bipush 7, 2) := by decide +kernel
theorem dX5_does_12 : decode cX5_does 12 = .ok (.invokevirtual 52, 3) := by decide +kernel
theorem dX5_does_15 : decode cX5_does 15 = .ok (.if_icmp .ge 15, 3) := by decide +kernel
theorem dX5_does_18 : decode cX5_does 18 = .ok (.aload_n 0, 1) := by decide +kernel
theorem dX5_does_19 : decode cX5_does 19 = .ok (.iload_n 1, 1) := by decide +kernel
theorem dX5_does_20 : decode cX5_does 20 = .ok (.iload_n 2, 1) := by decide +kernel
theorem dX5_does_21 : decode cX5_does 21 = .ok (.invokevirtual 109, 3) := by decide +kernel
theorem dX5_does_24 : decode cX5_does 24 = .ok (.iinc 2 1, 3) := by decide +kernel
theorem dX5_does_27 : decode cX5_does 27 = .ok (.goto (-20), 3) := by decide +kernel
theorem dX5_does_30 : decode cX5_does 30 = .ok (.iconst 0, 1) := by decide +kernel
theorem dX5_does_31 : decode cX5_does 31 = .ok (.istore_n 2, 1) := by decide +kernel
theorem dX5_does_32 : decode cX5_does 32 = .ok (.iload_n 2, 1) := by decide +kernel
theorem dX5_does_33 : decode cX5_does 33 = .ok (.aload_n 0, 1) := by decide +kernel
theorem dX5_does_34 : decode cX5_does 34 = .ok (.iload_n 1, 1) := by decide +kernel
theorem dX5_does_35 : decode cX5_does 35 = .ok (.bipush 7, 2) := by decide +kernel
theorem dX5_does_37 : decode cX5_does 37 = .ok (.invokevirtual 52, 3) := by decide +kernel
theorem dX5_does_40 : decode cX5_does 40 = .ok (.if_icmp .ge 15, 3) := by decide +kernel
theorem dX5_does_43 : decode cX5_does 43 = .ok (.aload_n 0, 1) := by decide +kernel
theorem dX5_does_44 : decode cX5_does 44 = .ok (.iload_n 1, 1) := by decide +kernel
theorem dX5_does_45 : decode cX5_does 45 = .ok (.iload_n 2, 1) := by decide +kernel
theorem dX5_does_46 : decode cX5_does 46 = .ok (.invokevirtual 112, 3) := by decide +kernel
theorem dX5_does_49 : decode cX5_does 49 = .ok (.iinc 2 1, 3) := by decide +kernel
theorem dX5_does_52 : decode cX5_does 52 = .ok (.goto (-20), 3) := by decide +kernel
theorem dX5_does_55 : decode cX5_does 55 = .ok (.aload_n 0, 1) := by decide +kernel
theorem dX5_does_56 : decode cX5_does 56 = .ok (.iload_n 1, 1) := by decide +kernel
theorem dX5_does_57 : decode cX5_does 57 = .ok (.invokevirtual 115, 3) := by decide +kernel
theorem dX5_does_60 : decode cX5_does 60 = .ok (.aload_n 0, 1) := by decide +kernel
theorem dX5_does_61 : decode cX5_does 61 = .ok (.iload_n 1, 1) := by decide +kernel
theorem dX5_does_62 : decode cX5_does 62 = .ok (.iconst 5, 1) := by decide +kernel
theorem dX5_does_63 : decode cX5_does 63 = .ok (.invokevirtual 52, 3) := by decide +kernel
theorem dX5_does_66 : decode cX5_does 66 = .ok (.aload_n 0, 1) := by decide +kernel
theorem dX5_does_67 : decode cX5_does 67 = .ok (.iload_n 1, 1) := by decide +kernel
theorem dX5_does_68 : decode cX5_does 68 = .ok (.iconst 3, 1) := by decide +kernel
theorem dX5_does_69 : decode cX5_does 69 = .ok (.invokevirtual 52, 3) := by decide +kernel
theorem dX5_does_72 : decode cX5_does 72 = .ok (.iadd, 1) := by decide +kernel
theorem dX5_does_73 : decode cX5_does 73 = .ok (.istore_n 2, 1) := by decide +kernel
theorem dX5_does_74 : decode cX5_does 74 = .ok (.aload_n 0, 1) := by decide +kernel
theorem dX5_does_75 : decode cX5_does 75 = .ok (.iload_n 1, 1) := by decide +kernel
theorem dX5_does_76 : decode cX5_does 76 = .ok (.iconst 5, 1) := by decide +kernel
theorem dX5_does_77 : decode cX5_does 77 = .ok (.iload_n 2, 1) := by decide +kernel
theorem dX5_does_78 : decode cX5_does 78 = .ok (.aload_n 0, 1) := by decide +kernel
theorem dX5_does_79 : decode cX5_does 79 = .ok (.iload_n 1, 1) := by decide +kernel
theorem dX5_does_80 : decode cX5_does 80 = .ok (.iconst 2, 1) := by decide +kernel
theorem dX5_does_81 : decode cX5_does 81 = .ok (.invokevirtual 52, 3) := by decide +kernel
theorem dX5_does_84 : decode cX5_does 84 = .ok (.if_icmp .le 12, 3) := by decide +kernel
theorem dX5_does_87 : decode cX5_does 87 = .ok (.aload_n 0, 1) := by decide +kernel
theorem dX5_does_88 : decode cX5_does 88 = .ok (.iload_n 1, 1) := by decide +kernel
theorem dX5_does_89 : decode cX5_does 89 = .ok (.iconst 2, 1) := by decide +kernel
theorem dX5_does_90 : decode cX5_does 90 = .ok (.invokevirtual 52, 3) := by decide +kernel
theorem dX5_does_93 : decode cX5_does 93 = .ok (.goto 4, 3) := by decide +kernel
theorem dX5_does_96 : decode cX5_does 96 = .ok (.iload_n 2, 1) := by decide +kernel
theorem dX5_does_97 : decode cX5_does 97 = .ok (.invokevirtual 97, 3) := by decide +kernel
theorem dX5_does_100 : decode cX5_does 100 = .ok (.iconst 0, 1) := by decide +kernel
theorem dX5_does_101 : decode cX5_does 101 = .ok (.istore_n 3, 1) := by decide +kernel
theorem dX5_does_102 : decode cX5_does 102 = .ok (.iload_n 3, 1) := by decide +kernel
theorem dX5_does_103 : decode cX5_does 103 = .ok (.aload_n 0, 1) := by decide +kernel
theorem dX5_does_104 : decode cX5_does 104 = .ok (.iload_n 1, 1) := by decide +kernel
theorem dX5_does_105 : decode cX5_does 105 = .ok (.bipush 7, 2) := by decide +kernel
theorem dX5_does_107 : decode cX5_does 107 = .ok (.invokevirtual 52, 3) := by decide +kernel
theorem dX5_does_110 : decode cX5_does 110 = .ok (.if_icmp .ge 27, 3) := by decide +kernel
theorem dX5_does_113 : decode cX5_does 113 = .ok (.aload_n 0, 1) := by decide +kernel
theorem dX5_does_114 : decode cX5_does 114 = .ok (.getfield 25, 3) := by decide +kernel
theorem dX5_does_117 : decode cX5_does 117 = .ok (.iload_n 3, 1) := by decide +kernel
theorem dX5_does_118 : decode cX5_does 118 = .ok (.aload_n 0, 1) := by decide +kernel
theorem dX5_does_119 : decode cX5_does 119 = .ok (.iload_n 1, 1) := by decide +kernel
theorem dX5_does_120 : decode cX5_does 120 = .ok (.iload_n 3, 1) := by decide +kernel
theorem dX5_does_121 : decode cX5_does 121 = .ok (.invokevirtual 56, 3) := by decide +kernel
theorem dX5_does_124 : decode cX5_does 124 = .ok (.iastore, 1) := by decide +kernel
theorem dX5_does_125 : decode cX5_does 125 = .ok (.aload_n 0, 1) := by decide +kernel
theorem dX5_does_126 : decode cX5_does 126 = .ok (.iload_n 1, 1) := by decide +kernel
theorem dX5_does_127 : decode cX5_does 127 = .ok (.iload_n 3, 1) := by decide +kernel
theorem dX5_does_128 : decode cX5_does 128 = .ok (.invokevirtual 118, 3) := by decide +kernel
theorem dX5_does_131 : decode cX5_does 131 = .ok (.iinc 3 1, 3) := by decide +kernel
theorem dX5_does_134 : decode cX5_does 134 = .ok (.goto (-32), 3) := by decide +kernel
theorem dX5_does_137 : decode cX5_does 137 = .ok (.aload_n 0, 1) := by decide +kernel
theorem dX5_does_138 : decode cX5_does 138 = .ok (.iload_n 1, 1) := by decide +kernel
theorem dX5_does_139 : decode cX5_does 139 = .ok (.bipush 6, 2) := by decide +kernel
theorem dX5_does_141 : decode cX5_does 141 = .ok (.aload_n 0, 1) := by decide +kernel
theorem dX5_does_142 : decode cX5_does 142 = .ok (.iload_n 1, 1) := by decide +kernel
theorem dX5_does_143 : decode cX5_does 143 = .ok (.bipush 6, 2) := by decide +kernel
theorem dX5_does_145 : decode cX5_does 145 = .ok (.invokevirtual 52, 3) := by decide +kernel
theorem dX5_does_148 : decode cX5_does 148 = .ok (.iconst 1, 1) := by decide +kernel
theorem dX5_does_149 : decode cX5_does 149 = .ok (.iadd, 1) := by decide +kernel
theorem dX5_does_150 : decode cX5_does 150 = .ok (.invokevirtual 97, 3) := by decide +kernel
theorem dX5_does_153 : decode cX5_does 153 = .ok (.return_, 1) := by decide +kernel
theorem dX5_write_0 : decode cX5_write 0 = .ok (.iload_n 1, 1) := by decide +kernel
theorem dX5_write_1 : decode cX5_write 1 = .ok (.i2l, 1) := by decide +kernel
theorem dX5_write_2 : decode cX5_write 2 = .ok (.lconst 0, 1) := by decide +kernel
theorem dX5_write_3 : decode cX5_write 3 = .ok (.ldc2_w 121, 3) := by decide +kernel
theorem dX5_write_6 : decode cX5_write 6 = .ok (.invokestatic 44, 3) := by decide +kernel
theorem dX5_write_9 : decode cX5_write 9 = .ok (.ifCond .ne 6, 3) := by decide +kernel
theorem dX5_write_12 : decode cX5_write 12 = .ok (.ldc 123, 2) := by decide +kernel
theorem dX5_write_14 : decode cX5_write 14 = .ok (.ireturn, 1) := by decide +kernel
theorem dX5_write_15 : decode cX5_write 15 = .ok (.aload_n 0, 1) := by decide +kernel
theorem dX5_write_16 : decode cX5_write 16 = .ok (.getfield 124, 3) := by decide +kernel
theorem dX5_write_19 : decode cX5_write 19 = .ok (.sipush 160, 3) := by decide +kernel
theorem dX5_write_22 : decode cX5_write 22 = .ok (.if_icmp .ne 6, 3) := by decide +kernel
theorem dX5_write_25 : decode cX5_write 25 = .ok (.ldc 128, 2) := by decide +kernel
theorem dX5_write_27 : decode cX5_write 27 = .ok (.ireturn, 1) := by decide +kernel
theorem dX5_write_28 : decode cX5_write 28 = .ok (.aload_n 0, 1) := by decide +kernel
theorem dX5_write_29 : decode cX5_write 29 = .ok (.getfield 37, 3) := by decide +kernel
theorem dX5_write_32 : decode cX5_write 32 = .ok (.aload_n 0, 1) := by decide +kernel
theorem dX5_write_33 : decode cX5_write 33 = .ok (.getfield 124, 3) := by decide +kernel
theorem dX5_write_36 : decode cX5_write 36 = .ok (.iload_n 1, 1) := by decide +kernel
theorem dX5_write_37 : decode cX5_write 37 = .ok (.iastore, 1) := by decide +kernel
theorem dX5_write_38 : decode cX5_write 38 = .ok (.aload_n 0, 1) := by decide +kernel
theorem dX5_write_39 : decode cX5_write 39 = .ok (.dup, 1) := by decide +kernel
theorem dX5_write_40 : decode cX5_write 40 = .ok (.getfield 124, 3) := by decide +kernel
theorem dX5_write_43 : decode cX5_write 43 = .ok (.iconst 1, 1) := by decide +kernel
theorem dX5_write_44 : decode cX5_write 44 = .ok (.iadd, 1) := by decide +kernel
theorem dX5_write_45 : decode cX5_write 45 = .ok (.putfield 124, 3) := by decide +kernel
theorem dX5_write_48 : decode cX5_write 48 = .ok (.aload_n 0, 1) := by decide +kernel
theorem dX5_write_49 : decode cX5_write 49 = .ok (.getfield 124, 3) := by decide +kernel
theorem dX5_write_52 : decode cX5_write 52 = .ok (.ireturn, 1) := by decide +kernel
theorem dX5_reads_0 : decode cX5_reads 0 = .ok (.aload_n 0, 1) := by decide +kernel
theorem dX5_reads_1 : decode cX5_reads 1 = .ok (.getfield 129, 3) := by decide +kernel
theorem dX5_reads_4 : decode cX5_reads 4 = .ok (.aload_n 0, 1) := by decide +kernel
theorem dX5_reads_5 : decode cX5_reads 5 = .ok (.getfield 124, 3) := by decide +kernel
theorem dX5_reads_8 : decode cX5_reads 8 = .ok (.if_icmp .ge 30, 3) := by decide +kernel
theorem dX5_reads_11 : decode cX5_reads 11 = .ok (.aload_n 0, 1) := by decide +kernel
theorem dX5_reads_12 : decode cX5_reads 12 = .ok (.getfield 37, 3) := by decide +kernel
theorem dX5_reads_15 : decode cX5_reads 15 = .ok (.aload_n 0, 1) := by decide +kernel
theorem dX5_reads_16 : decode cX5_reads 16 = .ok (.getfield 129, 3) := by decide +kernel
theorem dX5_reads_19 : decode cX5_reads 19 = .ok (.iaload, 1) := by decide +kernel
theorem dX5_reads_20 : decode cX5_reads 20 = .ok (.bipush 32, 2) := by decide +kernel
theorem dX5_reads_22 : decode cX5_reads 22 = .ok (.if_icmp .ne 16, 3) := by decide +kernel
theorem dX5_reads_25 : decode cX5_reads 25 = .ok (.aload_n 0, 1) := by decide +kernel
theorem dX5_reads_26 : decode cX5_reads 26 = .ok (.dup, 1) := by decide +kernel
theorem dX5_reads_27 : decode cX5_reads 27 = .ok (.getfield 129, 3) := by decide +kernel
theorem dX5_reads_30 : decode cX5_reads 30 = .ok (.iconst 1, 1) := by decide +kernel
theorem dX5_reads_31 : decode cX5_reads 31 = .ok (.iadd, 1) := by decide +kernel
theorem dX5_reads_32 : decode cX5_reads 32 = .ok (.putfield 129, 3) := by decide +kernel
theorem dX5_reads_35 : decode cX5_reads 35 = .ok (.goto (-35), 3) := by decide +kernel
theorem dX5_reads_38 : decode cX5_reads 38 = .ok (.aload_n 0, 1) := by decide +kernel
theorem dX5_reads_39 : decode cX5_reads 39 = .ok (.aload_n 0, 1) := by decide +kernel
theorem dX5_reads_40 : decode cX5_reads 40 = .ok (.getfield 129, 3) := by decide +kernel
theorem dX5_reads_43 : decode cX5_reads 43 = .ok (.putfield 131, 3) := by decide +kernel
theorem dX5_reads_46 : decode cX5_reads 46 = .ok (.aload_n 0, 1) := by decide +kernel
theorem dX5_reads_47 : decode cX5_reads 47 = .ok (.iconst 0, 1) := by decide +kernel
theorem dX5_reads_48 : decode cX5_reads 48 = .ok (.putfield 134, 3) := by decide +kernel
theorem dX5_reads_51 : decode cX5_reads 51 = .ok (.aload_n 0, 1) := by decide +kernel
theorem dX5_reads_52 : decode cX5_reads 52 = .ok (.iconst 0, 1) := by decide +kernel
theorem dX5_reads_53 : decode cX5_reads 53 = .ok (.putfield 137, 3) := by decide +kernel
theorem dX5_reads_56 : decode cX5_reads 56 = .ok (.aload_n 0, 1) := by decide +kernel
theorem dX5_reads_57 : decode cX5_reads 57 = .ok (.aload_n 0, 1) := by decide +kernel
theorem dX5_reads_58 : decode cX5_reads 58 = .ok (.getfield 129, 3) := by decide +kernel
theorem dX5_reads_61 : decode cX5_reads 61 = .ok (.aload_n 0, 1) := by decide +kernel
theorem dX5_reads_62 : decode cX5_reads 62 = .ok (.getfield 124, 3) := by decide +kernel
theorem dX5_reads_65 : decode cX5_reads 65 = .ok (.if_icmp .ne 7, 3) := by decide +kernel
theorem dX5_reads_68 : decode cX5_reads 68 = .ok (.iconst (-1), 1) := by decide +kernel
theorem dX5_reads_69 : decode cX5_reads 69 = .ok (.goto 16, 3) := by decide +kernel
theorem dX5_reads_72 : decode cX5_reads 72 = .ok (.sipush 256, 3) := by decide +kernel
theorem dX5_reads_75 : decode cX5_reads 75 = .ok (.aload_n 0, 1) := by decide +kernel
theorem dX5_reads_76 : decode cX5_reads 76 = .ok (.getfield 37, 3) := by decide +kernel
theorem dX5_reads_79 : decode cX5_reads 79 = .ok (.aload_n 0, 1) := by decide +kernel
theorem dX5_reads_80 : decode cX5_reads 80 = .ok (.getfield 129, 3) := by decide +kernel
theorem dX5_reads_83 : decode cX5_reads 83 = .ok (.iaload, 1) := by decide +kernel
theorem dX5_reads_84 : decode cX5_reads 84 = .ok (.iadd, 1) := by decide +kernel
theorem dX5_reads_85 : decode cX5_reads 85 = .ok (.putfield 140, 3) := by decide +kernel
theorem dX5_reads_88 : decode cX5_reads 88 = .ok (.aload_n 0, 1) := by decide +kernel
theorem dX5_reads_89 : decode cX5_reads 89 = .ok (.getfield 129, 3) := by decide +kernel
theorem dX5_reads_92 : decode cX5_reads 92 = .ok (.aload_n 0, 1) := by decide +kernel
theorem dX5_reads_93 : decode cX5_reads 93 = .ok (.getfield 124, 3) := by decide +kernel
theorem dX5_reads_96 : decode cX5_reads 96 = .ok (.if_icmp .ge 92, 3) := by decide +kernel
theorem dX5_reads_99 : decode cX5_reads 99 = .ok (.aload_n 0, 1) := by decide +kernel
theorem dX5_reads_100 : decode cX5_reads 100 = .ok (.getfield 37, 3) := by decide +kernel
theorem dX5_reads_103 : decode cX5_reads 103 = .ok (.aload_n 0, 1) := by decide +kernel
theorem dX5_reads_104 : decode cX5_reads 104 = .ok (.getfield 129, 3) := by decide +kernel
theorem dX5_reads_107 : decode cX5_reads 107 = .ok (.iaload, 1) := by decide +kernel
theorem dX5_reads_108 : decode cX5_reads 108 = .ok (.i2l, 1) := by decide +kernel
theorem dX5_reads_109 : decode cX5_reads 109 = .ok (.ldc2_w 143, 3) := by decide +kernel
theorem dX5_reads_112 : decode cX5_reads 112 = .ok (.ldc2_w 145, 3) := by decide +kernel
theorem dX5_reads_115 : decode cX5_reads 115 = .ok (.invokestatic 44, 3) := by decide +kernel
theorem dX5_reads_118 : decode cX5_reads 118 = .ok (.ifCond .eq 70, 3) := by decide +kernel
theorem dX5_reads_121 : decode cX5_reads 121 = .ok (.aload_n 0, 1) := by decide +kernel
theorem dX5_reads_122 : decode cX5_reads 122 = .ok (.aload_n 0, 1) := by decide +kernel
theorem dX5_reads_123 : decode cX5_reads 123 = .ok (.getfield 134, 3) := by decide +kernel
theorem dX5_reads_126 : decode cX5_reads 126 = .ok (.iconst 2, 1) := by decide +kernel
theorem dX5_reads_127 : decode cX5_reads 127 = .ok (.if_icmp .ge 26, 3) := by decide +kernel
theorem dX5_reads_130 : decode cX5_reads 130 = .ok (.bipush 10, 2) := by decide +kernel
theorem dX5_reads_132 : decode cX5_reads 132 = .ok (.aload_n 0, 1) := by decide +kernel
theorem dX5_reads_133 : decode cX5_reads 133 = .ok (.getfield 137, 3) := by decide +kernel
theorem dX5_reads_136 : decode cX5_reads 136 = .ok (.imul, 1) := by decide +kernel
theorem dX5_reads_137 : decode cX5_reads 137 = .ok (.aload_n 0, 1) := by decide +kernel
theorem dX5_reads_138 : decode cX5_reads 138 = .ok (.getfield 37, 3) := by decide +kernel
theorem dX5_reads_141 : decode cX5_reads 141 = .ok (.aload_n 0, 1) := by decide +kernel
theorem dX5_reads_142 : decode cX5_reads 142 = .ok (.getfield 129, 3) := by decide +kernel
theorem dX5_reads_145 : decode cX5_reads 145 = .ok (.iaload, 1) := by decide +kernel
theorem dX5_reads_146 : decode cX5_reads 146 = .ok (.iadd, 1) := by decide +kernel
theorem dX5_reads_147 : decode cX5_reads 147 = .ok (.bipush 48, 2) := by decide +kernel
theorem dX5_reads_149 : decode cX5_reads 149 = .ok (.isub, 1) := by decide +kernel
theorem dX5_reads_150 : decode cX5_reads 150 = .ok (.goto 7, 3) := by decide +kernel
theorem dX5_reads_153 : decode cX5_reads 153 = .ok (.aload_n 0, 1) := by decide +kernel
theorem dX5_reads_154 : decode cX5_reads 154 = .ok (.getfield 137, 3) := by decide +kernel
theorem dX5_reads_157 : decode cX5_reads 157 = .ok (.putfield 137, 3) := by decide +kernel
theorem dX5_reads_160 : decode cX5_reads 160 = .ok (.aload_n 0, 1) := by decide +kernel
theorem dX5_reads_161 : decode cX5_reads 161 = .ok (.dup, 1) := by decide +kernel
theorem dX5_reads_162 : decode cX5_reads 162 = .ok (.getfield 134, 3) := by decide +kernel
theorem dX5_reads_165 : decode cX5_reads 165 = .ok (.iconst 1, 1) := by decide +kernel
theorem dX5_reads_166 : decode cX5_reads 166 = .ok (.iadd, 1) := by decide +kernel
theorem dX5_reads_167 : decode cX5_reads 167 = .ok (.putfield 134, 3) := by decide +kernel
theorem dX5_reads_170 : decode cX5_reads 170 = .ok (.aload_n 0, 1) := by decide +kernel
theorem dX5_reads_171 : decode cX5_reads 171 = .ok (.dup, 1) := by decide +kernel
theorem dX5_reads_172 : decode cX5_reads 172 = .ok (.getfield 129, 3) := by decide +kernel
theorem dX5_reads_175 : decode cX5_reads 175 = .ok (.iconst 1, 1) := by decide +kernel
theorem dX5_reads_176 : decode cX5_reads 176 = .ok (.iadd, 1) := by decide +kernel
theorem dX5_reads_177 : decode cX5_reads 177 = .ok (.putfield 129, 3) := by decide +kernel
theorem dX5_reads_180 : decode cX5_reads 180 = .ok (.aload_n 0, 1) := by decide +kernel
theorem dX5_reads_181 : decode cX5_reads 181 = .ok (.iconst 0, 1) := by decide +kernel
theorem dX5_reads_182 : decode cX5_reads 182 = .ok (.putfield 140, 3) := by decide +kernel
theorem dX5_reads_185 : decode cX5_reads 185 = .ok (.goto (-97), 3) := by decide +kernel
theorem dX5_reads_188 : decode cX5_reads 188 = .ok (.aload_n 0, 1) := by decide +kernel
theorem dX5_reads_189 : decode cX5_reads 189 = .ok (.dup, 1) := by decide +kernel
theorem dX5_reads_190 : decode cX5_reads 190 = .ok (.getfield 129, 3) := by decide +kernel
theorem dX5_reads_193 : decode cX5_reads 193 = .ok (.aload_n 0, 1) := by decide +kernel
theorem dX5_reads_194 : decode cX5_reads 194 = .ok (.getfield 140, 3) := by decide +kernel
theorem dX5_reads_197 : decode cX5_reads 197 = .ok (.ifCond .le 7, 3) := by decide +kernel
theorem dX5_reads_200 : decode cX5_reads 200 = .ok (.iconst 1, 1) := by decide +kernel
theorem dX5_reads_201 : decode cX5_reads 201 = .ok (.goto 4, 3) := by decide +kernel
theorem dX5_reads_204 : decode cX5_reads 204 = .ok (.iconst 0, 1) := by decide +kernel
theorem dX5_reads_205 : decode cX5_reads 205 = .ok (.iadd, 1) := by decide +kernel
theorem dX5_reads_206 : decode cX5_reads 206 = .ok (.putfield 129, 3) := by decide +kernel
theorem dX5_reads_209 : decode cX5_reads 209 = .ok (.return_, 1) := by decide +kernel
theorem dX5_wrong_0 : decode cX5_wrong 0 = .ok (.aload_n 0, 1) := by decide +kernel
theorem dX5_wrong_1 : decode cX5_wrong 1 = .ok (.aload_n 0, 1) := by decide +kernel
theorem dX5_wrong_2 : decode cX5_wrong 2 = .ok (.getfield 147, 3) := by decide +kernel
theorem dX5_wrong_5 : decode cX5_wrong 5 = .ok (.ifCond .ne 7, 3) := by decide +kernel
theorem dX5_wrong_8 : decode cX5_wrong 8 = .ok (.iload_n 1, 1) := by decide +kernel
theorem dX5_wrong_9 : decode cX5_wrong 9 = .ok (.goto 7, 3) := by decide +kernel
theorem dX5_wrong_12 : decode cX5_wrong 12 = .ok (.aload_n 0, 1) := by decide +kernel
theorem dX5_wrong_13 : decode cX5_wrong 13 = .ok (.getfield 147, 3) := by decide +kernel
theorem dX5_wrong_16 : decode cX5_wrong 16 = .ok (.putfield 147, 3) := by decide +kernel
theorem dX5_wrong_19 : decode cX5_wrong 19 = .ok (.return_, 1) := by decide +kernel
theorem dX5_isSign_0 : decode cX5_isSign 0 = .ok (.aload_n 0, 1) := by decide +kernel
theorem dX5_isSign_1 : decode cX5_isSign 1 = .ok (.getfield 147, 3) := by decide +kernel
theorem dX5_isSign_4 : decode cX5_isSign 4 = .ok (.ifCond .ne 19, 3) := by decide +kernel
theorem dX5_isSign_7 : decode cX5_isSign 7 = .ok (.aload_n 0, 1) := by decide +kernel
theorem dX5_isSign_8 : decode cX5_isSign 8 = .ok (.getfield 140, 3) := by decide +kernel
theorem dX5_isSign_11 : decode cX5_isSign 11 = .ok (.sipush 256, 3) := by decide +kernel
theorem dX5_isSign_14 : decode cX5_isSign 14 = .ok (.iload_n 1, 1) := by decide +kernel
theorem dX5_isSign_15 : decode cX5_isSign 15 = .ok (.iadd, 1) := by decide +kernel
theorem dX5_isSign_16 : decode cX5_isSign 16 = .ok (.if_icmp .ne 7, 3) := by decide +kernel
theorem dX5_isSign_19 : decode cX5_isSign 19 = .ok (.iconst 1, 1) := by decide +kernel
theorem dX5_isSign_20 : decode cX5_isSign 20 = .ok (.goto 4, 3) := by decide +kernel
theorem dX5_isSign_23 : decode cX5_isSign 23 = .ok (.iconst 0, 1) := by decide +kernel
theorem dX5_isSign_24 : decode cX5_isSign 24 = .ok (.ireturn, 1) := by decide +kernel
theorem dX5_sign_0 : decode cX5_sign 0 = .ok (.aload_n 0, 1) := by decide +kernel
theorem dX5_sign_1 : decode cX5_sign 1 = .ok (.iload_n 1, 1) := by decide +kernel
theorem dX5_sign_2 : decode cX5_sign 2 = .ok (.invokevirtual 150, 3) := by decide +kernel
theorem dX5_sign_5 : decode cX5_sign 5 = .ok (.ifCond .ne 8, 3) := by decide +kernel
theorem dX5_sign_8 : decode cX5_sign 8 = .ok (.aload_n 0, 1) := by decide +kernel
theorem dX5_sign_9 : decode cX5_sign 9 = .ok (.iconst 1, 1) := by decide +kernel
theorem dX5_sign_10 : decode cX5_sign 10 = .ok (.invokevirtual 153, 3) := by decide +kernel
theorem dX5_sign_13 : decode cX5_sign 13 = .ok (.aload_n 0, 1) := by decide +kernel
theorem dX5_sign_14 : decode cX5_sign 14 = .ok (.getfield 147, 3) := by decide +kernel
theorem dX5_sign_17 : decode cX5_sign 17 = .ok (.ifCond .ne 7, 3) := by decide +kernel
theorem dX5_sign_20 : decode cX5_sign 20 = .ok (.aload_n 0, 1) := by decide +kernel
theorem dX5_sign_21 : decode cX5_sign 21 = .ok (.invokevirtual 156, 3) := by decide +kernel
theorem dX5_sign_24 : decode cX5_sign 24 = .ok (.return_, 1) := by decide +kernel
theorem dX5_number_0 : decode cX5_number 0 = .ok (.aload_n 0, 1) := by decide +kernel
theorem dX5_number_1 : decode cX5_number 1 = .ok (.getfield 140, 3) := by decide +kernel
theorem dX5_number_4 : decode cX5_number 4 = .ok (.ifCond .eq 8, 3) := by decide +kernel
theorem dX5_number_7 : decode cX5_number 7 = .ok (.aload_n 0, 1) := by decide +kernel
theorem dX5_number_8 : decode cX5_number 8 = .ok (.iconst 1, 1) := by decide +kernel
theorem dX5_number_9 : decode cX5_number 9 = .ok (.invokevirtual 153, 3) := by decide +kernel
theorem dX5_number_12 : decode cX5_number 12 = .ok (.aload_n 0, 1) := by decide +kernel
theorem dX5_number_13 : decode cX5_number 13 = .ok (.getfield 134, 3) := by decide +kernel
theorem dX5_number_16 : decode cX5_number 16 = .ok (.iconst 2, 1) := by decide +kernel
theorem dX5_number_17 : decode cX5_number 17 = .ok (.if_icmp .gt 18, 3) := by decide +kernel
theorem dX5_number_20 : decode cX5_number 20 = .ok (.aload_n 0, 1) := by decide +kernel
theorem dX5_number_21 : decode cX5_number 21 = .ok (.getfield 137, 3) := by decide +kernel
theorem dX5_number_24 : decode cX5_number 24 = .ok (.i2l, 1) := by decide +kernel
theorem dX5_number_25 : decode cX5_number 25 = .ok (.iload_n 2, 1) := by decide +kernel
theorem dX5_number_26 : decode cX5_number 26 = .ok (.i2l, 1) := by decide +kernel
theorem dX5_number_27 : decode cX5_number 27 = .ok (.iload_n 3, 1) := by decide +kernel
theorem dX5_number_28 : decode cX5_number 28 = .ok (.i2l, 1) := by decide +kernel
theorem dX5_number_29 : decode cX5_number 29 = .ok (.invokestatic 44, 3) := by decide +kernel
theorem dX5_number_32 : decode cX5_number 32 = .ok (.ifCond .ne 8, 3) := by decide +kernel
theorem dX5_number_35 : decode cX5_number 35 = .ok (.aload_n 0, 1) := by decide +kernel
theorem dX5_number_36 : decode cX5_number 36 = .ok (.iconst 2, 1) := by decide +kernel
theorem dX5_number_37 : decode cX5_number 37 = .ok (.invokevirtual 153, 3) := by decide +kernel
theorem dX5_number_40 : decode cX5_number 40 = .ok (.aload_n 0, 1) := by decide +kernel
theorem dX5_number_41 : decode cX5_number 41 = .ok (.getfield 147, 3) := by decide +kernel
theorem dX5_number_44 : decode cX5_number 44 = .ok (.ifCond .ne 13, 3) := by decide +kernel
theorem dX5_number_47 : decode cX5_number 47 = .ok (.aload_n 0, 1) := by decide +kernel
theorem dX5_number_48 : decode cX5_number 48 = .ok (.getfield 7, 3) := by decide +kernel
theorem dX5_number_51 : decode cX5_number 51 = .ok (.iload_n 1, 1) := by decide +kernel
theorem dX5_number_52 : decode cX5_number 52 = .ok (.aload_n 0, 1) := by decide +kernel
theorem dX5_number_53 : decode cX5_number 53 = .ok (.getfield 137, 3) := by decide +kernel
theorem dX5_number_56 : decode cX5_number 56 = .ok (.iastore, 1) := by decide +kernel
theorem dX5_number_57 : decode cX5_number 57 = .ok (.return_, 1) := by decide +kernel
theorem dX5_goesOn_0 : decode cX5_goesOn 0 = .ok (.aload_n 0, 1) := by decide +kernel
theorem dX5_goesOn_1 : decode cX5_goesOn 1 = .ok (.getfield 147, 3) := by decide +kernel
theorem dX5_goesOn_4 : decode cX5_goesOn 4 = .ok (.ifCond .ne 7, 3) := by decide +kernel
theorem dX5_goesOn_7 : decode cX5_goesOn 7 = .ok (.aload_n 0, 1) := by decide +kernel
theorem dX5_goesOn_8 : decode cX5_goesOn 8 = .ok (.invokevirtual 156, 3) := by decide +kernel
theorem dX5_goesOn_11 : decode cX5_goesOn 11 = .ok (.aload_n 0, 1) := by decide +kernel
theorem dX5_goesOn_12 : decode cX5_goesOn 12 = .ok (.iload_n 1, 1) := by decide +kernel
theorem dX5_goesOn_13 : decode cX5_goesOn 13 = .ok (.invokevirtual 159, 3) := by decide +kernel
theorem dX5_goesOn_16 : decode cX5_goesOn 16 = .ok (.return_, 1) := by decide +kernel
theorem dX5_leasts_0 : decode cX5_leasts 0 = .ok (.iconst 0, 1) := by decide +kernel
theorem dX5_leasts_1 : decode cX5_leasts 1 = .ok (.istore_n 2, 1) := by decide +kernel
theorem dX5_leasts_2 : decode cX5_leasts 2 = .ok (.iconst 0, 1) := by decide +kernel
theorem dX5_leasts_3 : decode cX5_leasts 3 = .ok (.istore_n 3, 1) := by decide +kernel
theorem dX5_leasts_4 : decode cX5_leasts 4 = .ok (.iload_n 3, 1) := by decide +kernel
theorem dX5_leasts_5 : decode cX5_leasts 5 = .ok (.aload_n 0, 1) := by decide +kernel
theorem dX5_leasts_6 : decode cX5_leasts 6 = .ok (.iload_n 1, 1) := by decide +kernel
theorem dX5_leasts_7 : decode cX5_leasts 7 = .ok (.bipush 7, 2) := by decide +kernel
theorem dX5_leasts_9 : decode cX5_leasts 9 = .ok (.invokevirtual 52, 3) := by decide +kernel
theorem dX5_leasts_12 : decode cX5_leasts 12 = .ok (.if_icmp .ge 23, 3) := by decide +kernel
theorem dX5_leasts_15 : decode cX5_leasts 15 = .ok (.iload_n 2, 1) := by decide +kernel
theorem dX5_leasts_16 : decode cX5_leasts 16 = .ok (.aload_n 0, 1) := by decide +kernel
theorem dX5_leasts_17 : decode cX5_leasts 17 = .ok (.getfield 7, 3) := by decide +kernel
theorem dX5_leasts_20 : decode cX5_leasts 20 = .ok (.iload_n 1, 1) := by decide +kernel
theorem dX5_leasts_21 : decode cX5_leasts 21 = .ok (.iload_n 3, 1) := by decide +kernel
theorem dX5_leasts_22 : decode cX5_leasts 22 = .ok (.iconst 0, 1) := by decide +kernel
theorem dX5_leasts_23 : decode cX5_leasts 23 = .ok (.invokestatic 40, 3) := by decide +kernel
theorem dX5_leasts_26 : decode cX5_leasts 26 = .ok (.iaload, 1) := by decide +kernel
theorem dX5_leasts_27 : decode cX5_leasts 27 = .ok (.iadd, 1) := by decide +kernel
theorem dX5_leasts_28 : decode cX5_leasts 28 = .ok (.istore_n 2, 1) := by decide +kernel
theorem dX5_leasts_29 : decode cX5_leasts 29 = .ok (.iinc 3 1, 3) := by decide +kernel
theorem dX5_leasts_32 : decode cX5_leasts 32 = .ok (.goto (-28), 3) := by decide +kernel
theorem dX5_leasts_35 : decode cX5_leasts 35 = .ok (.iload_n 2, 1) := by decide +kernel
theorem dX5_leasts_36 : decode cX5_leasts 36 = .ok (.ireturn, 1) := by decide +kernel
theorem dX5_lowOf_0 : decode cX5_lowOf 0 = .ok (.iload_n 0, 1) := by decide +kernel
theorem dX5_lowOf_1 : decode cX5_lowOf 1 = .ok (.iconst 1, 1) := by decide +kernel
theorem dX5_lowOf_2 : decode cX5_lowOf 2 = .ok (.if_icmp .eq 19, 3) := by decide +kernel
theorem dX5_lowOf_5 : decode cX5_lowOf 5 = .ok (.iload_n 0, 1) := by decide +kernel
theorem dX5_lowOf_6 : decode cX5_lowOf 6 = .ok (.iconst 3, 1) := by decide +kernel
theorem dX5_lowOf_7 : decode cX5_lowOf 7 = .ok (.if_icmp .eq 14, 3) := by decide +kernel
theorem dX5_lowOf_10 : decode cX5_lowOf 10 = .ok (.iload_n 0, 1) := by decide +kernel
theorem dX5_lowOf_11 : decode cX5_lowOf 11 = .ok (.iconst 4, 1) := by decide +kernel
theorem dX5_lowOf_12 : decode cX5_lowOf 12 = .ok (.if_icmp .eq 9, 3) := by decide +kernel
theorem dX5_lowOf_15 : decode cX5_lowOf 15 = .ok (.iload_n 0, 1) := by decide +kernel
theorem dX5_lowOf_16 : decode cX5_lowOf 16 = .ok (.bipush 8, 2) := by decide +kernel
theorem dX5_lowOf_18 : decode cX5_lowOf 18 = .ok (.if_icmp .ne 7, 3) := by decide +kernel
theorem dX5_lowOf_21 : decode cX5_lowOf 21 = .ok (.iconst 1, 1) := by decide +kernel
theorem dX5_lowOf_22 : decode cX5_lowOf 22 = .ok (.goto 4, 3) := by decide +kernel
theorem dX5_lowOf_25 : decode cX5_lowOf 25 = .ok (.iconst 0, 1) := by decide +kernel
theorem dX5_lowOf_26 : decode cX5_lowOf 26 = .ok (.ireturn, 1) := by decide +kernel
theorem dX5_highOf_0 : decode cX5_highOf 0 = .ok (.iload_n 0, 1) := by decide +kernel
theorem dX5_highOf_1 : decode cX5_highOf 1 = .ok (.tableswitch 58 1 8 #[47, 58, 50, 50, 58, 53, 58, 56], 47) := by decide +kernel
theorem dX5_highOf_48 : decode cX5_highOf 48 = .ok (.bipush 20, 2) := by decide +kernel
theorem dX5_highOf_50 : decode cX5_highOf 50 = .ok (.ireturn, 1) := by decide +kernel
theorem dX5_highOf_51 : decode cX5_highOf 51 = .ok (.bipush 6, 2) := by decide +kernel
theorem dX5_highOf_53 : decode cX5_highOf 53 = .ok (.ireturn, 1) := by decide +kernel
theorem dX5_highOf_54 : decode cX5_highOf 54 = .ok (.bipush 99, 2) := by decide +kernel
theorem dX5_highOf_56 : decode cX5_highOf 56 = .ok (.ireturn, 1) := by decide +kernel
theorem dX5_highOf_57 : decode cX5_highOf 57 = .ok (.iconst 4, 1) := by decide +kernel
theorem dX5_highOf_58 : decode cX5_highOf 58 = .ok (.ireturn, 1) := by decide +kernel
theorem dX5_highOf_59 : decode cX5_highOf 59 = .ok (.bipush 9, 2) := by decide +kernel
theorem dX5_highOf_61 : decode cX5_highOf 61 = .ok (.ireturn, 1) := by decide +kernel
theorem dX5_readsService_0 : decode cX5_readsService 0 = .ok (.aload_n 0, 1) := by decide +kernel
theorem dX5_readsService_1 : decode cX5_readsService 1 = .ok (.bipush 12, 2) := by decide +kernel
theorem dX5_readsService_3 : decode cX5_readsService 3 = .ok (.bipush 7, 2) := by decide +kernel
theorem dX5_readsService_5 : decode cX5_readsService 5 = .ok (.invokevirtual 52, 3) := by decide +kernel
theorem dX5_readsService_8 : decode cX5_readsService 8 = .ok (.istore_n 1, 1) := by decide +kernel
theorem dX5_readsService_9 : decode cX5_readsService 9 = .ok (.aload_n 0, 1) := by decide +kernel
theorem dX5_readsService_10 : decode cX5_readsService 10 = .ok (.bipush 115, 2) := by decide +kernel
theorem dX5_readsService_12 : decode cX5_readsService 12 = .ok (.invokevirtual 150, 3) := by decide +kernel
theorem dX5_readsService_15 : decode cX5_readsService 15 = .ok (.ifCond .eq 13, 3) := by decide +kernel
theorem dX5_readsService_18 : decode cX5_readsService 18 = .ok (.iload_n 1, 1) := by decide +kernel
theorem dX5_readsService_19 : decode cX5_readsService 19 = .ok (.iconst 4, 1) := by decide +kernel
theorem dX5_readsService_20 : decode cX5_readsService 20 = .ok (.if_icmp .ne 8, 3) := by decide +kernel
theorem dX5_readsService_23 : decode cX5_readsService 23 = .ok (.aload_n 0, 1) := by decide +kernel
theorem dX5_readsService_24 : decode cX5_readsService 24 = .ok (.iconst 3, 1) := by decide +kernel
theorem dX5_readsService_25 : decode cX5_readsService 25 = .ok (.invokevirtual 153, 3) := by decide +kernel
theorem dX5_readsService_28 : decode cX5_readsService 28 = .ok (.aload_n 0, 1) := by decide +kernel
theorem dX5_readsService_29 : decode cX5_readsService 29 = .ok (.bipush 115, 2) := by decide +kernel
theorem dX5_readsService_31 : decode cX5_readsService 31 = .ok (.invokevirtual 159, 3) := by decide +kernel
theorem dX5_readsService_34 : decode cX5_readsService 34 = .ok (.aload_n 0, 1) := by decide +kernel
theorem dX5_readsService_35 : decode cX5_readsService 35 = .ok (.getfield 147, 3) := by decide +kernel
theorem dX5_readsService_38 : decode cX5_readsService 38 = .ok (.ifCond .le 4, 3) := by decide +kernel
theorem dX5_readsService_41 : decode cX5_readsService 41 = .ok (.return_, 1) := by decide +kernel
theorem dX5_readsService_42 : decode cX5_readsService 42 = .ok (.aload_n 0, 1) := by decide +kernel
theorem dX5_readsService_43 : decode cX5_readsService 43 = .ok (.bipush 12, 2) := by decide +kernel
theorem dX5_readsService_45 : decode cX5_readsService 45 = .ok (.bipush 7, 2) := by decide +kernel
theorem dX5_readsService_47 : decode cX5_readsService 47 = .ok (.iload_n 1, 1) := by decide +kernel
theorem dX5_readsService_48 : decode cX5_readsService 48 = .ok (.iconst 1, 1) := by decide +kernel
theorem dX5_readsService_49 : decode cX5_readsService 49 = .ok (.iadd, 1) := by decide +kernel
theorem dX5_readsService_50 : decode cX5_readsService 50 = .ok (.invokevirtual 97, 3) := by decide +kernel
theorem dX5_readsService_53 : decode cX5_readsService 53 = .ok (.iconst 0, 1) := by decide +kernel
theorem dX5_readsService_54 : decode cX5_readsService 54 = .ok (.istore_n 2, 1) := by decide +kernel
theorem dX5_readsService_55 : decode cX5_readsService 55 = .ok (.iload_n 2, 1) := by decide +kernel
theorem dX5_readsService_56 : decode cX5_readsService 56 = .ok (.bipush 8, 2) := by decide +kernel
theorem dX5_readsService_58 : decode cX5_readsService 58 = .ok (.if_icmp .gt 113, 3) := by decide +kernel
theorem dX5_readsService_61 : decode cX5_readsService 61 = .ok (.aload_n 0, 1) := by decide +kernel
theorem dX5_readsService_62 : decode cX5_readsService 62 = .ok (.bipush 12, 2) := by decide +kernel
theorem dX5_readsService_64 : decode cX5_readsService 64 = .ok (.iload_n 1, 1) := by decide +kernel
theorem dX5_readsService_65 : decode cX5_readsService 65 = .ok (.iload_n 2, 1) := by decide +kernel
theorem dX5_readsService_66 : decode cX5_readsService 66 = .ok (.invokestatic 40, 3) := by decide +kernel
theorem dX5_readsService_69 : decode cX5_readsService 69 = .ok (.iload_n 2, 1) := by decide +kernel
theorem dX5_readsService_70 : decode cX5_readsService 70 = .ok (.invokestatic 162, 3) := by decide +kernel
theorem dX5_readsService_73 : decode cX5_readsService 73 = .ok (.iload_n 2, 1) := by decide +kernel
theorem dX5_readsService_74 : decode cX5_readsService 74 = .ok (.invokestatic 165, 3) := by decide +kernel
theorem dX5_readsService_77 : decode cX5_readsService 77 = .ok (.invokevirtual 168, 3) := by decide +kernel
theorem dX5_readsService_80 : decode cX5_readsService 80 = .ok (.aload_n 0, 1) := by decide +kernel
theorem dX5_readsService_81 : decode cX5_readsService 81 = .ok (.getfield 147, 3) := by decide +kernel
theorem dX5_readsService_84 : decode cX5_readsService 84 = .ok (.ifCond .ne 32, 3) := by decide +kernel
theorem dX5_readsService_87 : decode cX5_readsService 87 = .ok (.iload_n 2, 1) := by decide +kernel
theorem dX5_readsService_88 : decode cX5_readsService 88 = .ok (.iconst 1, 1) := by decide +kernel
theorem dX5_readsService_89 : decode cX5_readsService 89 = .ok (.if_icmp .ne 27, 3) := by decide +kernel
theorem dX5_readsService_92 : decode cX5_readsService 92 = .ok (.aload_n 0, 1) := by decide +kernel
theorem dX5_readsService_93 : decode cX5_readsService 93 = .ok (.getfield 137, 3) := by decide +kernel
theorem dX5_readsService_96 : decode cX5_readsService 96 = .ok (.aload_n 0, 1) := by decide +kernel
theorem dX5_readsService_97 : decode cX5_readsService 97 = .ok (.getfield 7, 3) := by decide +kernel
theorem dX5_readsService_100 : decode cX5_readsService 100 = .ok (.bipush 12, 2) := by decide +kernel
theorem dX5_readsService_102 : decode cX5_readsService 102 = .ok (.iload_n 1, 1) := by decide +kernel
theorem dX5_readsService_103 : decode cX5_readsService 103 = .ok (.iconst 0, 1) := by decide +kernel
theorem dX5_readsService_104 : decode cX5_readsService 104 = .ok (.invokestatic 40, 3) := by decide +kernel
theorem dX5_readsService_107 : decode cX5_readsService 107 = .ok (.iaload, 1) := by decide +kernel
theorem dX5_readsService_108 : decode cX5_readsService 108 = .ok (.if_icmp .ge 8, 3) := by decide +kernel
theorem dX5_readsService_111 : decode cX5_readsService 111 = .ok (.aload_n 0, 1) := by decide +kernel
theorem dX5_readsService_112 : decode cX5_readsService 112 = .ok (.iconst 2, 1) := by decide +kernel
theorem dX5_readsService_113 : decode cX5_readsService 113 = .ok (.invokevirtual 153, 3) := by decide +kernel
theorem dX5_readsService_116 : decode cX5_readsService 116 = .ok (.aload_n 0, 1) := by decide +kernel
theorem dX5_readsService_117 : decode cX5_readsService 117 = .ok (.getfield 147, 3) := by decide +kernel
theorem dX5_readsService_120 : decode cX5_readsService 120 = .ok (.ifCond .ne 28, 3) := by decide +kernel
theorem dX5_readsService_123 : decode cX5_readsService 123 = .ok (.iload_n 2, 1) := by decide +kernel
theorem dX5_readsService_124 : decode cX5_readsService 124 = .ok (.ifCond .ne 24, 3) := by decide +kernel
theorem dX5_readsService_127 : decode cX5_readsService 127 = .ok (.aload_n 0, 1) := by decide +kernel
theorem dX5_readsService_128 : decode cX5_readsService 128 = .ok (.bipush 12, 2) := by decide +kernel
theorem dX5_readsService_130 : decode cX5_readsService 130 = .ok (.invokevirtual 171, 3) := by decide +kernel
theorem dX5_readsService_133 : decode cX5_readsService 133 = .ok (.aload_n 0, 1) := by decide +kernel
theorem dX5_readsService_134 : decode cX5_readsService 134 = .ok (.bipush 12, 2) := by decide +kernel
theorem dX5_readsService_136 : decode cX5_readsService 136 = .ok (.iconst 0, 1) := by decide +kernel
theorem dX5_readsService_137 : decode cX5_readsService 137 = .ok (.invokevirtual 52, 3) := by decide +kernel
theorem dX5_readsService_140 : decode cX5_readsService 140 = .ok (.if_icmp .le 8, 3) := by decide +kernel
theorem dX5_readsService_143 : decode cX5_readsService 143 = .ok (.aload_n 0, 1) := by decide +kernel
theorem dX5_readsService_144 : decode cX5_readsService 144 = .ok (.iconst 4, 1) := by decide +kernel
theorem dX5_readsService_145 : decode cX5_readsService 145 = .ok (.invokevirtual 153, 3) := by decide +kernel
theorem dX5_readsService_148 : decode cX5_readsService 148 = .ok (.aload_n 0, 1) := by decide +kernel
theorem dX5_readsService_149 : decode cX5_readsService 149 = .ok (.iload_n 2, 1) := by decide +kernel
theorem dX5_readsService_150 : decode cX5_readsService 150 = .ok (.bipush 8, 2) := by decide +kernel
theorem dX5_readsService_152 : decode cX5_readsService 152 = .ok (.if_icmp .ne 8, 3) := by decide +kernel
theorem dX5_readsService_155 : decode cX5_readsService 155 = .ok (.bipush 59, 2) := by decide +kernel
theorem dX5_readsService_157 : decode cX5_readsService 157 = .ok (.goto 5, 3) := by decide +kernel
theorem dX5_readsService_160 : decode cX5_readsService 160 = .ok (.bipush 44, 2) := by decide +kernel
theorem dX5_readsService_162 : decode cX5_readsService 162 = .ok (.invokevirtual 174, 3) := by decide +kernel
theorem dX5_readsService_165 : decode cX5_readsService 165 = .ok (.iinc 2 1, 3) := by decide +kernel
theorem dX5_readsService_168 : decode cX5_readsService 168 = .ok (.goto (-113), 3) := by decide +kernel
theorem dX5_readsService_171 : decode cX5_readsService 171 = .ok (.aload_n 0, 1) := by decide +kernel
theorem dX5_readsService_172 : decode cX5_readsService 172 = .ok (.getfield 7, 3) := by decide +kernel
theorem dX5_readsService_175 : decode cX5_readsService 175 = .ok (.bipush 12, 2) := by decide +kernel
theorem dX5_readsService_177 : decode cX5_readsService 177 = .ok (.iload_n 1, 1) := by decide +kernel
theorem dX5_readsService_178 : decode cX5_readsService 178 = .ok (.bipush 10, 2) := by decide +kernel
theorem dX5_readsService_180 : decode cX5_readsService 180 = .ok (.invokestatic 40, 3) := by decide +kernel
theorem dX5_readsService_183 : decode cX5_readsService 183 = .ok (.aload_n 0, 1) := by decide +kernel
theorem dX5_readsService_184 : decode cX5_readsService 184 = .ok (.getfield 7, 3) := by decide +kernel
theorem dX5_readsService_187 : decode cX5_readsService 187 = .ok (.bipush 12, 2) := by decide +kernel
theorem dX5_readsService_189 : decode cX5_readsService 189 = .ok (.iload_n 1, 1) := by decide +kernel
theorem dX5_readsService_190 : decode cX5_readsService 190 = .ok (.iconst 0, 1) := by decide +kernel
theorem dX5_readsService_191 : decode cX5_readsService 191 = .ok (.invokestatic 40, 3) := by decide +kernel
theorem dX5_readsService_194 : decode cX5_readsService 194 = .ok (.iaload, 1) := by decide +kernel
theorem dX5_readsService_195 : decode cX5_readsService 195 = .ok (.iastore, 1) := by decide +kernel
theorem dX5_readsService_196 : decode cX5_readsService 196 = .ok (.aload_n 0, 1) := by decide +kernel
theorem dX5_readsService_197 : decode cX5_readsService 197 = .ok (.getfield 147, 3) := by decide +kernel
theorem dX5_readsService_200 : decode cX5_readsService 200 = .ok (.ifCond .ne 18, 3) := by decide +kernel
theorem dX5_readsService_203 : decode cX5_readsService 203 = .ok (.aload_n 0, 1) := by decide +kernel
theorem dX5_readsService_204 : decode cX5_readsService 204 = .ok (.invokevirtual 177, 3) := by decide +kernel
theorem dX5_readsService_207 : decode cX5_readsService 207 = .ok (.ifCond .le 11, 3) := by decide +kernel
theorem dX5_readsService_210 : decode cX5_readsService 210 = .ok (.aload_n 0, 1) := by decide +kernel
theorem dX5_readsService_211 : decode cX5_readsService 211 = .ok (.iload_n 1, 1) := by decide +kernel
theorem dX5_readsService_212 : decode cX5_readsService 212 = .ok (.invokevirtual 181, 3) := by decide +kernel
theorem dX5_readsService_215 : decode cX5_readsService 215 = .ok (.goto (-19), 3) := by decide +kernel
theorem dX5_readsService_218 : decode cX5_readsService 218 = .ok (.return_, 1) := by decide +kernel
theorem dX5_kindOf_0 : decode cX5_kindOf 0 = .ok (.aload_n 0, 1) := by decide +kernel
theorem dX5_kindOf_1 : decode cX5_kindOf 1 = .ok (.bipush 116, 2) := by decide +kernel
theorem dX5_kindOf_3 : decode cX5_kindOf 3 = .ok (.invokevirtual 150, 3) := by decide +kernel
theorem dX5_kindOf_6 : decode cX5_kindOf 6 = .ok (.ifCond .eq 7, 3) := by decide +kernel
theorem dX5_kindOf_9 : decode cX5_kindOf 9 = .ok (.iconst 1, 1) := by decide +kernel
theorem dX5_kindOf_10 : decode cX5_kindOf 10 = .ok (.goto 43, 3) := by decide +kernel
theorem dX5_kindOf_13 : decode cX5_kindOf 13 = .ok (.aload_n 0, 1) := by decide +kernel
theorem dX5_kindOf_14 : decode cX5_kindOf 14 = .ok (.bipush 102, 2) := by decide +kernel
theorem dX5_kindOf_16 : decode cX5_kindOf 16 = .ok (.invokevirtual 150, 3) := by decide +kernel
theorem dX5_kindOf_19 : decode cX5_kindOf 19 = .ok (.ifCond .eq 7, 3) := by decide +kernel
theorem dX5_kindOf_22 : decode cX5_kindOf 22 = .ok (.iconst 2, 1) := by decide +kernel
theorem dX5_kindOf_23 : decode cX5_kindOf 23 = .ok (.goto 30, 3) := by decide +kernel
theorem dX5_kindOf_26 : decode cX5_kindOf 26 = .ok (.aload_n 0, 1) := by decide +kernel
theorem dX5_kindOf_27 : decode cX5_kindOf 27 = .ok (.bipush 97, 2) := by decide +kernel
theorem dX5_kindOf_29 : decode cX5_kindOf 29 = .ok (.invokevirtual 150, 3) := by decide +kernel
theorem dX5_kindOf_32 : decode cX5_kindOf 32 = .ok (.ifCond .eq 7, 3) := by decide +kernel
theorem dX5_kindOf_35 : decode cX5_kindOf 35 = .ok (.iconst 3, 1) := by decide +kernel
theorem dX5_kindOf_36 : decode cX5_kindOf 36 = .ok (.goto 17, 3) := by decide +kernel
theorem dX5_kindOf_39 : decode cX5_kindOf 39 = .ok (.aload_n 0, 1) := by decide +kernel
theorem dX5_kindOf_40 : decode cX5_kindOf 40 = .ok (.bipush 113, 2) := by decide +kernel
theorem dX5_kindOf_42 : decode cX5_kindOf 42 = .ok (.invokevirtual 150, 3) := by decide +kernel
theorem dX5_kindOf_45 : decode cX5_kindOf 45 = .ok (.ifCond .eq 7, 3) := by decide +kernel
theorem dX5_kindOf_48 : decode cX5_kindOf 48 = .ok (.iconst 4, 1) := by decide +kernel
theorem dX5_kindOf_49 : decode cX5_kindOf 49 = .ok (.goto 4, 3) := by decide +kernel
theorem dX5_kindOf_52 : decode cX5_kindOf 52 = .ok (.iconst 0, 1) := by decide +kernel
theorem dX5_kindOf_53 : decode cX5_kindOf 53 = .ok (.ireturn, 1) := by decide +kernel
theorem dX5_readsMeasure_0 : decode cX5_readsMeasure 0 = .ok (.aload_n 0, 1) := by decide +kernel
theorem dX5_readsMeasure_1 : decode cX5_readsMeasure 1 = .ok (.getfield 7, 3) := by decide +kernel
theorem dX5_readsMeasure_4 : decode cX5_readsMeasure 4 = .ok (.bipush 12, 2) := by decide +kernel
theorem dX5_readsMeasure_6 : decode cX5_readsMeasure 6 = .ok (.iload_n 1, 1) := by decide +kernel
theorem dX5_readsMeasure_7 : decode cX5_readsMeasure 7 = .ok (.bipush 9, 2) := by decide +kernel
theorem dX5_readsMeasure_9 : decode cX5_readsMeasure 9 = .ok (.invokestatic 40, 3) := by decide +kernel
theorem dX5_readsMeasure_12 : decode cX5_readsMeasure 12 = .ok (.iaload, 1) := by decide +kernel
theorem dX5_readsMeasure_13 : decode cX5_readsMeasure 13 = .ok (.istore_n 2, 1) := by decide +kernel
theorem dX5_readsMeasure_14 : decode cX5_readsMeasure 14 = .ok (.iload_n 2, 1) := by decide +kernel
theorem dX5_readsMeasure_15 : decode cX5_readsMeasure 15 = .ok (.iconst 3, 1) := by decide +kernel
theorem dX5_readsMeasure_16 : decode cX5_readsMeasure 16 = .ok (.if_icmp .ne 9, 3) := by decide +kernel
theorem dX5_readsMeasure_19 : decode cX5_readsMeasure 19 = .ok (.aload_n 0, 1) := by decide +kernel
theorem dX5_readsMeasure_20 : decode cX5_readsMeasure 20 = .ok (.iconst 3, 1) := by decide +kernel
theorem dX5_readsMeasure_21 : decode cX5_readsMeasure 21 = .ok (.invokevirtual 153, 3) := by decide +kernel
theorem dX5_readsMeasure_24 : decode cX5_readsMeasure 24 = .ok (.return_, 1) := by decide +kernel
theorem dX5_readsMeasure_25 : decode cX5_readsMeasure 25 = .ok (.aload_n 0, 1) := by decide +kernel
theorem dX5_readsMeasure_26 : decode cX5_readsMeasure 26 = .ok (.getfield 7, 3) := by decide +kernel
theorem dX5_readsMeasure_29 : decode cX5_readsMeasure 29 = .ok (.bipush 12, 2) := by decide +kernel
theorem dX5_readsMeasure_31 : decode cX5_readsMeasure 31 = .ok (.iload_n 1, 1) := by decide +kernel
theorem dX5_readsMeasure_32 : decode cX5_readsMeasure 32 = .ok (.bipush 9, 2) := by decide +kernel
theorem dX5_readsMeasure_34 : decode cX5_readsMeasure 34 = .ok (.invokestatic 40, 3) := by decide +kernel
theorem dX5_readsMeasure_37 : decode cX5_readsMeasure 37 = .ok (.iload_n 2, 1) := by decide +kernel
theorem dX5_readsMeasure_38 : decode cX5_readsMeasure 38 = .ok (.iconst 1, 1) := by decide +kernel
theorem dX5_readsMeasure_39 : decode cX5_readsMeasure 39 = .ok (.iadd, 1) := by decide +kernel
theorem dX5_readsMeasure_40 : decode cX5_readsMeasure 40 = .ok (.iastore, 1) := by decide +kernel
theorem dX5_readsMeasure_41 : decode cX5_readsMeasure 41 = .ok (.aload_n 0, 1) := by decide +kernel
theorem dX5_readsMeasure_42 : decode cX5_readsMeasure 42 = .ok (.getfield 7, 3) := by decide +kernel
theorem dX5_readsMeasure_45 : decode cX5_readsMeasure 45 = .ok (.bipush 12, 2) := by decide +kernel
theorem dX5_readsMeasure_47 : decode cX5_readsMeasure 47 = .ok (.iload_n 1, 1) := by decide +kernel
theorem dX5_readsMeasure_48 : decode cX5_readsMeasure 48 = .ok (.iload_n 2, 1) := by decide +kernel
theorem dX5_readsMeasure_49 : decode cX5_readsMeasure 49 = .ok (.iconst 0, 1) := by decide +kernel
theorem dX5_readsMeasure_50 : decode cX5_readsMeasure 50 = .ok (.invokestatic 63, 3) := by decide +kernel
theorem dX5_readsMeasure_53 : decode cX5_readsMeasure 53 = .ok (.aload_n 0, 1) := by decide +kernel
theorem dX5_readsMeasure_54 : decode cX5_readsMeasure 54 = .ok (.invokevirtual 177, 3) := by decide +kernel
theorem dX5_readsMeasure_57 : decode cX5_readsMeasure 57 = .ok (.iastore, 1) := by decide +kernel
theorem dX5_readsMeasure_58 : decode cX5_readsMeasure 58 = .ok (.aload_n 0, 1) := by decide +kernel
theorem dX5_readsMeasure_59 : decode cX5_readsMeasure 59 = .ok (.getfield 7, 3) := by decide +kernel
theorem dX5_readsMeasure_62 : decode cX5_readsMeasure 62 = .ok (.bipush 12, 2) := by decide +kernel
theorem dX5_readsMeasure_64 : decode cX5_readsMeasure 64 = .ok (.iload_n 1, 1) := by decide +kernel
theorem dX5_readsMeasure_65 : decode cX5_readsMeasure 65 = .ok (.iload_n 2, 1) := by decide +kernel
theorem dX5_readsMeasure_66 : decode cX5_readsMeasure 66 = .ok (.iconst 2, 1) := by decide +kernel
theorem dX5_readsMeasure_67 : decode cX5_readsMeasure 67 = .ok (.invokestatic 63, 3) := by decide +kernel
theorem dX5_readsMeasure_70 : decode cX5_readsMeasure 70 = .ok (.iconst (-1), 1) := by decide +kernel
theorem dX5_readsMeasure_71 : decode cX5_readsMeasure 71 = .ok (.iastore, 1) := by decide +kernel
theorem dX5_readsMeasure_72 : decode cX5_readsMeasure 72 = .ok (.aload_n 0, 1) := by decide +kernel
theorem dX5_readsMeasure_73 : decode cX5_readsMeasure 73 = .ok (.invokevirtual 156, 3) := by decide +kernel
theorem dX5_readsMeasure_76 : decode cX5_readsMeasure 76 = .ok (.aload_n 0, 1) := by decide +kernel
theorem dX5_readsMeasure_77 : decode cX5_readsMeasure 77 = .ok (.bipush 12, 2) := by decide +kernel
theorem dX5_readsMeasure_79 : decode cX5_readsMeasure 79 = .ok (.iload_n 1, 1) := by decide +kernel
theorem dX5_readsMeasure_80 : decode cX5_readsMeasure 80 = .ok (.iload_n 2, 1) := by decide +kernel
theorem dX5_readsMeasure_81 : decode cX5_readsMeasure 81 = .ok (.iconst 1, 1) := by decide +kernel
theorem dX5_readsMeasure_82 : decode cX5_readsMeasure 82 = .ok (.invokestatic 63, 3) := by decide +kernel
theorem dX5_readsMeasure_85 : decode cX5_readsMeasure 85 = .ok (.iconst 1, 1) := by decide +kernel
theorem dX5_readsMeasure_86 : decode cX5_readsMeasure 86 = .ok (.bipush 99, 2) := by decide +kernel
theorem dX5_readsMeasure_88 : decode cX5_readsMeasure 88 = .ok (.invokevirtual 168, 3) := by decide +kernel
theorem dX5_readsMeasure_91 : decode cX5_readsMeasure 91 = .ok (.aload_n 0, 1) := by decide +kernel
theorem dX5_readsMeasure_92 : decode cX5_readsMeasure 92 = .ok (.bipush 59, 2) := by decide +kernel
theorem dX5_readsMeasure_94 : decode cX5_readsMeasure 94 = .ok (.invokevirtual 174, 3) := by decide +kernel
theorem dX5_readsMeasure_97 : decode cX5_readsMeasure 97 = .ok (.return_, 1) := by decide +kernel
theorem dX5_readsHead_0 : decode cX5_readsHead 0 = .ok (.aload_n 0, 1) := by decide +kernel
theorem dX5_readsHead_1 : decode cX5_readsHead 1 = .ok (.bipush 104, 2) := by decide +kernel
theorem dX5_readsHead_3 : decode cX5_readsHead 3 = .ok (.invokevirtual 159, 3) := by decide +kernel
theorem dX5_readsHead_6 : decode cX5_readsHead 6 = .ok (.iconst 0, 1) := by decide +kernel
theorem dX5_readsHead_7 : decode cX5_readsHead 7 = .ok (.istore_n 1, 1) := by decide +kernel
theorem dX5_readsHead_8 : decode cX5_readsHead 8 = .ok (.iload_n 1, 1) := by decide +kernel
theorem dX5_readsHead_9 : decode cX5_readsHead 9 = .ok (.iconst 4, 1) := by decide +kernel
theorem dX5_readsHead_10 : decode cX5_readsHead 10 = .ok (.if_icmp .gt 91, 3) := by decide +kernel
theorem dX5_readsHead_13 : decode cX5_readsHead 13 = .ok (.iload_n 1, 1) := by decide +kernel
theorem dX5_readsHead_14 : decode cX5_readsHead 14 = .ok (.ifCond .eq 8, 3) := by decide +kernel
theorem dX5_readsHead_17 : decode cX5_readsHead 17 = .ok (.iload_n 1, 1) := by decide +kernel
theorem dX5_readsHead_18 : decode cX5_readsHead 18 = .ok (.iconst 1, 1) := by decide +kernel
theorem dX5_readsHead_19 : decode cX5_readsHead 19 = .ok (.if_icmp .ne 7, 3) := by decide +kernel
theorem dX5_readsHead_22 : decode cX5_readsHead 22 = .ok (.iconst 1, 1) := by decide +kernel
theorem dX5_readsHead_23 : decode cX5_readsHead 23 = .ok (.goto 13, 3) := by decide +kernel
theorem dX5_readsHead_26 : decode cX5_readsHead 26 = .ok (.iload_n 1, 1) := by decide +kernel
theorem dX5_readsHead_27 : decode cX5_readsHead 27 = .ok (.iconst 4, 1) := by decide +kernel
theorem dX5_readsHead_28 : decode cX5_readsHead 28 = .ok (.if_icmp .ne 7, 3) := by decide +kernel
theorem dX5_readsHead_31 : decode cX5_readsHead 31 = .ok (.iconst 2, 1) := by decide +kernel
theorem dX5_readsHead_32 : decode cX5_readsHead 32 = .ok (.goto 4, 3) := by decide +kernel
theorem dX5_readsHead_35 : decode cX5_readsHead 35 = .ok (.iconst 0, 1) := by decide +kernel
theorem dX5_readsHead_36 : decode cX5_readsHead 36 = .ok (.istore_n 2, 1) := by decide +kernel
theorem dX5_readsHead_37 : decode cX5_readsHead 37 = .ok (.iload_n 1, 1) := by decide +kernel
theorem dX5_readsHead_38 : decode cX5_readsHead 38 = .ok (.ifCond .ne 8, 3) := by decide +kernel
theorem dX5_readsHead_41 : decode cX5_readsHead 41 = .ok (.bipush 60, 2) := by decide +kernel
theorem dX5_readsHead_43 : decode cX5_readsHead 43 = .ok (.goto 24, 3) := by decide +kernel
theorem dX5_readsHead_46 : decode cX5_readsHead 46 = .ok (.iload_n 1, 1) := by decide +kernel
theorem dX5_readsHead_47 : decode cX5_readsHead 47 = .ok (.iconst 2, 1) := by decide +kernel
theorem dX5_readsHead_48 : decode cX5_readsHead 48 = .ok (.if_icmp .ne 8, 3) := by decide +kernel
theorem dX5_readsHead_51 : decode cX5_readsHead 51 = .ok (.bipush 9, 2) := by decide +kernel
theorem dX5_readsHead_53 : decode cX5_readsHead 53 = .ok (.goto 14, 3) := by decide +kernel
theorem dX5_readsHead_56 : decode cX5_readsHead 56 = .ok (.iload_n 1, 1) := by decide +kernel
theorem dX5_readsHead_57 : decode cX5_readsHead 57 = .ok (.iconst 3, 1) := by decide +kernel
theorem dX5_readsHead_58 : decode cX5_readsHead 58 = .ok (.if_icmp .ne 7, 3) := by decide +kernel
theorem dX5_readsHead_61 : decode cX5_readsHead 61 = .ok (.iconst 3, 1) := by decide +kernel
theorem dX5_readsHead_62 : decode cX5_readsHead 62 = .ok (.goto 5, 3) := by decide +kernel
theorem dX5_readsHead_65 : decode cX5_readsHead 65 = .ok (.bipush 6, 2) := by decide +kernel
theorem dX5_readsHead_67 : decode cX5_readsHead 67 = .ok (.istore_n 3, 1) := by decide +kernel
theorem dX5_readsHead_68 : decode cX5_readsHead 68 = .ok (.aload_n 0, 1) := by decide +kernel
theorem dX5_readsHead_69 : decode cX5_readsHead 69 = .ok (.sipush 4800, 3) := by decide +kernel
theorem dX5_readsHead_72 : decode cX5_readsHead 72 = .ok (.iload_n 1, 1) := by decide +kernel
theorem dX5_readsHead_73 : decode cX5_readsHead 73 = .ok (.iadd, 1) := by decide +kernel
theorem dX5_readsHead_74 : decode cX5_readsHead 74 = .ok (.iload_n 2, 1) := by decide +kernel
theorem dX5_readsHead_75 : decode cX5_readsHead 75 = .ok (.iload_n 3, 1) := by decide +kernel
theorem dX5_readsHead_76 : decode cX5_readsHead 76 = .ok (.invokevirtual 168, 3) := by decide +kernel
theorem dX5_readsHead_79 : decode cX5_readsHead 79 = .ok (.aload_n 0, 1) := by decide +kernel
theorem dX5_readsHead_80 : decode cX5_readsHead 80 = .ok (.iload_n 1, 1) := by decide +kernel
theorem dX5_readsHead_81 : decode cX5_readsHead 81 = .ok (.iconst 4, 1) := by decide +kernel
theorem dX5_readsHead_82 : decode cX5_readsHead 82 = .ok (.if_icmp .ne 8, 3) := by decide +kernel
theorem dX5_readsHead_85 : decode cX5_readsHead 85 = .ok (.bipush 59, 2) := by decide +kernel
theorem dX5_readsHead_87 : decode cX5_readsHead 87 = .ok (.goto 5, 3) := by decide +kernel
theorem dX5_readsHead_90 : decode cX5_readsHead 90 = .ok (.bipush 44, 2) := by decide +kernel
theorem dX5_readsHead_92 : decode cX5_readsHead 92 = .ok (.invokevirtual 174, 3) := by decide +kernel
theorem dX5_readsHead_95 : decode cX5_readsHead 95 = .ok (.iinc 1 1, 3) := by decide +kernel
theorem dX5_readsHead_98 : decode cX5_readsHead 98 = .ok (.goto (-90), 3) := by decide +kernel
theorem dX5_readsHead_101 : decode cX5_readsHead 101 = .ok (.return_, 1) := by decide +kernel
theorem dX5_house_0 : decode cX5_house 0 = .ok (.iconst 0, 1) := by decide +kernel
theorem dX5_house_1 : decode cX5_house 1 = .ok (.istore_n 1, 1) := by decide +kernel
theorem dX5_house_2 : decode cX5_house 2 = .ok (.iload_n 1, 1) := by decide +kernel
theorem dX5_house_3 : decode cX5_house 3 = .ok (.sipush 400, 3) := by decide +kernel
theorem dX5_house_6 : decode cX5_house 6 = .ok (.if_icmp .ge 17, 3) := by decide +kernel
theorem dX5_house_9 : decode cX5_house 9 = .ok (.aload_n 0, 1) := by decide +kernel
theorem dX5_house_10 : decode cX5_house 10 = .ok (.bipush 12, 2) := by decide +kernel
theorem dX5_house_12 : decode cX5_house 12 = .ok (.iload_n 1, 1) := by decide +kernel
theorem dX5_house_13 : decode cX5_house 13 = .ok (.iconst 0, 1) := by decide +kernel
theorem dX5_house_14 : decode cX5_house 14 = .ok (.invokevirtual 97, 3) := by decide +kernel
theorem dX5_house_17 : decode cX5_house 17 = .ok (.iinc 1 1, 3) := by decide +kernel
theorem dX5_house_20 : decode cX5_house 20 = .ok (.goto (-18), 3) := by decide +kernel
theorem dX5_house_23 : decode cX5_house 23 = .ok (.aload_n 0, 1) := by decide +kernel
theorem dX5_house_24 : decode cX5_house 24 = .ok (.iconst 0, 1) := by decide +kernel
theorem dX5_house_25 : decode cX5_house 25 = .ok (.putfield 129, 3) := by decide +kernel
theorem dX5_house_28 : decode cX5_house 28 = .ok (.aload_n 0, 1) := by decide +kernel
theorem dX5_house_29 : decode cX5_house 29 = .ok (.iconst 0, 1) := by decide +kernel
theorem dX5_house_30 : decode cX5_house 30 = .ok (.putfield 147, 3) := by decide +kernel
theorem dX5_house_33 : decode cX5_house 33 = .ok (.aload_n 0, 1) := by decide +kernel
theorem dX5_house_34 : decode cX5_house 34 = .ok (.invokevirtual 156, 3) := by decide +kernel
theorem dX5_house_37 : decode cX5_house 37 = .ok (.aload_n 0, 1) := by decide +kernel
theorem dX5_house_38 : decode cX5_house 38 = .ok (.invokevirtual 184, 3) := by decide +kernel
theorem dX5_house_41 : decode cX5_house 41 = .ok (.aload_n 0, 1) := by decide +kernel
theorem dX5_house_42 : decode cX5_house 42 = .ok (.getfield 147, 3) := by decide +kernel
theorem dX5_house_45 : decode cX5_house 45 = .ok (.ifCond .ne 7, 3) := by decide +kernel
theorem dX5_house_48 : decode cX5_house 48 = .ok (.aload_n 0, 1) := by decide +kernel
theorem dX5_house_49 : decode cX5_house 49 = .ok (.invokevirtual 187, 3) := by decide +kernel
theorem dX5_house_52 : decode cX5_house 52 = .ok (.aload_n 0, 1) := by decide +kernel
theorem dX5_house_53 : decode cX5_house 53 = .ok (.getfield 147, 3) := by decide +kernel
theorem dX5_house_56 : decode cX5_house 56 = .ok (.ifCond .ne 18, 3) := by decide +kernel
theorem dX5_house_59 : decode cX5_house 59 = .ok (.aload_n 0, 1) := by decide +kernel
theorem dX5_house_60 : decode cX5_house 60 = .ok (.getfield 140, 3) := by decide +kernel
theorem dX5_house_63 : decode cX5_house 63 = .ok (.iconst (-1), 1) := by decide +kernel
theorem dX5_house_64 : decode cX5_house 64 = .ok (.if_icmp .eq 10, 3) := by decide +kernel
theorem dX5_house_67 : decode cX5_house 67 = .ok (.aload_n 0, 1) := by decide +kernel
theorem dX5_house_68 : decode cX5_house 68 = .ok (.invokevirtual 187, 3) := by decide +kernel
theorem dX5_house_71 : decode cX5_house 71 = .ok (.goto (-19), 3) := by decide +kernel
theorem dX5_house_74 : decode cX5_house 74 = .ok (.aload_n 0, 1) := by decide +kernel
theorem dX5_house_75 : decode cX5_house 75 = .ok (.iconst 0, 1) := by decide +kernel
theorem dX5_house_76 : decode cX5_house 76 = .ok (.putfield 124, 3) := by decide +kernel
theorem dX5_house_79 : decode cX5_house 79 = .ok (.aload_n 0, 1) := by decide +kernel
theorem dX5_house_80 : decode cX5_house 80 = .ok (.aload_n 0, 1) := by decide +kernel
theorem dX5_house_81 : decode cX5_house 81 = .ok (.getfield 147, 3) := by decide +kernel
theorem dX5_house_84 : decode cX5_house 84 = .ok (.putfield 190, 3) := by decide +kernel
theorem dX5_house_87 : decode cX5_house 87 = .ok (.aload_n 0, 1) := by decide +kernel
theorem dX5_house_88 : decode cX5_house 88 = .ok (.getfield 147, 3) := by decide +kernel
theorem dX5_house_91 : decode cX5_house 91 = .ok (.ifCond .le 11, 3) := by decide +kernel
theorem dX5_house_94 : decode cX5_house 94 = .ok (.bipush (-100), 2) := by decide +kernel
theorem dX5_house_96 : decode cX5_house 96 = .ok (.aload_n 0, 1) := by decide +kernel
theorem dX5_house_97 : decode cX5_house 97 = .ok (.getfield 131, 3) := by decide +kernel
theorem dX5_house_100 : decode cX5_house 100 = .ok (.isub, 1) := by decide +kernel
theorem dX5_house_101 : decode cX5_house 101 = .ok (.ireturn, 1) := by decide +kernel
theorem dX5_house_102 : decode cX5_house 102 = .ok (.aload_n 0, 1) := by decide +kernel
theorem dX5_house_103 : decode cX5_house 103 = .ok (.bipush 12, 2) := by decide +kernel
theorem dX5_house_105 : decode cX5_house 105 = .ok (.iconst 5, 1) := by decide +kernel
theorem dX5_house_106 : decode cX5_house 106 = .ok (.aload_n 0, 1) := by decide +kernel
theorem dX5_house_107 : decode cX5_house 107 = .ok (.bipush 12, 2) := by decide +kernel
theorem dX5_house_109 : decode cX5_house 109 = .ok (.iconst 2, 1) := by decide +kernel
theorem dX5_house_110 : decode cX5_house 110 = .ok (.invokevirtual 52, 3) := by decide +kernel
theorem dX5_house_113 : decode cX5_house 113 = .ok (.invokevirtual 97, 3) := by decide +kernel
theorem dX5_house_116 : decode cX5_house 116 = .ok (.aload_n 0, 1) := by decide +kernel
theorem dX5_house_117 : decode cX5_house 117 = .ok (.bipush 12, 2) := by decide +kernel
theorem dX5_house_119 : decode cX5_house 119 = .ok (.iconst 0, 1) := by decide +kernel
theorem dX5_house_120 : decode cX5_house 120 = .ok (.invokevirtual 193, 3) := by decide +kernel
theorem dX5_house_123 : decode cX5_house 123 = .ok (.aload_n 0, 1) := by decide +kernel
theorem dX5_house_124 : decode cX5_house 124 = .ok (.iconst 0, 1) := by decide +kernel
theorem dX5_house_125 : decode cX5_house 125 = .ok (.putfield 196, 3) := by decide +kernel
theorem dX5_house_128 : decode cX5_house 128 = .ok (.aload_n 0, 1) := by decide +kernel
theorem dX5_house_129 : decode cX5_house 129 = .ok (.getfield 7, 3) := by decide +kernel
theorem dX5_house_132 : decode cX5_house 132 = .ok (.bipush 7, 2) := by decide +kernel
theorem dX5_house_134 : decode cX5_house 134 = .ok (.iaload, 1) := by decide +kernel
theorem dX5_house_135 : decode cX5_house 135 = .ok (.ireturn, 1) := by decide +kernel
theorem dX5_fault_0 : decode cX5_fault 0 = .ok (.aload_n 0, 1) := by decide +kernel
theorem dX5_fault_1 : decode cX5_fault 1 = .ok (.getfield 190, 3) := by decide +kernel
theorem dX5_fault_4 : decode cX5_fault 4 = .ok (.ireturn, 1) := by decide +kernel
theorem dX5_notes_0 : decode cX5_notes 0 = .ok (.aload_n 0, 1) := by decide +kernel
theorem dX5_notes_1 : decode cX5_notes 1 = .ok (.getfield 196, 3) := by decide +kernel
theorem dX5_notes_4 : decode cX5_notes 4 = .ok (.bipush 10, 2) := by decide +kernel
theorem dX5_notes_6 : decode cX5_notes 6 = .ok (.if_icmp .ne 35, 3) := by decide +kernel
theorem dX5_notes_9 : decode cX5_notes 9 = .ok (.iconst 1, 1) := by decide +kernel
theorem dX5_notes_10 : decode cX5_notes 10 = .ok (.istore_n 1, 1) := by decide +kernel
theorem dX5_notes_11 : decode cX5_notes 11 = .ok (.iload_n 1, 1) := by decide +kernel
theorem dX5_notes_12 : decode cX5_notes 12 = .ok (.bipush 10, 2) := by decide +kernel
theorem dX5_notes_14 : decode cX5_notes 14 = .ok (.if_icmp .ge 17, 3) := by decide +kernel
theorem dX5_notes_17 : decode cX5_notes 17 = .ok (.aload_n 0, 1) := by decide +kernel
theorem dX5_notes_18 : decode cX5_notes 18 = .ok (.iload_n 1, 1) := by decide +kernel
theorem dX5_notes_19 : decode cX5_notes 19 = .ok (.iconst 1, 1) := by decide +kernel
theorem dX5_notes_20 : decode cX5_notes 20 = .ok (.iadd, 1) := by decide +kernel
theorem dX5_notes_21 : decode cX5_notes 21 = .ok (.iload_n 1, 1) := by decide +kernel
theorem dX5_notes_22 : decode cX5_notes 22 = .ok (.invokevirtual 193, 3) := by decide +kernel
theorem dX5_notes_25 : decode cX5_notes 25 = .ok (.iinc 1 1, 3) := by decide +kernel
theorem dX5_notes_28 : decode cX5_notes 28 = .ok (.goto (-17), 3) := by decide +kernel
theorem dX5_notes_31 : decode cX5_notes 31 = .ok (.aload_n 0, 1) := by decide +kernel
theorem dX5_notes_32 : decode cX5_notes 32 = .ok (.dup, 1) := by decide +kernel
theorem dX5_notes_33 : decode cX5_notes 33 = .ok (.getfield 196, 3) := by decide +kernel
theorem dX5_notes_36 : decode cX5_notes 36 = .ok (.iconst 1, 1) := by decide +kernel
theorem dX5_notes_37 : decode cX5_notes 37 = .ok (.isub, 1) := by decide +kernel
theorem dX5_notes_38 : decode cX5_notes 38 = .ok (.putfield 196, 3) := by decide +kernel
theorem dX5_notes_41 : decode cX5_notes 41 = .ok (.aload_n 0, 1) := by decide +kernel
theorem dX5_notes_42 : decode cX5_notes 42 = .ok (.dup, 1) := by decide +kernel
theorem dX5_notes_43 : decode cX5_notes 43 = .ok (.getfield 196, 3) := by decide +kernel
theorem dX5_notes_46 : decode cX5_notes 46 = .ok (.iconst 1, 1) := by decide +kernel
theorem dX5_notes_47 : decode cX5_notes 47 = .ok (.iadd, 1) := by decide +kernel
theorem dX5_notes_48 : decode cX5_notes 48 = .ok (.putfield 196, 3) := by decide +kernel
theorem dX5_notes_51 : decode cX5_notes 51 = .ok (.aload_n 0, 1) := by decide +kernel
theorem dX5_notes_52 : decode cX5_notes 52 = .ok (.iconst 0, 1) := by decide +kernel
theorem dX5_notes_53 : decode cX5_notes 53 = .ok (.aload_n 0, 1) := by decide +kernel
theorem dX5_notes_54 : decode cX5_notes 54 = .ok (.getfield 196, 3) := by decide +kernel
theorem dX5_notes_57 : decode cX5_notes 57 = .ok (.invokevirtual 193, 3) := by decide +kernel
theorem dX5_notes_60 : decode cX5_notes 60 = .ok (.return_, 1) := by decide +kernel
theorem dX5_load_0 : decode cX5_load 0 = .ok (.aload_n 0, 1) := by decide +kernel
theorem dX5_load_1 : decode cX5_load 1 = .ok (.iload_n 1, 1) := by decide +kernel
theorem dX5_load_2 : decode cX5_load 2 = .ok (.iload_n 2, 1) := by decide +kernel
theorem dX5_load_3 : decode cX5_load 3 = .ok (.invokevirtual 199, 3) := by decide +kernel
theorem dX5_load_6 : decode cX5_load 6 = .ok (.ifCond .ne 6, 3) := by decide +kernel
theorem dX5_load_9 : decode cX5_load 9 = .ok (.ldc 203, 2) := by decide +kernel
theorem dX5_load_11 : decode cX5_load 11 = .ok (.ireturn, 1) := by decide +kernel
theorem dX5_load_12 : decode cX5_load 12 = .ok (.iload_n 3, 1) := by decide +kernel
theorem dX5_load_13 : decode cX5_load 13 = .ok (.i2l, 1) := by decide +kernel
theorem dX5_load_14 : decode cX5_load 14 = .ok (.ldc2_w 204, 3) := by decide +kernel
theorem dX5_load_17 : decode cX5_load 17 = .ok (.ldc2_w 206, 3) := by decide +kernel
theorem dX5_load_20 : decode cX5_load 20 = .ok (.invokestatic 44, 3) := by decide +kernel
theorem dX5_load_23 : decode cX5_load 23 = .ok (.ifCond .ne 6, 3) := by decide +kernel
theorem dX5_load_26 : decode cX5_load 26 = .ok (.ldc 123, 2) := by decide +kernel
theorem dX5_load_28 : decode cX5_load 28 = .ok (.ireturn, 1) := by decide +kernel
theorem dX5_load_29 : decode cX5_load 29 = .ok (.aload_n 0, 1) := by decide +kernel
theorem dX5_load_30 : decode cX5_load 30 = .ok (.invokevirtual 208, 3) := by decide +kernel
theorem dX5_load_33 : decode cX5_load 33 = .ok (.aload_n 0, 1) := by decide +kernel
theorem dX5_load_34 : decode cX5_load 34 = .ok (.getfield 7, 3) := by decide +kernel
theorem dX5_load_37 : decode cX5_load 37 = .ok (.iconst 0, 1) := by decide +kernel
theorem dX5_load_38 : decode cX5_load 38 = .ok (.iload_n 1, 1) := by decide +kernel
theorem dX5_load_39 : decode cX5_load 39 = .ok (.iload_n 2, 1) := by decide +kernel
theorem dX5_load_40 : decode cX5_load 40 = .ok (.iconst 2, 1) := by decide +kernel
theorem dX5_load_41 : decode cX5_load 41 = .ok (.invokestatic 63, 3) := by decide +kernel
theorem dX5_load_44 : decode cX5_load 44 = .ok (.iaload, 1) := by decide +kernel
theorem dX5_load_45 : decode cX5_load 45 = .ok (.istore 4, 2) := by decide +kernel
theorem dX5_load_47 : decode cX5_load 47 = .ok (.aload_n 0, 1) := by decide +kernel
theorem dX5_load_48 : decode cX5_load 48 = .ok (.getfield 7, 3) := by decide +kernel
theorem dX5_load_51 : decode cX5_load 51 = .ok (.iconst 0, 1) := by decide +kernel
theorem dX5_load_52 : decode cX5_load 52 = .ok (.iload_n 1, 1) := by decide +kernel
theorem dX5_load_53 : decode cX5_load 53 = .ok (.iload_n 2, 1) := by decide +kernel
theorem dX5_load_54 : decode cX5_load 54 = .ok (.iconst 2, 1) := by decide +kernel
theorem dX5_load_55 : decode cX5_load 55 = .ok (.invokestatic 63, 3) := by decide +kernel
theorem dX5_load_58 : decode cX5_load 58 = .ok (.iload_n 3, 1) := by decide +kernel
theorem dX5_load_59 : decode cX5_load 59 = .ok (.iastore, 1) := by decide +kernel
theorem dX5_load_60 : decode cX5_load 60 = .ok (.iload 4, 2) := by decide +kernel
theorem dX5_load_62 : decode cX5_load 62 = .ok (.ireturn, 1) := by decide +kernel
theorem dX5_set_0 : decode cX5_set 0 = .ok (.aload_n 0, 1) := by decide +kernel
theorem dX5_set_1 : decode cX5_set 1 = .ok (.iload_n 1, 1) := by decide +kernel
theorem dX5_set_2 : decode cX5_set 2 = .ok (.invokevirtual 48, 3) := by decide +kernel
theorem dX5_set_5 : decode cX5_set 5 = .ok (.ifCond .ne 6, 3) := by decide +kernel
theorem dX5_set_8 : decode cX5_set 8 = .ok (.ldc 203, 2) := by decide +kernel
theorem dX5_set_10 : decode cX5_set 10 = .ok (.ireturn, 1) := by decide +kernel
theorem dX5_set_11 : decode cX5_set 11 = .ok (.iload_n 2, 1) := by decide +kernel
theorem dX5_set_12 : decode cX5_set 12 = .ok (.i2l, 1) := by decide +kernel
theorem dX5_set_13 : decode cX5_set 13 = .ok (.lconst 0, 1) := by decide +kernel
theorem dX5_set_14 : decode cX5_set 14 = .ok (.ldc2_w 211, 3) := by decide +kernel
theorem dX5_set_17 : decode cX5_set 17 = .ok (.invokestatic 44, 3) := by decide +kernel
theorem dX5_set_20 : decode cX5_set 20 = .ok (.ifCond .eq 21, 3) := by decide +kernel
theorem dX5_set_23 : decode cX5_set 23 = .ok (.iload_n 3, 1) := by decide +kernel
theorem dX5_set_24 : decode cX5_set 24 = .ok (.i2l, 1) := by decide +kernel
theorem dX5_set_25 : decode cX5_set 25 = .ok (.iload_n 2, 1) := by decide +kernel
theorem dX5_set_26 : decode cX5_set 26 = .ok (.invokestatic 162, 3) := by decide +kernel
theorem dX5_set_29 : decode cX5_set 29 = .ok (.i2l, 1) := by decide +kernel
theorem dX5_set_30 : decode cX5_set 30 = .ok (.iload_n 2, 1) := by decide +kernel
theorem dX5_set_31 : decode cX5_set 31 = .ok (.invokestatic 165, 3) := by decide +kernel
theorem dX5_set_34 : decode cX5_set 34 = .ok (.i2l, 1) := by decide +kernel
theorem dX5_set_35 : decode cX5_set 35 = .ok (.invokestatic 44, 3) := by decide +kernel
theorem dX5_set_38 : decode cX5_set 38 = .ok (.ifCond .ne 6, 3) := by decide +kernel
theorem dX5_set_41 : decode cX5_set 41 = .ok (.ldc 123, 2) := by decide +kernel
theorem dX5_set_43 : decode cX5_set 43 = .ok (.ireturn, 1) := by decide +kernel
theorem dX5_set_44 : decode cX5_set 44 = .ok (.aload_n 0, 1) := by decide +kernel
theorem dX5_set_45 : decode cX5_set 45 = .ok (.getfield 7, 3) := by decide +kernel
theorem dX5_set_48 : decode cX5_set 48 = .ok (.iconst 0, 1) := by decide +kernel
theorem dX5_set_49 : decode cX5_set 49 = .ok (.iload_n 1, 1) := by decide +kernel
theorem dX5_set_50 : decode cX5_set 50 = .ok (.iload_n 2, 1) := by decide +kernel
theorem dX5_set_51 : decode cX5_set 51 = .ok (.invokestatic 40, 3) := by decide +kernel
theorem dX5_set_54 : decode cX5_set 54 = .ok (.iaload, 1) := by decide +kernel
theorem dX5_set_55 : decode cX5_set 55 = .ok (.istore 4, 2) := by decide +kernel
theorem dX5_set_57 : decode cX5_set 57 = .ok (.iload_n 2, 1) := by decide +kernel
theorem dX5_set_58 : decode cX5_set 58 = .ok (.ifCond .ne 41, 3) := by decide +kernel
theorem dX5_set_61 : decode cX5_set 61 = .ok (.iload_n 3, 1) := by decide +kernel
theorem dX5_set_62 : decode cX5_set 62 = .ok (.aload_n 0, 1) := by decide +kernel
theorem dX5_set_63 : decode cX5_set 63 = .ok (.getfield 7, 3) := by decide +kernel
theorem dX5_set_66 : decode cX5_set 66 = .ok (.iconst 0, 1) := by decide +kernel
theorem dX5_set_67 : decode cX5_set 67 = .ok (.iload_n 1, 1) := by decide +kernel
theorem dX5_set_68 : decode cX5_set 68 = .ok (.iconst 1, 1) := by decide +kernel
theorem dX5_set_69 : decode cX5_set 69 = .ok (.invokestatic 40, 3) := by decide +kernel
theorem dX5_set_72 : decode cX5_set 72 = .ok (.iaload, 1) := by decide +kernel
theorem dX5_set_73 : decode cX5_set 73 = .ok (.if_icmp .gt 22, 3) := by decide +kernel
theorem dX5_set_76 : decode cX5_set 76 = .ok (.aload_n 0, 1) := by decide +kernel
theorem dX5_set_77 : decode cX5_set 77 = .ok (.iconst 0, 1) := by decide +kernel
theorem dX5_set_78 : decode cX5_set 78 = .ok (.invokevirtual 171, 3) := by decide +kernel
theorem dX5_set_81 : decode cX5_set 81 = .ok (.iload 4, 2) := by decide +kernel
theorem dX5_set_83 : decode cX5_set 83 = .ok (.isub, 1) := by decide +kernel
theorem dX5_set_84 : decode cX5_set 84 = .ok (.iload_n 3, 1) := by decide +kernel
theorem dX5_set_85 : decode cX5_set 85 = .ok (.iadd, 1) := by decide +kernel
theorem dX5_set_86 : decode cX5_set 86 = .ok (.aload_n 0, 1) := by decide +kernel
theorem dX5_set_87 : decode cX5_set 87 = .ok (.getfield 7, 3) := by decide +kernel
theorem dX5_set_90 : decode cX5_set 90 = .ok (.iconst 0, 1) := by decide +kernel
theorem dX5_set_91 : decode cX5_set 91 = .ok (.iaload, 1) := by decide +kernel
theorem dX5_set_92 : decode cX5_set 92 = .ok (.if_icmp .le 7, 3) := by decide +kernel
theorem dX5_set_95 : decode cX5_set 95 = .ok (.iconst 1, 1) := by decide +kernel
theorem dX5_set_96 : decode cX5_set 96 = .ok (.goto 4, 3) := by decide +kernel
theorem dX5_set_99 : decode cX5_set 99 = .ok (.iconst 0, 1) := by decide +kernel
theorem dX5_set_100 : decode cX5_set 100 = .ok (.istore 5, 2) := by decide +kernel
theorem dX5_set_102 : decode cX5_set 102 = .ok (.iload 5, 2) := by decide +kernel
theorem dX5_set_104 : decode cX5_set 104 = .ok (.ifCond .ne 23, 3) := by decide +kernel
theorem dX5_set_107 : decode cX5_set 107 = .ok (.iload_n 2, 1) := by decide +kernel
theorem dX5_set_108 : decode cX5_set 108 = .ok (.iconst 1, 1) := by decide +kernel
theorem dX5_set_109 : decode cX5_set 109 = .ok (.if_icmp .ne 21, 3) := by decide +kernel
theorem dX5_set_112 : decode cX5_set 112 = .ok (.iload_n 3, 1) := by decide +kernel
theorem dX5_set_113 : decode cX5_set 113 = .ok (.aload_n 0, 1) := by decide +kernel
theorem dX5_set_114 : decode cX5_set 114 = .ok (.getfield 7, 3) := by decide +kernel
theorem dX5_set_117 : decode cX5_set 117 = .ok (.iconst 0, 1) := by decide +kernel
theorem dX5_set_118 : decode cX5_set 118 = .ok (.iload_n 1, 1) := by decide +kernel
theorem dX5_set_119 : decode cX5_set 119 = .ok (.iconst 0, 1) := by decide +kernel
theorem dX5_set_120 : decode cX5_set 120 = .ok (.invokestatic 40, 3) := by decide +kernel
theorem dX5_set_123 : decode cX5_set 123 = .ok (.iaload, 1) := by decide +kernel
theorem dX5_set_124 : decode cX5_set 124 = .ok (.if_icmp .ge 6, 3) := by decide +kernel
theorem dX5_set_127 : decode cX5_set 127 = .ok (.ldc 213, 2) := by decide +kernel
theorem dX5_set_129 : decode cX5_set 129 = .ok (.ireturn, 1) := by decide +kernel
theorem dX5_set_130 : decode cX5_set 130 = .ok (.aload_n 0, 1) := by decide +kernel
theorem dX5_set_131 : decode cX5_set 131 = .ok (.invokevirtual 208, 3) := by decide +kernel
theorem dX5_set_134 : decode cX5_set 134 = .ok (.aload_n 0, 1) := by decide +kernel
theorem dX5_set_135 : decode cX5_set 135 = .ok (.getfield 7, 3) := by decide +kernel
theorem dX5_set_138 : decode cX5_set 138 = .ok (.iconst 0, 1) := by decide +kernel
theorem dX5_set_139 : decode cX5_set 139 = .ok (.iload_n 1, 1) := by decide +kernel
theorem dX5_set_140 : decode cX5_set 140 = .ok (.iload_n 2, 1) := by decide +kernel
theorem dX5_set_141 : decode cX5_set 141 = .ok (.invokestatic 40, 3) := by decide +kernel
theorem dX5_set_144 : decode cX5_set 144 = .ok (.iload_n 3, 1) := by decide +kernel
theorem dX5_set_145 : decode cX5_set 145 = .ok (.iastore, 1) := by decide +kernel
theorem dX5_set_146 : decode cX5_set 146 = .ok (.iload 4, 2) := by decide +kernel
theorem dX5_set_148 : decode cX5_set 148 = .ok (.ireturn, 1) := by decide +kernel
theorem dX5_round_0 : decode cX5_round 0 = .ok (.aload_n 0, 1) := by decide +kernel
theorem dX5_round_1 : decode cX5_round 1 = .ok (.invokevirtual 214, 3) := by decide +kernel
theorem dX5_round_4 : decode cX5_round 4 = .ok (.ifCond .ne 6, 3) := by decide +kernel
theorem dX5_round_7 : decode cX5_round 7 = .ok (.ldc 203, 2) := by decide +kernel
theorem dX5_round_9 : decode cX5_round 9 = .ok (.ireturn, 1) := by decide +kernel
theorem dX5_round_10 : decode cX5_round 10 = .ok (.aload_n 0, 1) := by decide +kernel
theorem dX5_round_11 : decode cX5_round 11 = .ok (.invokevirtual 208, 3) := by decide +kernel
theorem dX5_round_14 : decode cX5_round 14 = .ok (.aload_n 0, 1) := by decide +kernel
theorem dX5_round_15 : decode cX5_round 15 = .ok (.iconst 0, 1) := by decide +kernel
theorem dX5_round_16 : decode cX5_round 16 = .ok (.invokevirtual 218, 3) := by decide +kernel
theorem dX5_round_19 : decode cX5_round 19 = .ok (.aload_n 0, 1) := by decide +kernel
theorem dX5_round_20 : decode cX5_round 20 = .ok (.iconst 0, 1) := by decide +kernel
theorem dX5_round_21 : decode cX5_round 21 = .ok (.invokevirtual 94, 3) := by decide +kernel
theorem dX5_round_24 : decode cX5_round 24 = .ok (.ireturn, 1) := by decide +kernel
theorem dX5_undo_0 : decode cX5_undo 0 = .ok (.aload_n 0, 1) := by decide +kernel
theorem dX5_undo_1 : decode cX5_undo 1 = .ok (.invokevirtual 214, 3) := by decide +kernel
theorem dX5_undo_4 : decode cX5_undo 4 = .ok (.ifCond .ne 6, 3) := by decide +kernel
theorem dX5_undo_7 : decode cX5_undo 7 = .ok (.ldc 203, 2) := by decide +kernel
theorem dX5_undo_9 : decode cX5_undo 9 = .ok (.ireturn, 1) := by decide +kernel
theorem dX5_undo_10 : decode cX5_undo 10 = .ok (.aload_n 0, 1) := by decide +kernel
theorem dX5_undo_11 : decode cX5_undo 11 = .ok (.getfield 196, 3) := by decide +kernel
theorem dX5_undo_14 : decode cX5_undo 14 = .ok (.ifCond .ne 6, 3) := by decide +kernel
theorem dX5_undo_17 : decode cX5_undo 17 = .ok (.ldc 213, 2) := by decide +kernel
theorem dX5_undo_19 : decode cX5_undo 19 = .ok (.ireturn, 1) := by decide +kernel
theorem dX5_undo_20 : decode cX5_undo 20 = .ok (.aload_n 0, 1) := by decide +kernel
theorem dX5_undo_21 : decode cX5_undo 21 = .ok (.aload_n 0, 1) := by decide +kernel
theorem dX5_undo_22 : decode cX5_undo 22 = .ok (.getfield 196, 3) := by decide +kernel
theorem dX5_undo_25 : decode cX5_undo 25 = .ok (.iconst 0, 1) := by decide +kernel
theorem dX5_undo_26 : decode cX5_undo 26 = .ok (.invokevirtual 193, 3) := by decide +kernel
theorem dX5_undo_29 : decode cX5_undo 29 = .ok (.aload_n 0, 1) := by decide +kernel
theorem dX5_undo_30 : decode cX5_undo 30 = .ok (.dup, 1) := by decide +kernel
theorem dX5_undo_31 : decode cX5_undo 31 = .ok (.getfield 196, 3) := by decide +kernel
theorem dX5_undo_34 : decode cX5_undo 34 = .ok (.iconst 1, 1) := by decide +kernel
theorem dX5_undo_35 : decode cX5_undo 35 = .ok (.isub, 1) := by decide +kernel
theorem dX5_undo_36 : decode cX5_undo 36 = .ok (.putfield 196, 3) := by decide +kernel
theorem dX5_undo_39 : decode cX5_undo 39 = .ok (.aload_n 0, 1) := by decide +kernel
theorem dX5_undo_40 : decode cX5_undo 40 = .ok (.getfield 196, 3) := by decide +kernel
theorem dX5_undo_43 : decode cX5_undo 43 = .ok (.ireturn, 1) := by decide +kernel
theorem dX5_nextStarting_0 : decode cX5_nextStarting 0 = .ok (.iconst (-1), 1) := by decide +kernel
theorem dX5_nextStarting_1 : decode cX5_nextStarting 1 = .ok (.istore_n 2, 1) := by decide +kernel
theorem dX5_nextStarting_2 : decode cX5_nextStarting 2 = .ok (.bipush 6, 2) := by decide +kernel
theorem dX5_nextStarting_4 : decode cX5_nextStarting 4 = .ok (.istore_n 3, 1) := by decide +kernel
theorem dX5_nextStarting_5 : decode cX5_nextStarting 5 = .ok (.iload_n 3, 1) := by decide +kernel
theorem dX5_nextStarting_6 : decode cX5_nextStarting 6 = .ok (.ifCond .lt 40, 3) := by decide +kernel
theorem dX5_nextStarting_9 : decode cX5_nextStarting 9 = .ok (.aload_n 0, 1) := by decide +kernel
theorem dX5_nextStarting_10 : decode cX5_nextStarting 10 = .ok (.getfield 7, 3) := by decide +kernel
theorem dX5_nextStarting_13 : decode cX5_nextStarting 13 = .ok (.iconst 0, 1) := by decide +kernel
theorem dX5_nextStarting_14 : decode cX5_nextStarting 14 = .ok (.iload_n 1, 1) := by decide +kernel
theorem dX5_nextStarting_15 : decode cX5_nextStarting 15 = .ok (.bipush 11, 2) := by decide +kernel
theorem dX5_nextStarting_17 : decode cX5_nextStarting 17 = .ok (.iload_n 3, 1) := by decide +kernel
theorem dX5_nextStarting_18 : decode cX5_nextStarting 18 = .ok (.iadd, 1) := by decide +kernel
theorem dX5_nextStarting_19 : decode cX5_nextStarting 19 = .ok (.invokestatic 40, 3) := by decide +kernel
theorem dX5_nextStarting_22 : decode cX5_nextStarting 22 = .ok (.iaload, 1) := by decide +kernel
theorem dX5_nextStarting_23 : decode cX5_nextStarting 23 = .ok (.ifCond .le 15, 3) := by decide +kernel
theorem dX5_nextStarting_26 : decode cX5_nextStarting 26 = .ok (.aload_n 0, 1) := by decide +kernel
theorem dX5_nextStarting_27 : decode cX5_nextStarting 27 = .ok (.getfield 7, 3) := by decide +kernel
theorem dX5_nextStarting_30 : decode cX5_nextStarting 30 = .ok (.bipush 6, 2) := by decide +kernel
theorem dX5_nextStarting_32 : decode cX5_nextStarting 32 = .ok (.iaload, 1) := by decide +kernel
theorem dX5_nextStarting_33 : decode cX5_nextStarting 33 = .ok (.iload_n 3, 1) := by decide +kernel
theorem dX5_nextStarting_34 : decode cX5_nextStarting 34 = .ok (.iadd, 1) := by decide +kernel
theorem dX5_nextStarting_35 : decode cX5_nextStarting 35 = .ok (.goto 4, 3) := by decide +kernel
theorem dX5_nextStarting_38 : decode cX5_nextStarting 38 = .ok (.iload_n 2, 1) := by decide +kernel
theorem dX5_nextStarting_39 : decode cX5_nextStarting 39 = .ok (.istore_n 2, 1) := by decide +kernel
theorem dX5_nextStarting_40 : decode cX5_nextStarting 40 = .ok (.iinc 3 (-1), 3) := by decide +kernel
theorem dX5_nextStarting_43 : decode cX5_nextStarting 43 = .ok (.goto (-38), 3) := by decide +kernel
theorem dX5_nextStarting_46 : decode cX5_nextStarting 46 = .ok (.iload_n 2, 1) := by decide +kernel
theorem dX5_nextStarting_47 : decode cX5_nextStarting 47 = .ok (.ireturn, 1) := by decide +kernel
theorem dX5_service_0 : decode cX5_service 0 = .ok (.aload_n 0, 1) := by decide +kernel
theorem dX5_service_1 : decode cX5_service 1 = .ok (.iload_n 1, 1) := by decide +kernel
theorem dX5_service_2 : decode cX5_service 2 = .ok (.invokevirtual 48, 3) := by decide +kernel
theorem dX5_service_5 : decode cX5_service 5 = .ok (.ifCond .ne 6, 3) := by decide +kernel
theorem dX5_service_8 : decode cX5_service 8 = .ok (.ldc 203, 2) := by decide +kernel
theorem dX5_service_10 : decode cX5_service 10 = .ok (.ireturn, 1) := by decide +kernel
theorem dX5_service_11 : decode cX5_service 11 = .ok (.iload_n 2, 1) := by decide +kernel
theorem dX5_service_12 : decode cX5_service 12 = .ok (.tableswitch 122 9 15 #[44, 57, 64, 77, 83, 96, 109], 44) := by decide +kernel
theorem dX5_service_56 : decode cX5_service 56 = .ok (.aload_n 0, 1) := by decide +kernel
theorem dX5_service_57 : decode cX5_service 57 = .ok (.getfield 7, 3) := by decide +kernel
theorem dX5_service_60 : decode cX5_service 60 = .ok (.iconst 0, 1) := by decide +kernel
theorem dX5_service_61 : decode cX5_service 61 = .ok (.iload_n 1, 1) := by decide +kernel
theorem dX5_service_62 : decode cX5_service 62 = .ok (.bipush 9, 2) := by decide +kernel
theorem dX5_service_64 : decode cX5_service 64 = .ok (.invokestatic 40, 3) := by decide +kernel
theorem dX5_service_67 : decode cX5_service 67 = .ok (.iaload, 1) := by decide +kernel
theorem dX5_service_68 : decode cX5_service 68 = .ok (.ireturn, 1) := by decide +kernel
theorem dX5_service_69 : decode cX5_service 69 = .ok (.aload_n 0, 1) := by decide +kernel
theorem dX5_service_70 : decode cX5_service 70 = .ok (.iconst 0, 1) := by decide +kernel
theorem dX5_service_71 : decode cX5_service 71 = .ok (.iload_n 1, 1) := by decide +kernel
theorem dX5_service_72 : decode cX5_service 72 = .ok (.invokevirtual 56, 3) := by decide +kernel
theorem dX5_service_75 : decode cX5_service 75 = .ok (.ireturn, 1) := by decide +kernel
theorem dX5_service_76 : decode cX5_service 76 = .ok (.aload_n 0, 1) := by decide +kernel
theorem dX5_service_77 : decode cX5_service 77 = .ok (.getfield 7, 3) := by decide +kernel
theorem dX5_service_80 : decode cX5_service 80 = .ok (.iconst 0, 1) := by decide +kernel
theorem dX5_service_81 : decode cX5_service 81 = .ok (.iload_n 1, 1) := by decide +kernel
theorem dX5_service_82 : decode cX5_service 82 = .ok (.bipush 10, 2) := by decide +kernel
theorem dX5_service_84 : decode cX5_service 84 = .ok (.invokestatic 40, 3) := by decide +kernel
theorem dX5_service_87 : decode cX5_service 87 = .ok (.iaload, 1) := by decide +kernel
theorem dX5_service_88 : decode cX5_service 88 = .ok (.ireturn, 1) := by decide +kernel
theorem dX5_service_89 : decode cX5_service 89 = .ok (.aload_n 0, 1) := by decide +kernel
theorem dX5_service_90 : decode cX5_service 90 = .ok (.iload_n 1, 1) := by decide +kernel
theorem dX5_service_91 : decode cX5_service 91 = .ok (.invokevirtual 221, 3) := by decide +kernel
theorem dX5_service_94 : decode cX5_service 94 = .ok (.ireturn, 1) := by decide +kernel
theorem dX5_service_95 : decode cX5_service 95 = .ok (.aload_n 0, 1) := by decide +kernel
theorem dX5_service_96 : decode cX5_service 96 = .ok (.getfield 7, 3) := by decide +kernel
theorem dX5_service_99 : decode cX5_service 99 = .ok (.iconst 0, 1) := by decide +kernel
theorem dX5_service_100 : decode cX5_service 100 = .ok (.iload_n 1, 1) := by decide +kernel
theorem dX5_service_101 : decode cX5_service 101 = .ok (.bipush 32, 2) := by decide +kernel
theorem dX5_service_103 : decode cX5_service 103 = .ok (.invokestatic 40, 3) := by decide +kernel
theorem dX5_service_106 : decode cX5_service 106 = .ok (.iaload, 1) := by decide +kernel
theorem dX5_service_107 : decode cX5_service 107 = .ok (.ireturn, 1) := by decide +kernel
theorem dX5_service_108 : decode cX5_service 108 = .ok (.aload_n 0, 1) := by decide +kernel
theorem dX5_service_109 : decode cX5_service 109 = .ok (.getfield 7, 3) := by decide +kernel
theorem dX5_service_112 : decode cX5_service 112 = .ok (.iconst 0, 1) := by decide +kernel
theorem dX5_service_113 : decode cX5_service 113 = .ok (.iload_n 1, 1) := by decide +kernel
theorem dX5_service_114 : decode cX5_service 114 = .ok (.bipush 33, 2) := by decide +kernel
theorem dX5_service_116 : decode cX5_service 116 = .ok (.invokestatic 40, 3) := by decide +kernel
theorem dX5_service_119 : decode cX5_service 119 = .ok (.iaload, 1) := by decide +kernel
theorem dX5_service_120 : decode cX5_service 120 = .ok (.ireturn, 1) := by decide +kernel
theorem dX5_service_121 : decode cX5_service 121 = .ok (.aload_n 0, 1) := by decide +kernel
theorem dX5_service_122 : decode cX5_service 122 = .ok (.getfield 7, 3) := by decide +kernel
theorem dX5_service_125 : decode cX5_service 125 = .ok (.iconst 0, 1) := by decide +kernel
theorem dX5_service_126 : decode cX5_service 126 = .ok (.iload_n 1, 1) := by decide +kernel
theorem dX5_service_127 : decode cX5_service 127 = .ok (.bipush 34, 2) := by decide +kernel
theorem dX5_service_129 : decode cX5_service 129 = .ok (.invokestatic 40, 3) := by decide +kernel
theorem dX5_service_132 : decode cX5_service 132 = .ok (.iaload, 1) := by decide +kernel
theorem dX5_service_133 : decode cX5_service 133 = .ok (.ireturn, 1) := by decide +kernel
theorem dX5_service_134 : decode cX5_service 134 = .ok (.iload_n 2, 1) := by decide +kernel
theorem dX5_service_135 : decode cX5_service 135 = .ok (.i2l, 1) := by decide +kernel
theorem dX5_service_136 : decode cX5_service 136 = .ok (.lconst 0, 1) := by decide +kernel
theorem dX5_service_137 : decode cX5_service 137 = .ok (.ldc2_w 211, 3) := by decide +kernel
theorem dX5_service_140 : decode cX5_service 140 = .ok (.invokestatic 44, 3) := by decide +kernel
theorem dX5_service_143 : decode cX5_service 143 = .ok (.ifCond .eq 17, 3) := by decide +kernel
theorem dX5_service_146 : decode cX5_service 146 = .ok (.aload_n 0, 1) := by decide +kernel
theorem dX5_service_147 : decode cX5_service 147 = .ok (.getfield 7, 3) := by decide +kernel
theorem dX5_service_150 : decode cX5_service 150 = .ok (.iconst 0, 1) := by decide +kernel
theorem dX5_service_151 : decode cX5_service 151 = .ok (.iload_n 1, 1) := by decide +kernel
theorem dX5_service_152 : decode cX5_service 152 = .ok (.iload_n 2, 1) := by decide +kernel
theorem dX5_service_153 : decode cX5_service 153 = .ok (.invokestatic 40, 3) := by decide +kernel
theorem dX5_service_156 : decode cX5_service 156 = .ok (.iaload, 1) := by decide +kernel
theorem dX5_service_157 : decode cX5_service 157 = .ok (.goto 5, 3) := by decide +kernel
theorem dX5_service_160 : decode cX5_service 160 = .ok (.ldc 123, 2) := by decide +kernel
theorem dX5_service_162 : decode cX5_service 162 = .ok (.ireturn, 1) := by decide +kernel
theorem dX5_tries_0 : decode cX5_tries 0 = .ok (.aload_n 0, 1) := by decide +kernel
theorem dX5_tries_1 : decode cX5_tries 1 = .ok (.iconst 0, 1) := by decide +kernel
theorem dX5_tries_2 : decode cX5_tries 2 = .ok (.bipush 11, 2) := by decide +kernel
theorem dX5_tries_4 : decode cX5_tries 4 = .ok (.invokevirtual 193, 3) := by decide +kernel
theorem dX5_tries_7 : decode cX5_tries 7 = .ok (.aload_n 0, 1) := by decide +kernel
theorem dX5_tries_8 : decode cX5_tries 8 = .ok (.bipush 11, 2) := by decide +kernel
theorem dX5_tries_10 : decode cX5_tries 10 = .ok (.invokevirtual 105, 3) := by decide +kernel
theorem dX5_tries_13 : decode cX5_tries 13 = .ok (.return_, 1) := by decide +kernel
theorem dX5_measure_0 : decode cX5_measure 0 = .ok (.aload_n 0, 1) := by decide +kernel
theorem dX5_measure_1 : decode cX5_measure 1 = .ok (.iload_n 1, 1) := by decide +kernel
theorem dX5_measure_2 : decode cX5_measure 2 = .ok (.iload_n 2, 1) := by decide +kernel
theorem dX5_measure_3 : decode cX5_measure 3 = .ok (.invokevirtual 199, 3) := by decide +kernel
theorem dX5_measure_6 : decode cX5_measure 6 = .ok (.ifCond .ne 6, 3) := by decide +kernel
theorem dX5_measure_9 : decode cX5_measure 9 = .ok (.ldc 203, 2) := by decide +kernel
theorem dX5_measure_11 : decode cX5_measure 11 = .ok (.ireturn, 1) := by decide +kernel
theorem dX5_measure_12 : decode cX5_measure 12 = .ok (.iload_n 3, 1) := by decide +kernel
theorem dX5_measure_13 : decode cX5_measure 13 = .ok (.i2l, 1) := by decide +kernel
theorem dX5_measure_14 : decode cX5_measure 14 = .ok (.lconst 0, 1) := by decide +kernel
theorem dX5_measure_15 : decode cX5_measure 15 = .ok (.ldc2_w 224, 3) := by decide +kernel
theorem dX5_measure_18 : decode cX5_measure 18 = .ok (.invokestatic 44, 3) := by decide +kernel
theorem dX5_measure_21 : decode cX5_measure 21 = .ok (.ifCond .eq 16, 3) := by decide +kernel
theorem dX5_measure_24 : decode cX5_measure 24 = .ok (.aload_n 0, 1) := by decide +kernel
theorem dX5_measure_25 : decode cX5_measure 25 = .ok (.getfield 7, 3) := by decide +kernel
theorem dX5_measure_28 : decode cX5_measure 28 = .ok (.iconst 0, 1) := by decide +kernel
theorem dX5_measure_29 : decode cX5_measure 29 = .ok (.iload_n 1, 1) := by decide +kernel
theorem dX5_measure_30 : decode cX5_measure 30 = .ok (.iload_n 2, 1) := by decide +kernel
theorem dX5_measure_31 : decode cX5_measure 31 = .ok (.iload_n 3, 1) := by decide +kernel
theorem dX5_measure_32 : decode cX5_measure 32 = .ok (.invokestatic 63, 3) := by decide +kernel
theorem dX5_measure_35 : decode cX5_measure 35 = .ok (.iaload, 1) := by decide +kernel
theorem dX5_measure_36 : decode cX5_measure 36 = .ok (.ireturn, 1) := by decide +kernel
theorem dX5_measure_37 : decode cX5_measure 37 = .ok (.iload_n 3, 1) := by decide +kernel
theorem dX5_measure_38 : decode cX5_measure 38 = .ok (.iconst 3, 1) := by decide +kernel
theorem dX5_measure_39 : decode cX5_measure 39 = .ok (.if_icmp .ne 28, 3) := by decide +kernel
theorem dX5_measure_42 : decode cX5_measure 42 = .ok (.aload_n 0, 1) := by decide +kernel
theorem dX5_measure_43 : decode cX5_measure 43 = .ok (.invokevirtual 226, 3) := by decide +kernel
theorem dX5_measure_46 : decode cX5_measure 46 = .ok (.aload_n 0, 1) := by decide +kernel
theorem dX5_measure_47 : decode cX5_measure 47 = .ok (.bipush 11, 2) := by decide +kernel
theorem dX5_measure_49 : decode cX5_measure 49 = .ok (.iload_n 1, 1) := by decide +kernel
theorem dX5_measure_50 : decode cX5_measure 50 = .ok (.iload_n 2, 1) := by decide +kernel
theorem dX5_measure_51 : decode cX5_measure 51 = .ok (.aload_n 0, 1) := by decide +kernel
theorem dX5_measure_52 : decode cX5_measure 52 = .ok (.getfield 7, 3) := by decide +kernel
theorem dX5_measure_55 : decode cX5_measure 55 = .ok (.iconst 0, 1) := by decide +kernel
theorem dX5_measure_56 : decode cX5_measure 56 = .ok (.iload_n 1, 1) := by decide +kernel
theorem dX5_measure_57 : decode cX5_measure 57 = .ok (.iload_n 2, 1) := by decide +kernel
theorem dX5_measure_58 : decode cX5_measure 58 = .ok (.iconst 2, 1) := by decide +kernel
theorem dX5_measure_59 : decode cX5_measure 59 = .ok (.invokestatic 63, 3) := by decide +kernel
theorem dX5_measure_62 : decode cX5_measure 62 = .ok (.iaload, 1) := by decide +kernel
theorem dX5_measure_63 : decode cX5_measure 63 = .ok (.invokevirtual 73, 3) := by decide +kernel
theorem dX5_measure_66 : decode cX5_measure 66 = .ok (.ireturn, 1) := by decide +kernel
theorem dX5_measure_67 : decode cX5_measure 67 = .ok (.iload_n 3, 1) := by decide +kernel
theorem dX5_measure_68 : decode cX5_measure 68 = .ok (.iconst 4, 1) := by decide +kernel
theorem dX5_measure_69 : decode cX5_measure 69 = .ok (.if_icmp .ne 9, 3) := by decide +kernel
theorem dX5_measure_72 : decode cX5_measure 72 = .ok (.aload_n 0, 1) := by decide +kernel
theorem dX5_measure_73 : decode cX5_measure 73 = .ok (.iconst 0, 1) := by decide +kernel
theorem dX5_measure_74 : decode cX5_measure 74 = .ok (.invokevirtual 59, 3) := by decide +kernel
theorem dX5_measure_77 : decode cX5_measure 77 = .ok (.ireturn, 1) := by decide +kernel
theorem dX5_measure_78 : decode cX5_measure 78 = .ok (.iload_n 3, 1) := by decide +kernel
theorem dX5_measure_79 : decode cX5_measure 79 = .ok (.i2l, 1) := by decide +kernel
theorem dX5_measure_80 : decode cX5_measure 80 = .ok (.ldc2_w 229, 3) := by decide +kernel
theorem dX5_measure_83 : decode cX5_measure 83 = .ok (.bipush 9, 2) := by decide +kernel
theorem dX5_measure_85 : decode cX5_measure 85 = .ok (.aload_n 0, 1) := by decide +kernel
theorem dX5_measure_86 : decode cX5_measure 86 = .ok (.iconst 0, 1) := by decide +kernel
theorem dX5_measure_87 : decode cX5_measure 87 = .ok (.invokevirtual 59, 3) := by decide +kernel
theorem dX5_measure_90 : decode cX5_measure 90 = .ok (.iadd, 1) := by decide +kernel
theorem dX5_measure_91 : decode cX5_measure 91 = .ok (.i2l, 1) := by decide +kernel
theorem dX5_measure_92 : decode cX5_measure 92 = .ok (.invokestatic 44, 3) := by decide +kernel
theorem dX5_measure_95 : decode cX5_measure 95 = .ok (.ifCond .eq 23, 3) := by decide +kernel
theorem dX5_measure_98 : decode cX5_measure 98 = .ok (.aload_n 0, 1) := by decide +kernel
theorem dX5_measure_99 : decode cX5_measure 99 = .ok (.getfield 7, 3) := by decide +kernel
theorem dX5_measure_102 : decode cX5_measure 102 = .ok (.iconst 0, 1) := by decide +kernel
theorem dX5_measure_103 : decode cX5_measure 103 = .ok (.iload_n 1, 1) := by decide +kernel
theorem dX5_measure_104 : decode cX5_measure 104 = .ok (.iload_n 2, 1) := by decide +kernel
theorem dX5_measure_105 : decode cX5_measure 105 = .ok (.iconst 3, 1) := by decide +kernel
theorem dX5_measure_106 : decode cX5_measure 106 = .ok (.iload_n 3, 1) := by decide +kernel
theorem dX5_measure_107 : decode cX5_measure 107 = .ok (.iadd, 1) := by decide +kernel
theorem dX5_measure_108 : decode cX5_measure 108 = .ok (.bipush 10, 2) := by decide +kernel
theorem dX5_measure_110 : decode cX5_measure 110 = .ok (.isub, 1) := by decide +kernel
theorem dX5_measure_111 : decode cX5_measure 111 = .ok (.invokestatic 63, 3) := by decide +kernel
theorem dX5_measure_114 : decode cX5_measure 114 = .ok (.iaload, 1) := by decide +kernel
theorem dX5_measure_115 : decode cX5_measure 115 = .ok (.goto 5, 3) := by decide +kernel
theorem dX5_measure_118 : decode cX5_measure 118 = .ok (.ldc 123, 2) := by decide +kernel
theorem dX5_measure_120 : decode cX5_measure 120 = .ok (.ireturn, 1) := by decide +kernel
theorem dX5_starting_0 : decode cX5_starting 0 = .ok (.aload_n 0, 1) := by decide +kernel
theorem dX5_starting_1 : decode cX5_starting 1 = .ok (.iload_n 1, 1) := by decide +kernel
theorem dX5_starting_2 : decode cX5_starting 2 = .ok (.invokevirtual 48, 3) := by decide +kernel
theorem dX5_starting_5 : decode cX5_starting 5 = .ok (.ifCond .ne 6, 3) := by decide +kernel
theorem dX5_starting_8 : decode cX5_starting 8 = .ok (.ldc 203, 2) := by decide +kernel
theorem dX5_starting_10 : decode cX5_starting 10 = .ok (.ireturn, 1) := by decide +kernel
theorem dX5_starting_11 : decode cX5_starting 11 = .ok (.iload_n 2, 1) := by decide +kernel
theorem dX5_starting_12 : decode cX5_starting 12 = .ok (.i2l, 1) := by decide +kernel
theorem dX5_starting_13 : decode cX5_starting 13 = .ok (.aload_n 0, 1) := by decide +kernel
theorem dX5_starting_14 : decode cX5_starting 14 = .ok (.getfield 7, 3) := by decide +kernel
theorem dX5_starting_17 : decode cX5_starting 17 = .ok (.bipush 6, 2) := by decide +kernel
theorem dX5_starting_19 : decode cX5_starting 19 = .ok (.iaload, 1) := by decide +kernel
theorem dX5_starting_20 : decode cX5_starting 20 = .ok (.i2l, 1) := by decide +kernel
theorem dX5_starting_21 : decode cX5_starting 21 = .ok (.aload_n 0, 1) := by decide +kernel
theorem dX5_starting_22 : decode cX5_starting 22 = .ok (.getfield 7, 3) := by decide +kernel
theorem dX5_starting_25 : decode cX5_starting 25 = .ok (.bipush 6, 2) := by decide +kernel
theorem dX5_starting_27 : decode cX5_starting 27 = .ok (.iaload, 1) := by decide +kernel
theorem dX5_starting_28 : decode cX5_starting 28 = .ok (.i2l, 1) := by decide +kernel
theorem dX5_starting_29 : decode cX5_starting 29 = .ok (.ldc2_w 231, 3) := by decide +kernel
theorem dX5_starting_32 : decode cX5_starting 32 = .ok (.ladd, 1) := by decide +kernel
theorem dX5_starting_33 : decode cX5_starting 33 = .ok (.invokestatic 44, 3) := by decide +kernel
theorem dX5_starting_36 : decode cX5_starting 36 = .ok (.ifCond .eq 28, 3) := by decide +kernel
theorem dX5_starting_39 : decode cX5_starting 39 = .ok (.aload_n 0, 1) := by decide +kernel
theorem dX5_starting_40 : decode cX5_starting 40 = .ok (.getfield 7, 3) := by decide +kernel
theorem dX5_starting_43 : decode cX5_starting 43 = .ok (.iconst 0, 1) := by decide +kernel
theorem dX5_starting_44 : decode cX5_starting 44 = .ok (.iload_n 1, 1) := by decide +kernel
theorem dX5_starting_45 : decode cX5_starting 45 = .ok (.bipush 11, 2) := by decide +kernel
theorem dX5_starting_47 : decode cX5_starting 47 = .ok (.iload_n 2, 1) := by decide +kernel
theorem dX5_starting_48 : decode cX5_starting 48 = .ok (.iadd, 1) := by decide +kernel
theorem dX5_starting_49 : decode cX5_starting 49 = .ok (.aload_n 0, 1) := by decide +kernel
theorem dX5_starting_50 : decode cX5_starting 50 = .ok (.getfield 7, 3) := by decide +kernel
theorem dX5_starting_53 : decode cX5_starting 53 = .ok (.bipush 6, 2) := by decide +kernel
theorem dX5_starting_55 : decode cX5_starting 55 = .ok (.iaload, 1) := by decide +kernel
theorem dX5_starting_56 : decode cX5_starting 56 = .ok (.isub, 1) := by decide +kernel
theorem dX5_starting_57 : decode cX5_starting 57 = .ok (.invokestatic 40, 3) := by decide +kernel
theorem dX5_starting_60 : decode cX5_starting 60 = .ok (.iaload, 1) := by decide +kernel
theorem dX5_starting_61 : decode cX5_starting 61 = .ok (.goto 5, 3) := by decide +kernel
theorem dX5_starting_64 : decode cX5_starting 64 = .ok (.ldc 123, 2) := by decide +kernel
theorem dX5_starting_66 : decode cX5_starting 66 = .ok (.ireturn, 1) := by decide +kernel
theorem dX5_count_0 : decode cX5_count 0 = .ok (.iload_n 1, 1) := by decide +kernel
theorem dX5_count_1 : decode cX5_count 1 = .ok (.bipush 10, 2) := by decide +kernel
theorem dX5_count_3 : decode cX5_count 3 = .ok (.if_icmp .ne 8, 3) := by decide +kernel
theorem dX5_count_6 : decode cX5_count 6 = .ok (.aload_n 0, 1) := by decide +kernel
theorem dX5_count_7 : decode cX5_count 7 = .ok (.getfield 124, 3) := by decide +kernel
theorem dX5_count_10 : decode cX5_count 10 = .ok (.ireturn, 1) := by decide +kernel
theorem dX5_count_11 : decode cX5_count 11 = .ok (.aload_n 0, 1) := by decide +kernel
theorem dX5_count_12 : decode cX5_count 12 = .ok (.invokevirtual 214, 3) := by decide +kernel
theorem dX5_count_15 : decode cX5_count 15 = .ok (.ifCond .ne 6, 3) := by decide +kernel
theorem dX5_count_18 : decode cX5_count 18 = .ok (.ldc 203, 2) := by decide +kernel
theorem dX5_count_20 : decode cX5_count 20 = .ok (.ireturn, 1) := by decide +kernel
theorem dX5_count_21 : decode cX5_count 21 = .ok (.iload_n 1, 1) := by decide +kernel
theorem dX5_count_22 : decode cX5_count 22 = .ok (.tableswitch 88 0 9 #[54, 62, 70, 76, 88, 88, 88, 88, 88, 83], 54) := by decide +kernel
theorem dX5_count_76 : decode cX5_count 76 = .ok (.aload_n 0, 1) := by decide +kernel
theorem dX5_count_77 : decode cX5_count 77 = .ok (.getfield 7, 3) := by decide +kernel
theorem dX5_count_80 : decode cX5_count 80 = .ok (.bipush 6, 2) := by decide +kernel
theorem dX5_count_82 : decode cX5_count 82 = .ok (.iaload, 1) := by decide +kernel
theorem dX5_count_83 : decode cX5_count 83 = .ok (.ireturn, 1) := by decide +kernel
theorem dX5_count_84 : decode cX5_count 84 = .ok (.aload_n 0, 1) := by decide +kernel
theorem dX5_count_85 : decode cX5_count 85 = .ok (.getfield 7, 3) := by decide +kernel
theorem dX5_count_88 : decode cX5_count 88 = .ok (.bipush 7, 2) := by decide +kernel
theorem dX5_count_90 : decode cX5_count 90 = .ok (.iaload, 1) := by decide +kernel
theorem dX5_count_91 : decode cX5_count 91 = .ok (.ireturn, 1) := by decide +kernel
theorem dX5_count_92 : decode cX5_count 92 = .ok (.aload_n 0, 1) := by decide +kernel
theorem dX5_count_93 : decode cX5_count 93 = .ok (.iconst 0, 1) := by decide +kernel
theorem dX5_count_94 : decode cX5_count 94 = .ok (.invokevirtual 94, 3) := by decide +kernel
theorem dX5_count_97 : decode cX5_count 97 = .ok (.ireturn, 1) := by decide +kernel
theorem dX5_count_98 : decode cX5_count 98 = .ok (.aload_n 0, 1) := by decide +kernel
theorem dX5_count_99 : decode cX5_count 99 = .ok (.getfield 7, 3) := by decide +kernel
theorem dX5_count_102 : decode cX5_count 102 = .ok (.iconst 5, 1) := by decide +kernel
theorem dX5_count_103 : decode cX5_count 103 = .ok (.iaload, 1) := by decide +kernel
theorem dX5_count_104 : decode cX5_count 104 = .ok (.ireturn, 1) := by decide +kernel
theorem dX5_count_105 : decode cX5_count 105 = .ok (.aload_n 0, 1) := by decide +kernel
theorem dX5_count_106 : decode cX5_count 106 = .ok (.getfield 196, 3) := by decide +kernel
theorem dX5_count_109 : decode cX5_count 109 = .ok (.ireturn, 1) := by decide +kernel
theorem dX5_count_110 : decode cX5_count 110 = .ok (.iload_n 1, 1) := by decide +kernel
theorem dX5_count_111 : decode cX5_count 111 = .ok (.i2l, 1) := by decide +kernel
theorem dX5_count_112 : decode cX5_count 112 = .ok (.ldc2_w 233, 3) := by decide +kernel
theorem dX5_count_115 : decode cX5_count 115 = .ok (.ldc2_w 211, 3) := by decide +kernel
theorem dX5_count_118 : decode cX5_count 118 = .ok (.invokestatic 44, 3) := by decide +kernel
theorem dX5_count_121 : decode cX5_count 121 = .ok (.ifCond .eq 14, 3) := by decide +kernel
theorem dX5_count_124 : decode cX5_count 124 = .ok (.aload_n 0, 1) := by decide +kernel
theorem dX5_count_125 : decode cX5_count 125 = .ok (.getfield 7, 3) := by decide +kernel
theorem dX5_count_128 : decode cX5_count 128 = .ok (.iload_n 1, 1) := by decide +kernel
theorem dX5_count_129 : decode cX5_count 129 = .ok (.iconst 4, 1) := by decide +kernel
theorem dX5_count_130 : decode cX5_count 130 = .ok (.isub, 1) := by decide +kernel
theorem dX5_count_131 : decode cX5_count 131 = .ok (.iaload, 1) := by decide +kernel
theorem dX5_count_132 : decode cX5_count 132 = .ok (.goto 5, 3) := by decide +kernel
theorem dX5_count_135 : decode cX5_count 135 = .ok (.ldc 123, 2) := by decide +kernel
theorem dX5_count_137 : decode cX5_count 137 = .ok (.ireturn, 1) := by decide +kernel
theorem dX5_triesRound_0 : decode cX5_triesRound 0 = .ok (.aload_n 0, 1) := by decide +kernel
theorem dX5_triesRound_1 : decode cX5_triesRound 1 = .ok (.iconst 0, 1) := by decide +kernel
theorem dX5_triesRound_2 : decode cX5_triesRound 2 = .ok (.bipush 11, 2) := by decide +kernel
theorem dX5_triesRound_4 : decode cX5_triesRound 4 = .ok (.invokevirtual 193, 3) := by decide +kernel
theorem dX5_triesRound_7 : decode cX5_triesRound 7 = .ok (.aload_n 0, 1) := by decide +kernel
theorem dX5_triesRound_8 : decode cX5_triesRound 8 = .ok (.bipush 11, 2) := by decide +kernel
theorem dX5_triesRound_10 : decode cX5_triesRound 10 = .ok (.invokevirtual 218, 3) := by decide +kernel
theorem dX5_triesRound_13 : decode cX5_triesRound 13 = .ok (.return_, 1) := by decide +kernel
theorem dX5_would_0 : decode cX5_would 0 = .ok (.aload_n 0, 1) := by decide +kernel
theorem dX5_would_1 : decode cX5_would 1 = .ok (.iload_n 1, 1) := by decide +kernel
theorem dX5_would_2 : decode cX5_would 2 = .ok (.invokevirtual 48, 3) := by decide +kernel
theorem dX5_would_5 : decode cX5_would 5 = .ok (.ifCond .ne 6, 3) := by decide +kernel
theorem dX5_would_8 : decode cX5_would 8 = .ok (.ldc 203, 2) := by decide +kernel
theorem dX5_would_10 : decode cX5_would 10 = .ok (.ireturn, 1) := by decide +kernel
theorem dX5_would_11 : decode cX5_would 11 = .ok (.iload_n 2, 1) := by decide +kernel
theorem dX5_would_12 : decode cX5_would 12 = .ok (.i2l, 1) := by decide +kernel
theorem dX5_would_13 : decode cX5_would 13 = .ok (.lconst 0, 1) := by decide +kernel
theorem dX5_would_14 : decode cX5_would 14 = .ok (.ldc2_w 235, 3) := by decide +kernel
theorem dX5_would_17 : decode cX5_would 17 = .ok (.invokestatic 44, 3) := by decide +kernel
theorem dX5_would_20 : decode cX5_would 20 = .ok (.ifCond .ne 6, 3) := by decide +kernel
theorem dX5_would_23 : decode cX5_would 23 = .ok (.ldc 123, 2) := by decide +kernel
theorem dX5_would_25 : decode cX5_would 25 = .ok (.ireturn, 1) := by decide +kernel
theorem dX5_would_26 : decode cX5_would 26 = .ok (.aload_n 0, 1) := by decide +kernel
theorem dX5_would_27 : decode cX5_would 27 = .ok (.invokevirtual 237, 3) := by decide +kernel
theorem dX5_would_30 : decode cX5_would 30 = .ok (.iload_n 2, 1) := by decide +kernel
theorem dX5_would_31 : decode cX5_would 31 = .ok (.tableswitch 68 0 4 #[33, 40, 47, 54, 61], 33) := by decide +kernel
theorem dX5_would_64 : decode cX5_would 64 = .ok (.aload_n 0, 1) := by decide +kernel
theorem dX5_would_65 : decode cX5_would 65 = .ok (.getfield 13, 3) := by decide +kernel
theorem dX5_would_68 : decode cX5_would 68 = .ok (.iload_n 1, 1) := by decide +kernel
theorem dX5_would_69 : decode cX5_would 69 = .ok (.iaload, 1) := by decide +kernel
theorem dX5_would_70 : decode cX5_would 70 = .ok (.ireturn, 1) := by decide +kernel
theorem dX5_would_71 : decode cX5_would 71 = .ok (.aload_n 0, 1) := by decide +kernel
theorem dX5_would_72 : decode cX5_would 72 = .ok (.getfield 16, 3) := by decide +kernel
theorem dX5_would_75 : decode cX5_would 75 = .ok (.iload_n 1, 1) := by decide +kernel
theorem dX5_would_76 : decode cX5_would 76 = .ok (.iaload, 1) := by decide +kernel
theorem dX5_would_77 : decode cX5_would 77 = .ok (.ireturn, 1) := by decide +kernel
theorem dX5_would_78 : decode cX5_would 78 = .ok (.aload_n 0, 1) := by decide +kernel
theorem dX5_would_79 : decode cX5_would 79 = .ok (.getfield 19, 3) := by decide +kernel
theorem dX5_would_82 : decode cX5_would 82 = .ok (.iload_n 1, 1) := by decide +kernel
theorem dX5_would_83 : decode cX5_would 83 = .ok (.iaload, 1) := by decide +kernel
theorem dX5_would_84 : decode cX5_would 84 = .ok (.ireturn, 1) := by decide +kernel
theorem dX5_would_85 : decode cX5_would 85 = .ok (.aload_n 0, 1) := by decide +kernel
theorem dX5_would_86 : decode cX5_would 86 = .ok (.getfield 22, 3) := by decide +kernel
theorem dX5_would_89 : decode cX5_would 89 = .ok (.iload_n 1, 1) := by decide +kernel
theorem dX5_would_90 : decode cX5_would 90 = .ok (.iaload, 1) := by decide +kernel
theorem dX5_would_91 : decode cX5_would 91 = .ok (.ireturn, 1) := by decide +kernel
theorem dX5_would_92 : decode cX5_would 92 = .ok (.aload_n 0, 1) := by decide +kernel
theorem dX5_would_93 : decode cX5_would 93 = .ok (.getfield 25, 3) := by decide +kernel
theorem dX5_would_96 : decode cX5_would 96 = .ok (.iload_n 1, 1) := by decide +kernel
theorem dX5_would_97 : decode cX5_would 97 = .ok (.iaload, 1) := by decide +kernel
theorem dX5_would_98 : decode cX5_would 98 = .ok (.ireturn, 1) := by decide +kernel
theorem dX5_would_99 : decode cX5_would 99 = .ok (.aload_n 0, 1) := by decide +kernel
theorem dX5_would_100 : decode cX5_would 100 = .ok (.getfield 28, 3) := by decide +kernel
theorem dX5_would_103 : decode cX5_would 103 = .ok (.iload_n 1, 1) := by decide +kernel
theorem dX5_would_104 : decode cX5_would 104 = .ok (.iaload, 1) := by decide +kernel
theorem dX5_would_105 : decode cX5_would 105 = .ok (.ireturn, 1) := by decide +kernel
theorem dX5_why_0 : decode cX5_why 0 = .ok (.aload_n 0, 1) := by decide +kernel
theorem dX5_why_1 : decode cX5_why 1 = .ok (.iload_n 1, 1) := by decide +kernel
theorem dX5_why_2 : decode cX5_why 2 = .ok (.invokevirtual 48, 3) := by decide +kernel
theorem dX5_why_5 : decode cX5_why 5 = .ok (.ifCond .ne 6, 3) := by decide +kernel
theorem dX5_why_8 : decode cX5_why 8 = .ok (.ldc 203, 2) := by decide +kernel
theorem dX5_why_10 : decode cX5_why 10 = .ok (.ireturn, 1) := by decide +kernel
theorem dX5_why_11 : decode cX5_why 11 = .ok (.iload_n 2, 1) := by decide +kernel
theorem dX5_why_12 : decode cX5_why 12 = .ok (.ifCond .ge 6, 3) := by decide +kernel
theorem dX5_why_15 : decode cX5_why 15 = .ok (.ldc 123, 2) := by decide +kernel
theorem dX5_why_17 : decode cX5_why 17 = .ok (.ireturn, 1) := by decide +kernel
theorem dX5_why_18 : decode cX5_why 18 = .ok (.aload_n 0, 1) := by decide +kernel
theorem dX5_why_19 : decode cX5_why 19 = .ok (.invokevirtual 237, 3) := by decide +kernel
theorem dX5_why_22 : decode cX5_why 22 = .ok (.iload_n 2, 1) := by decide +kernel
theorem dX5_why_23 : decode cX5_why 23 = .ok (.istore_n 3, 1) := by decide +kernel
theorem dX5_why_24 : decode cX5_why 24 = .ok (.iconst (-1), 1) := by decide +kernel
theorem dX5_why_25 : decode cX5_why 25 = .ok (.istore 4, 2) := by decide +kernel
theorem dX5_why_27 : decode cX5_why 27 = .ok (.iconst 4, 1) := by decide +kernel
theorem dX5_why_28 : decode cX5_why 28 = .ok (.istore 5, 2) := by decide +kernel
theorem dX5_why_30 : decode cX5_why 30 = .ok (.iload 5, 2) := by decide +kernel
theorem dX5_why_32 : decode cX5_why 32 = .ok (.iconst 1, 1) := by decide +kernel
theorem dX5_why_33 : decode cX5_why 33 = .ok (.if_icmp .lt 158, 3) := by decide +kernel
theorem dX5_why_36 : decode cX5_why 36 = .ok (.iload 5, 2) := by decide +kernel
theorem dX5_why_38 : decode cX5_why 38 = .ok (.iconst 4, 1) := by decide +kernel
theorem dX5_why_39 : decode cX5_why 39 = .ok (.if_icmp .ne 35, 3) := by decide +kernel
theorem dX5_why_42 : decode cX5_why 42 = .ok (.aload_n 0, 1) := by decide +kernel
theorem dX5_why_43 : decode cX5_why 43 = .ok (.getfield 28, 3) := by decide +kernel
theorem dX5_why_46 : decode cX5_why 46 = .ok (.iload_n 1, 1) := by decide +kernel
theorem dX5_why_47 : decode cX5_why 47 = .ok (.iaload, 1) := by decide +kernel
theorem dX5_why_48 : decode cX5_why 48 = .ok (.ifCond .lt 22, 3) := by decide +kernel
theorem dX5_why_51 : decode cX5_why 51 = .ok (.aload_n 0, 1) := by decide +kernel
theorem dX5_why_52 : decode cX5_why 52 = .ok (.getfield 25, 3) := by decide +kernel
theorem dX5_why_55 : decode cX5_why 55 = .ok (.iload_n 1, 1) := by decide +kernel
theorem dX5_why_56 : decode cX5_why 56 = .ok (.iaload, 1) := by decide +kernel
theorem dX5_why_57 : decode cX5_why 57 = .ok (.aload_n 0, 1) := by decide +kernel
theorem dX5_why_58 : decode cX5_why 58 = .ok (.getfield 22, 3) := by decide +kernel
theorem dX5_why_61 : decode cX5_why 61 = .ok (.iload_n 1, 1) := by decide +kernel
theorem dX5_why_62 : decode cX5_why 62 = .ok (.iaload, 1) := by decide +kernel
theorem dX5_why_63 : decode cX5_why 63 = .ok (.if_icmp .ge 7, 3) := by decide +kernel
theorem dX5_why_66 : decode cX5_why 66 = .ok (.iconst 1, 1) := by decide +kernel
theorem dX5_why_67 : decode cX5_why 67 = .ok (.goto 85, 3) := by decide +kernel
theorem dX5_why_70 : decode cX5_why 70 = .ok (.iconst 0, 1) := by decide +kernel
theorem dX5_why_71 : decode cX5_why 71 = .ok (.goto 81, 3) := by decide +kernel
theorem dX5_why_74 : decode cX5_why 74 = .ok (.iload 5, 2) := by decide +kernel
theorem dX5_why_76 : decode cX5_why 76 = .ok (.iconst 3, 1) := by decide +kernel
theorem dX5_why_77 : decode cX5_why 77 = .ok (.if_icmp .ne 26, 3) := by decide +kernel
theorem dX5_why_80 : decode cX5_why 80 = .ok (.aload_n 0, 1) := by decide +kernel
theorem dX5_why_81 : decode cX5_why 81 = .ok (.getfield 22, 3) := by decide +kernel
theorem dX5_why_84 : decode cX5_why 84 = .ok (.iload_n 1, 1) := by decide +kernel
theorem dX5_why_85 : decode cX5_why 85 = .ok (.iaload, 1) := by decide +kernel
theorem dX5_why_86 : decode cX5_why 86 = .ok (.aload_n 0, 1) := by decide +kernel
theorem dX5_why_87 : decode cX5_why 87 = .ok (.getfield 19, 3) := by decide +kernel
theorem dX5_why_90 : decode cX5_why 90 = .ok (.iload_n 1, 1) := by decide +kernel
theorem dX5_why_91 : decode cX5_why 91 = .ok (.iaload, 1) := by decide +kernel
theorem dX5_why_92 : decode cX5_why 92 = .ok (.if_icmp .eq 7, 3) := by decide +kernel
theorem dX5_why_95 : decode cX5_why 95 = .ok (.iconst 1, 1) := by decide +kernel
theorem dX5_why_96 : decode cX5_why 96 = .ok (.goto 56, 3) := by decide +kernel
theorem dX5_why_99 : decode cX5_why 99 = .ok (.iconst 0, 1) := by decide +kernel
theorem dX5_why_100 : decode cX5_why 100 = .ok (.goto 52, 3) := by decide +kernel
theorem dX5_why_103 : decode cX5_why 103 = .ok (.iload 5, 2) := by decide +kernel
theorem dX5_why_105 : decode cX5_why 105 = .ok (.iconst 2, 1) := by decide +kernel
theorem dX5_why_106 : decode cX5_why 106 = .ok (.if_icmp .ne 26, 3) := by decide +kernel
theorem dX5_why_109 : decode cX5_why 109 = .ok (.aload_n 0, 1) := by decide +kernel
theorem dX5_why_110 : decode cX5_why 110 = .ok (.getfield 19, 3) := by decide +kernel
theorem dX5_why_113 : decode cX5_why 113 = .ok (.iload_n 1, 1) := by decide +kernel
theorem dX5_why_114 : decode cX5_why 114 = .ok (.iaload, 1) := by decide +kernel
theorem dX5_why_115 : decode cX5_why 115 = .ok (.aload_n 0, 1) := by decide +kernel
theorem dX5_why_116 : decode cX5_why 116 = .ok (.getfield 16, 3) := by decide +kernel
theorem dX5_why_119 : decode cX5_why 119 = .ok (.iload_n 1, 1) := by decide +kernel
theorem dX5_why_120 : decode cX5_why 120 = .ok (.iaload, 1) := by decide +kernel
theorem dX5_why_121 : decode cX5_why 121 = .ok (.if_icmp .eq 7, 3) := by decide +kernel
theorem dX5_why_124 : decode cX5_why 124 = .ok (.iconst 1, 1) := by decide +kernel
theorem dX5_why_125 : decode cX5_why 125 = .ok (.goto 27, 3) := by decide +kernel
theorem dX5_why_128 : decode cX5_why 128 = .ok (.iconst 0, 1) := by decide +kernel
theorem dX5_why_129 : decode cX5_why 129 = .ok (.goto 23, 3) := by decide +kernel
theorem dX5_why_132 : decode cX5_why 132 = .ok (.aload_n 0, 1) := by decide +kernel
theorem dX5_why_133 : decode cX5_why 133 = .ok (.getfield 16, 3) := by decide +kernel
theorem dX5_why_136 : decode cX5_why 136 = .ok (.iload_n 1, 1) := by decide +kernel
theorem dX5_why_137 : decode cX5_why 137 = .ok (.iaload, 1) := by decide +kernel
theorem dX5_why_138 : decode cX5_why 138 = .ok (.aload_n 0, 1) := by decide +kernel
theorem dX5_why_139 : decode cX5_why 139 = .ok (.getfield 13, 3) := by decide +kernel
theorem dX5_why_142 : decode cX5_why 142 = .ok (.iload_n 1, 1) := by decide +kernel
theorem dX5_why_143 : decode cX5_why 143 = .ok (.iaload, 1) := by decide +kernel
theorem dX5_why_144 : decode cX5_why 144 = .ok (.if_icmp .eq 7, 3) := by decide +kernel
theorem dX5_why_147 : decode cX5_why 147 = .ok (.iconst 1, 1) := by decide +kernel
theorem dX5_why_148 : decode cX5_why 148 = .ok (.goto 4, 3) := by decide +kernel
theorem dX5_why_151 : decode cX5_why 151 = .ok (.iconst 0, 1) := by decide +kernel
theorem dX5_why_152 : decode cX5_why 152 = .ok (.istore 6, 2) := by decide +kernel
theorem dX5_why_154 : decode cX5_why 154 = .ok (.iload 6, 2) := by decide +kernel
theorem dX5_why_156 : decode cX5_why 156 = .ok (.ifCond .eq 12, 3) := by decide +kernel
theorem dX5_why_159 : decode cX5_why 159 = .ok (.iload_n 3, 1) := by decide +kernel
theorem dX5_why_160 : decode cX5_why 160 = .ok (.ifCond .ne 8, 3) := by decide +kernel
theorem dX5_why_163 : decode cX5_why 163 = .ok (.iload 5, 2) := by decide +kernel
theorem dX5_why_165 : decode cX5_why 165 = .ok (.goto 5, 3) := by decide +kernel
theorem dX5_why_168 : decode cX5_why 168 = .ok (.iload 4, 2) := by decide +kernel
theorem dX5_why_170 : decode cX5_why 170 = .ok (.istore 4, 2) := by decide +kernel
theorem dX5_why_172 : decode cX5_why 172 = .ok (.iload_n 3, 1) := by decide +kernel
theorem dX5_why_173 : decode cX5_why 173 = .ok (.iload 6, 2) := by decide +kernel
theorem dX5_why_175 : decode cX5_why 175 = .ok (.ifCond .eq 7, 3) := by decide +kernel
theorem dX5_why_178 : decode cX5_why 178 = .ok (.iconst 1, 1) := by decide +kernel
theorem dX5_why_179 : decode cX5_why 179 = .ok (.goto 4, 3) := by decide +kernel
theorem dX5_why_182 : decode cX5_why 182 = .ok (.iconst 0, 1) := by decide +kernel
theorem dX5_why_183 : decode cX5_why 183 = .ok (.isub, 1) := by decide +kernel
theorem dX5_why_184 : decode cX5_why 184 = .ok (.istore_n 3, 1) := by decide +kernel
theorem dX5_why_185 : decode cX5_why 185 = .ok (.iinc 5 (-1), 3) := by decide +kernel
theorem dX5_why_188 : decode cX5_why 188 = .ok (.goto (-158), 3) := by decide +kernel
theorem dX5_why_191 : decode cX5_why 191 = .ok (.iload 4, 2) := by decide +kernel
theorem dX5_why_193 : decode cX5_why 193 = .ok (.ireturn, 1) := by decide +kernel
theorem dX5_forecast_0 : decode cX5_forecast 0 = .ok (.aload_n 0, 1) := by decide +kernel
theorem dX5_forecast_1 : decode cX5_forecast 1 = .ok (.iload_n 1, 1) := by decide +kernel
theorem dX5_forecast_2 : decode cX5_forecast 2 = .ok (.iload_n 2, 1) := by decide +kernel
theorem dX5_forecast_3 : decode cX5_forecast 3 = .ok (.invokevirtual 199, 3) := by decide +kernel
theorem dX5_forecast_6 : decode cX5_forecast 6 = .ok (.ifCond .ne 6, 3) := by decide +kernel
theorem dX5_forecast_9 : decode cX5_forecast 9 = .ok (.ldc 203, 2) := by decide +kernel
theorem dX5_forecast_11 : decode cX5_forecast 11 = .ok (.ireturn, 1) := by decide +kernel
theorem dX5_forecast_12 : decode cX5_forecast 12 = .ok (.iload_n 3, 1) := by decide +kernel
theorem dX5_forecast_13 : decode cX5_forecast 13 = .ok (.i2l, 1) := by decide +kernel
theorem dX5_forecast_14 : decode cX5_forecast 14 = .ok (.lconst 0, 1) := by decide +kernel
theorem dX5_forecast_15 : decode cX5_forecast 15 = .ok (.ldc2_w 240, 3) := by decide +kernel
theorem dX5_forecast_18 : decode cX5_forecast 18 = .ok (.invokestatic 44, 3) := by decide +kernel
theorem dX5_forecast_21 : decode cX5_forecast 21 = .ok (.ifCond .eq 14, 3) := by decide +kernel
theorem dX5_forecast_24 : decode cX5_forecast 24 = .ok (.aload_n 0, 1) := by decide +kernel
theorem dX5_forecast_25 : decode cX5_forecast 25 = .ok (.iconst 0, 1) := by decide +kernel
theorem dX5_forecast_26 : decode cX5_forecast 26 = .ok (.iload_n 1, 1) := by decide +kernel
theorem dX5_forecast_27 : decode cX5_forecast 27 = .ok (.iload_n 2, 1) := by decide +kernel
theorem dX5_forecast_28 : decode cX5_forecast 28 = .ok (.iload_n 3, 1) := by decide +kernel
theorem dX5_forecast_29 : decode cX5_forecast 29 = .ok (.invokevirtual 70, 3) := by decide +kernel
theorem dX5_forecast_32 : decode cX5_forecast 32 = .ok (.goto 5, 3) := by decide +kernel
theorem dX5_forecast_35 : decode cX5_forecast 35 = .ok (.ldc 123, 2) := by decide +kernel
theorem dX5_forecast_37 : decode cX5_forecast 37 = .ok (.ireturn, 1) := by decide +kernel
theorem dX5_allOf_0 : decode cX5_allOf 0 = .ok (.iconst 0, 1) := by decide +kernel
theorem dX5_allOf_1 : decode cX5_allOf 1 = .ok (.istore_n 3, 1) := by decide +kernel
theorem dX5_allOf_2 : decode cX5_allOf 2 = .ok (.iconst 0, 1) := by decide +kernel
theorem dX5_allOf_3 : decode cX5_allOf 3 = .ok (.istore 4, 2) := by decide +kernel
theorem dX5_allOf_5 : decode cX5_allOf 5 = .ok (.iload 4, 2) := by decide +kernel
theorem dX5_allOf_7 : decode cX5_allOf 7 = .ok (.aload_n 0, 1) := by decide +kernel
theorem dX5_allOf_8 : decode cX5_allOf 8 = .ok (.iload_n 1, 1) := by decide +kernel
theorem dX5_allOf_9 : decode cX5_allOf 9 = .ok (.bipush 7, 2) := by decide +kernel
theorem dX5_allOf_11 : decode cX5_allOf 11 = .ok (.invokevirtual 52, 3) := by decide +kernel
theorem dX5_allOf_14 : decode cX5_allOf 14 = .ok (.if_icmp .ge 24, 3) := by decide +kernel
theorem dX5_allOf_17 : decode cX5_allOf 17 = .ok (.iload_n 3, 1) := by decide +kernel
theorem dX5_allOf_18 : decode cX5_allOf 18 = .ok (.aload_n 0, 1) := by decide +kernel
theorem dX5_allOf_19 : decode cX5_allOf 19 = .ok (.getfield 7, 3) := by decide +kernel
theorem dX5_allOf_22 : decode cX5_allOf 22 = .ok (.iload_n 1, 1) := by decide +kernel
theorem dX5_allOf_23 : decode cX5_allOf 23 = .ok (.iload 4, 2) := by decide +kernel
theorem dX5_allOf_25 : decode cX5_allOf 25 = .ok (.iload_n 2, 1) := by decide +kernel
theorem dX5_allOf_26 : decode cX5_allOf 26 = .ok (.invokestatic 40, 3) := by decide +kernel
theorem dX5_allOf_29 : decode cX5_allOf 29 = .ok (.iaload, 1) := by decide +kernel
theorem dX5_allOf_30 : decode cX5_allOf 30 = .ok (.iadd, 1) := by decide +kernel
theorem dX5_allOf_31 : decode cX5_allOf 31 = .ok (.istore_n 3, 1) := by decide +kernel
theorem dX5_allOf_32 : decode cX5_allOf 32 = .ok (.iinc 4 1, 3) := by decide +kernel
theorem dX5_allOf_35 : decode cX5_allOf 35 = .ok (.goto (-30), 3) := by decide +kernel
theorem dX5_allOf_38 : decode cX5_allOf 38 = .ok (.iload_n 3, 1) := by decide +kernel
theorem dX5_allOf_39 : decode cX5_allOf 39 = .ok (.ireturn, 1) := by decide +kernel
theorem dX5_ahead_0 : decode cX5_ahead 0 = .ok (.aload_n 0, 1) := by decide +kernel
theorem dX5_ahead_1 : decode cX5_ahead 1 = .ok (.invokevirtual 214, 3) := by decide +kernel
theorem dX5_ahead_4 : decode cX5_ahead 4 = .ok (.ifCond .ne 6, 3) := by decide +kernel
theorem dX5_ahead_7 : decode cX5_ahead 7 = .ok (.ldc 203, 2) := by decide +kernel
theorem dX5_ahead_9 : decode cX5_ahead 9 = .ok (.ireturn, 1) := by decide +kernel
theorem dX5_ahead_10 : decode cX5_ahead 10 = .ok (.iload_n 1, 1) := by decide +kernel
theorem dX5_ahead_11 : decode cX5_ahead 11 = .ok (.i2l, 1) := by decide +kernel
theorem dX5_ahead_12 : decode cX5_ahead 12 = .ok (.lconst 1, 1) := by decide +kernel
theorem dX5_ahead_13 : decode cX5_ahead 13 = .ok (.ldc2_w 242, 3) := by decide +kernel
theorem dX5_ahead_16 : decode cX5_ahead 16 = .ok (.invokestatic 44, 3) := by decide +kernel
theorem dX5_ahead_19 : decode cX5_ahead 19 = .ok (.ifCond .eq 15, 3) := by decide +kernel
theorem dX5_ahead_22 : decode cX5_ahead 22 = .ok (.iload_n 2, 1) := by decide +kernel
theorem dX5_ahead_23 : decode cX5_ahead 23 = .ok (.i2l, 1) := by decide +kernel
theorem dX5_ahead_24 : decode cX5_ahead 24 = .ok (.lconst 0, 1) := by decide +kernel
theorem dX5_ahead_25 : decode cX5_ahead 25 = .ok (.ldc2_w 244, 3) := by decide +kernel
theorem dX5_ahead_28 : decode cX5_ahead 28 = .ok (.invokestatic 44, 3) := by decide +kernel
theorem dX5_ahead_31 : decode cX5_ahead 31 = .ok (.ifCond .ne 6, 3) := by decide +kernel
theorem dX5_ahead_34 : decode cX5_ahead 34 = .ok (.ldc 123, 2) := by decide +kernel
theorem dX5_ahead_36 : decode cX5_ahead 36 = .ok (.ireturn, 1) := by decide +kernel
theorem dX5_ahead_37 : decode cX5_ahead 37 = .ok (.aload_n 0, 1) := by decide +kernel
theorem dX5_ahead_38 : decode cX5_ahead 38 = .ok (.iconst 0, 1) := by decide +kernel
theorem dX5_ahead_39 : decode cX5_ahead 39 = .ok (.bipush 11, 2) := by decide +kernel
theorem dX5_ahead_41 : decode cX5_ahead 41 = .ok (.invokevirtual 193, 3) := by decide +kernel
theorem dX5_ahead_44 : decode cX5_ahead 44 = .ok (.iconst 0, 1) := by decide +kernel
theorem dX5_ahead_45 : decode cX5_ahead 45 = .ok (.istore_n 3, 1) := by decide +kernel
theorem dX5_ahead_46 : decode cX5_ahead 46 = .ok (.iload_n 3, 1) := by decide +kernel
theorem dX5_ahead_47 : decode cX5_ahead 47 = .ok (.iload_n 1, 1) := by decide +kernel
theorem dX5_ahead_48 : decode cX5_ahead 48 = .ok (.if_icmp .ge 15, 3) := by decide +kernel
theorem dX5_ahead_51 : decode cX5_ahead 51 = .ok (.aload_n 0, 1) := by decide +kernel
theorem dX5_ahead_52 : decode cX5_ahead 52 = .ok (.bipush 11, 2) := by decide +kernel
theorem dX5_ahead_54 : decode cX5_ahead 54 = .ok (.invokevirtual 218, 3) := by decide +kernel
theorem dX5_ahead_57 : decode cX5_ahead 57 = .ok (.iinc 3 1, 3) := by decide +kernel
theorem dX5_ahead_60 : decode cX5_ahead 60 = .ok (.goto (-14), 3) := by decide +kernel
theorem dX5_ahead_63 : decode cX5_ahead 63 = .ok (.iload_n 2, 1) := by decide +kernel
theorem dX5_ahead_64 : decode cX5_ahead 64 = .ok (.tableswitch 69 0 2 #[28, 35, 52], 28) := by decide +kernel
theorem dX5_ahead_92 : decode cX5_ahead 92 = .ok (.aload_n 0, 1) := by decide +kernel
theorem dX5_ahead_93 : decode cX5_ahead 93 = .ok (.bipush 11, 2) := by decide +kernel
theorem dX5_ahead_95 : decode cX5_ahead 95 = .ok (.invokevirtual 94, 3) := by decide +kernel
theorem dX5_ahead_98 : decode cX5_ahead 98 = .ok (.ireturn, 1) := by decide +kernel
theorem dX5_ahead_99 : decode cX5_ahead 99 = .ok (.aload_n 0, 1) := by decide +kernel
theorem dX5_ahead_100 : decode cX5_ahead 100 = .ok (.bipush 11, 2) := by decide +kernel
theorem dX5_ahead_102 : decode cX5_ahead 102 = .ok (.bipush 32, 2) := by decide +kernel
theorem dX5_ahead_104 : decode cX5_ahead 104 = .ok (.invokevirtual 246, 3) := by decide +kernel
theorem dX5_ahead_107 : decode cX5_ahead 107 = .ok (.aload_n 0, 1) := by decide +kernel
theorem dX5_ahead_108 : decode cX5_ahead 108 = .ok (.iconst 0, 1) := by decide +kernel
theorem dX5_ahead_109 : decode cX5_ahead 109 = .ok (.bipush 32, 2) := by decide +kernel
theorem dX5_ahead_111 : decode cX5_ahead 111 = .ok (.invokevirtual 246, 3) := by decide +kernel
theorem dX5_ahead_114 : decode cX5_ahead 114 = .ok (.isub, 1) := by decide +kernel
theorem dX5_ahead_115 : decode cX5_ahead 115 = .ok (.ireturn, 1) := by decide +kernel
theorem dX5_ahead_116 : decode cX5_ahead 116 = .ok (.aload_n 0, 1) := by decide +kernel
theorem dX5_ahead_117 : decode cX5_ahead 117 = .ok (.bipush 11, 2) := by decide +kernel
theorem dX5_ahead_119 : decode cX5_ahead 119 = .ok (.bipush 33, 2) := by decide +kernel
theorem dX5_ahead_121 : decode cX5_ahead 121 = .ok (.invokevirtual 246, 3) := by decide +kernel
theorem dX5_ahead_124 : decode cX5_ahead 124 = .ok (.aload_n 0, 1) := by decide +kernel
theorem dX5_ahead_125 : decode cX5_ahead 125 = .ok (.iconst 0, 1) := by decide +kernel
theorem dX5_ahead_126 : decode cX5_ahead 126 = .ok (.bipush 33, 2) := by decide +kernel
theorem dX5_ahead_128 : decode cX5_ahead 128 = .ok (.invokevirtual 246, 3) := by decide +kernel
theorem dX5_ahead_131 : decode cX5_ahead 131 = .ok (.isub, 1) := by decide +kernel
theorem dX5_ahead_132 : decode cX5_ahead 132 = .ok (.ireturn, 1) := by decide +kernel
theorem dX5_ahead_133 : decode cX5_ahead 133 = .ok (.aload_n 0, 1) := by decide +kernel
theorem dX5_ahead_134 : decode cX5_ahead 134 = .ok (.bipush 11, 2) := by decide +kernel
theorem dX5_ahead_136 : decode cX5_ahead 136 = .ok (.iconst 5, 1) := by decide +kernel
theorem dX5_ahead_137 : decode cX5_ahead 137 = .ok (.invokevirtual 52, 3) := by decide +kernel
theorem dX5_ahead_140 : decode cX5_ahead 140 = .ok (.ireturn, 1) := by decide +kernel
theorem dX5_until_0 : decode cX5_until 0 = .ok (.aload_n 0, 1) := by decide +kernel
theorem dX5_until_1 : decode cX5_until 1 = .ok (.iload_n 1, 1) := by decide +kernel
theorem dX5_until_2 : decode cX5_until 2 = .ok (.invokevirtual 48, 3) := by decide +kernel
theorem dX5_until_5 : decode cX5_until 5 = .ok (.ifCond .ne 6, 3) := by decide +kernel
theorem dX5_until_8 : decode cX5_until 8 = .ok (.ldc 203, 2) := by decide +kernel
theorem dX5_until_10 : decode cX5_until 10 = .ok (.ireturn, 1) := by decide +kernel
theorem dX5_until_11 : decode cX5_until 11 = .ok (.iload_n 2, 1) := by decide +kernel
theorem dX5_until_12 : decode cX5_until 12 = .ok (.i2l, 1) := by decide +kernel
theorem dX5_until_13 : decode cX5_until 13 = .ok (.lconst 1, 1) := by decide +kernel
theorem dX5_until_14 : decode cX5_until 14 = .ok (.ldc2_w 249, 3) := by decide +kernel
theorem dX5_until_17 : decode cX5_until 17 = .ok (.invokestatic 44, 3) := by decide +kernel
theorem dX5_until_20 : decode cX5_until 20 = .ok (.ifCond .ne 6, 3) := by decide +kernel
theorem dX5_until_23 : decode cX5_until 23 = .ok (.ldc 123, 2) := by decide +kernel
theorem dX5_until_25 : decode cX5_until 25 = .ok (.ireturn, 1) := by decide +kernel
theorem dX5_until_26 : decode cX5_until 26 = .ok (.aload_n 0, 1) := by decide +kernel
theorem dX5_until_27 : decode cX5_until 27 = .ok (.iconst 0, 1) := by decide +kernel
theorem dX5_until_28 : decode cX5_until 28 = .ok (.bipush 11, 2) := by decide +kernel
theorem dX5_until_30 : decode cX5_until 30 = .ok (.invokevirtual 193, 3) := by decide +kernel
theorem dX5_until_33 : decode cX5_until 33 = .ok (.iconst 1, 1) := by decide +kernel
theorem dX5_until_34 : decode cX5_until 34 = .ok (.istore_n 3, 1) := by decide +kernel
theorem dX5_until_35 : decode cX5_until 35 = .ok (.iload_n 3, 1) := by decide +kernel
theorem dX5_until_36 : decode cX5_until 36 = .ok (.bipush 50, 2) := by decide +kernel
theorem dX5_until_38 : decode cX5_until 38 = .ok (.if_icmp .gt 48, 3) := by decide +kernel
theorem dX5_until_41 : decode cX5_until 41 = .ok (.aload_n 0, 1) := by decide +kernel
theorem dX5_until_42 : decode cX5_until 42 = .ok (.bipush 11, 2) := by decide +kernel
theorem dX5_until_44 : decode cX5_until 44 = .ok (.invokevirtual 218, 3) := by decide +kernel
theorem dX5_until_47 : decode cX5_until 47 = .ok (.aload_n 0, 1) := by decide +kernel
theorem dX5_until_48 : decode cX5_until 48 = .ok (.getfield 7, 3) := by decide +kernel
theorem dX5_until_51 : decode cX5_until 51 = .ok (.bipush 11, 2) := by decide +kernel
theorem dX5_until_53 : decode cX5_until 53 = .ok (.iload_n 1, 1) := by decide +kernel
theorem dX5_until_54 : decode cX5_until 54 = .ok (.bipush 10, 2) := by decide +kernel
theorem dX5_until_56 : decode cX5_until 56 = .ok (.invokestatic 40, 3) := by decide +kernel
theorem dX5_until_59 : decode cX5_until 59 = .ok (.iaload, 1) := by decide +kernel
theorem dX5_until_60 : decode cX5_until 60 = .ok (.aload_n 0, 1) := by decide +kernel
theorem dX5_until_61 : decode cX5_until 61 = .ok (.getfield 7, 3) := by decide +kernel
theorem dX5_until_64 : decode cX5_until 64 = .ok (.bipush 11, 2) := by decide +kernel
theorem dX5_until_66 : decode cX5_until 66 = .ok (.iload_n 1, 1) := by decide +kernel
theorem dX5_until_67 : decode cX5_until 67 = .ok (.bipush 11, 2) := by decide +kernel
theorem dX5_until_69 : decode cX5_until 69 = .ok (.invokestatic 40, 3) := by decide +kernel
theorem dX5_until_72 : decode cX5_until 72 = .ok (.iaload, 1) := by decide +kernel
theorem dX5_until_73 : decode cX5_until 73 = .ok (.iadd, 1) := by decide +kernel
theorem dX5_until_74 : decode cX5_until 74 = .ok (.iload_n 2, 1) := by decide +kernel
theorem dX5_until_75 : decode cX5_until 75 = .ok (.if_icmp .lt 5, 3) := by decide +kernel
theorem dX5_until_78 : decode cX5_until 78 = .ok (.iload_n 3, 1) := by decide +kernel
theorem dX5_until_79 : decode cX5_until 79 = .ok (.ireturn, 1) := by decide +kernel
theorem dX5_until_80 : decode cX5_until 80 = .ok (.iinc 3 1, 3) := by decide +kernel
theorem dX5_until_83 : decode cX5_until 83 = .ok (.goto (-48), 3) := by decide +kernel
theorem dX5_until_86 : decode cX5_until 86 = .ok (.iconst (-1), 1) := by decide +kernel
theorem dX5_until_87 : decode cX5_until 87 = .ok (.ireturn, 1) := by decide +kernel
theorem dX5_needs_0 : decode cX5_needs 0 = .ok (.aload_n 0, 1) := by decide +kernel
theorem dX5_needs_1 : decode cX5_needs 1 = .ok (.iload_n 1, 1) := by decide +kernel
theorem dX5_needs_2 : decode cX5_needs 2 = .ok (.iload_n 2, 1) := by decide +kernel
theorem dX5_needs_3 : decode cX5_needs 3 = .ok (.invokevirtual 199, 3) := by decide +kernel
theorem dX5_needs_6 : decode cX5_needs 6 = .ok (.ifCond .ne 6, 3) := by decide +kernel
theorem dX5_needs_9 : decode cX5_needs 9 = .ok (.ldc 203, 2) := by decide +kernel
theorem dX5_needs_11 : decode cX5_needs 11 = .ok (.ireturn, 1) := by decide +kernel
theorem dX5_needs_12 : decode cX5_needs 12 = .ok (.iload_n 3, 1) := by decide +kernel
theorem dX5_needs_13 : decode cX5_needs 13 = .ok (.i2l, 1) := by decide +kernel
theorem dX5_needs_14 : decode cX5_needs 14 = .ok (.lconst 0, 1) := by decide +kernel
theorem dX5_needs_15 : decode cX5_needs 15 = .ok (.ldc2_w 251, 3) := by decide +kernel
theorem dX5_needs_18 : decode cX5_needs 18 = .ok (.invokestatic 44, 3) := by decide +kernel
theorem dX5_needs_21 : decode cX5_needs 21 = .ok (.ifCond .ne 6, 3) := by decide +kernel
theorem dX5_needs_24 : decode cX5_needs 24 = .ok (.ldc 123, 2) := by decide +kernel
theorem dX5_needs_26 : decode cX5_needs 26 = .ok (.ireturn, 1) := by decide +kernel
theorem dX5_needs_27 : decode cX5_needs 27 = .ok (.aload_n 0, 1) := by decide +kernel
theorem dX5_needs_28 : decode cX5_needs 28 = .ok (.invokevirtual 226, 3) := by decide +kernel
theorem dX5_needs_31 : decode cX5_needs 31 = .ok (.iconst 0, 1) := by decide +kernel
theorem dX5_needs_32 : decode cX5_needs 32 = .ok (.istore 4, 2) := by decide +kernel
theorem dX5_needs_34 : decode cX5_needs 34 = .ok (.iconst 0, 1) := by decide +kernel
theorem dX5_needs_35 : decode cX5_needs 35 = .ok (.istore 5, 2) := by decide +kernel
theorem dX5_needs_37 : decode cX5_needs 37 = .ok (.iload 5, 2) := by decide +kernel
theorem dX5_needs_39 : decode cX5_needs 39 = .ok (.aload_n 0, 1) := by decide +kernel
theorem dX5_needs_40 : decode cX5_needs 40 = .ok (.getfield 7, 3) := by decide +kernel
theorem dX5_needs_43 : decode cX5_needs 43 = .ok (.iconst 0, 1) := by decide +kernel
theorem dX5_needs_44 : decode cX5_needs 44 = .ok (.iload_n 1, 1) := by decide +kernel
theorem dX5_needs_45 : decode cX5_needs 45 = .ok (.bipush 9, 2) := by decide +kernel
theorem dX5_needs_47 : decode cX5_needs 47 = .ok (.invokestatic 40, 3) := by decide +kernel
theorem dX5_needs_50 : decode cX5_needs 50 = .ok (.iaload, 1) := by decide +kernel
theorem dX5_needs_51 : decode cX5_needs 51 = .ok (.if_icmp .ge 59, 3) := by decide +kernel
theorem dX5_needs_54 : decode cX5_needs 54 = .ok (.iload 5, 2) := by decide +kernel
theorem dX5_needs_56 : decode cX5_needs 56 = .ok (.iload_n 2, 1) := by decide +kernel
theorem dX5_needs_57 : decode cX5_needs 57 = .ok (.if_icmp .ne 7, 3) := by decide +kernel
theorem dX5_needs_60 : decode cX5_needs 60 = .ok (.iconst 0, 1) := by decide +kernel
theorem dX5_needs_61 : decode cX5_needs 61 = .ok (.goto 25, 3) := by decide +kernel
theorem dX5_needs_64 : decode cX5_needs 64 = .ok (.aload_n 0, 1) := by decide +kernel
theorem dX5_needs_65 : decode cX5_needs 65 = .ok (.bipush 11, 2) := by decide +kernel
theorem dX5_needs_67 : decode cX5_needs 67 = .ok (.iload_n 1, 1) := by decide +kernel
theorem dX5_needs_68 : decode cX5_needs 68 = .ok (.iload 5, 2) := by decide +kernel
theorem dX5_needs_70 : decode cX5_needs 70 = .ok (.aload_n 0, 1) := by decide +kernel
theorem dX5_needs_71 : decode cX5_needs 71 = .ok (.getfield 7, 3) := by decide +kernel
theorem dX5_needs_74 : decode cX5_needs 74 = .ok (.iconst 0, 1) := by decide +kernel
theorem dX5_needs_75 : decode cX5_needs 75 = .ok (.iload_n 1, 1) := by decide +kernel
theorem dX5_needs_76 : decode cX5_needs 76 = .ok (.iload 5, 2) := by decide +kernel
theorem dX5_needs_78 : decode cX5_needs 78 = .ok (.iconst 2, 1) := by decide +kernel
theorem dX5_needs_79 : decode cX5_needs 79 = .ok (.invokestatic 63, 3) := by decide +kernel
theorem dX5_needs_82 : decode cX5_needs 82 = .ok (.iaload, 1) := by decide +kernel
theorem dX5_needs_83 : decode cX5_needs 83 = .ok (.invokevirtual 73, 3) := by decide +kernel
theorem dX5_needs_86 : decode cX5_needs 86 = .ok (.istore 6, 2) := by decide +kernel
theorem dX5_needs_88 : decode cX5_needs 88 = .ok (.iload 6, 2) := by decide +kernel
theorem dX5_needs_90 : decode cX5_needs 90 = .ok (.iload 4, 2) := by decide +kernel
theorem dX5_needs_92 : decode cX5_needs 92 = .ok (.if_icmp .le 8, 3) := by decide +kernel
theorem dX5_needs_95 : decode cX5_needs 95 = .ok (.iload 6, 2) := by decide +kernel
theorem dX5_needs_97 : decode cX5_needs 97 = .ok (.goto 5, 3) := by decide +kernel
theorem dX5_needs_100 : decode cX5_needs 100 = .ok (.iload 4, 2) := by decide +kernel
theorem dX5_needs_102 : decode cX5_needs 102 = .ok (.istore 4, 2) := by decide +kernel
theorem dX5_needs_104 : decode cX5_needs 104 = .ok (.iinc 5 1, 3) := by decide +kernel
theorem dX5_needs_107 : decode cX5_needs 107 = .ok (.goto (-70), 3) := by decide +kernel
theorem dX5_needs_110 : decode cX5_needs 110 = .ok (.iconst 0, 1) := by decide +kernel
theorem dX5_needs_111 : decode cX5_needs 111 = .ok (.istore 5, 2) := by decide +kernel
theorem dX5_needs_113 : decode cX5_needs 113 = .ok (.iload 5, 2) := by decide +kernel
theorem dX5_needs_115 : decode cX5_needs 115 = .ok (.sipush 9999, 3) := by decide +kernel
theorem dX5_needs_118 : decode cX5_needs 118 = .ok (.if_icmp .gt 36, 3) := by decide +kernel
theorem dX5_needs_121 : decode cX5_needs 121 = .ok (.aload_n 0, 1) := by decide +kernel
theorem dX5_needs_122 : decode cX5_needs 122 = .ok (.bipush 11, 2) := by decide +kernel
theorem dX5_needs_124 : decode cX5_needs 124 = .ok (.iload_n 1, 1) := by decide +kernel
theorem dX5_needs_125 : decode cX5_needs 125 = .ok (.iload_n 2, 1) := by decide +kernel
theorem dX5_needs_126 : decode cX5_needs 126 = .ok (.iload 5, 2) := by decide +kernel
theorem dX5_needs_128 : decode cX5_needs 128 = .ok (.invokevirtual 73, 3) := by decide +kernel
theorem dX5_needs_131 : decode cX5_needs 131 = .ok (.istore 6, 2) := by decide +kernel
theorem dX5_needs_133 : decode cX5_needs 133 = .ok (.iload 6, 2) := by decide +kernel
theorem dX5_needs_135 : decode cX5_needs 135 = .ok (.iload_n 3, 1) := by decide +kernel
theorem dX5_needs_136 : decode cX5_needs 136 = .ok (.if_icmp .ge 9, 3) := by decide +kernel
theorem dX5_needs_139 : decode cX5_needs 139 = .ok (.iload 4, 2) := by decide +kernel
theorem dX5_needs_141 : decode cX5_needs 141 = .ok (.iload_n 3, 1) := by decide +kernel
theorem dX5_needs_142 : decode cX5_needs 142 = .ok (.if_icmp .lt 6, 3) := by decide +kernel
theorem dX5_needs_145 : decode cX5_needs 145 = .ok (.iload 5, 2) := by decide +kernel
theorem dX5_needs_147 : decode cX5_needs 147 = .ok (.ireturn, 1) := by decide +kernel
theorem dX5_needs_148 : decode cX5_needs 148 = .ok (.iinc 5 1, 3) := by decide +kernel
theorem dX5_needs_151 : decode cX5_needs 151 = .ok (.goto (-38), 3) := by decide +kernel
theorem dX5_needs_154 : decode cX5_needs 154 = .ok (.iconst (-1), 1) := by decide +kernel
theorem dX5_needs_155 : decode cX5_needs 155 = .ok (.ireturn, 1) := by decide +kernel
theorem dX5_replays_0 : decode cX5_replays 0 = .ok (.iconst 0, 1) := by decide +kernel
theorem dX5_replays_1 : decode cX5_replays 1 = .ok (.istore 4, 2) := by decide +kernel
theorem dX5_replays_3 : decode cX5_replays 3 = .ok (.iload 4, 2) := by decide +kernel
theorem dX5_replays_5 : decode cX5_replays 5 = .ok (.sipush 400, 3) := by decide +kernel
theorem dX5_replays_8 : decode cX5_replays 8 = .ok (.if_icmp .ge 18, 3) := by decide +kernel
theorem dX5_replays_11 : decode cX5_replays 11 = .ok (.aload_n 0, 1) := by decide +kernel
theorem dX5_replays_12 : decode cX5_replays 12 = .ok (.bipush 11, 2) := by decide +kernel
theorem dX5_replays_14 : decode cX5_replays 14 = .ok (.iload 4, 2) := by decide +kernel
theorem dX5_replays_16 : decode cX5_replays 16 = .ok (.iconst 0, 1) := by decide +kernel
theorem dX5_replays_17 : decode cX5_replays 17 = .ok (.invokevirtual 97, 3) := by decide +kernel
theorem dX5_replays_20 : decode cX5_replays 20 = .ok (.iinc 4 1, 3) := by decide +kernel
theorem dX5_replays_23 : decode cX5_replays 23 = .ok (.goto (-20), 3) := by decide +kernel
theorem dX5_replays_26 : decode cX5_replays 26 = .ok (.aload_n 0, 1) := by decide +kernel
theorem dX5_replays_27 : decode cX5_replays 27 = .ok (.bipush 11, 2) := by decide +kernel
theorem dX5_replays_29 : decode cX5_replays 29 = .ok (.iconst 0, 1) := by decide +kernel
theorem dX5_replays_30 : decode cX5_replays 30 = .ok (.bipush 60, 2) := by decide +kernel
theorem dX5_replays_32 : decode cX5_replays 32 = .ok (.invokevirtual 97, 3) := by decide +kernel
theorem dX5_replays_35 : decode cX5_replays 35 = .ok (.aload_n 0, 1) := by decide +kernel
theorem dX5_replays_36 : decode cX5_replays 36 = .ok (.bipush 11, 2) := by decide +kernel
theorem dX5_replays_38 : decode cX5_replays 38 = .ok (.iconst 1, 1) := by decide +kernel
theorem dX5_replays_39 : decode cX5_replays 39 = .ok (.aload_n 0, 1) := by decide +kernel
theorem dX5_replays_40 : decode cX5_replays 40 = .ok (.getfield 7, 3) := by decide +kernel
theorem dX5_replays_43 : decode cX5_replays 43 = .ok (.iconst 1, 1) := by decide +kernel
theorem dX5_replays_44 : decode cX5_replays 44 = .ok (.iaload, 1) := by decide +kernel
theorem dX5_replays_45 : decode cX5_replays 45 = .ok (.invokevirtual 97, 3) := by decide +kernel
theorem dX5_replays_48 : decode cX5_replays 48 = .ok (.aload_n 0, 1) := by decide +kernel
theorem dX5_replays_49 : decode cX5_replays 49 = .ok (.bipush 11, 2) := by decide +kernel
theorem dX5_replays_51 : decode cX5_replays 51 = .ok (.iconst 4, 1) := by decide +kernel
theorem dX5_replays_52 : decode cX5_replays 52 = .ok (.aload_n 0, 1) := by decide +kernel
theorem dX5_replays_53 : decode cX5_replays 53 = .ok (.getfield 7, 3) := by decide +kernel
theorem dX5_replays_56 : decode cX5_replays 56 = .ok (.iconst 4, 1) := by decide +kernel
theorem dX5_replays_57 : decode cX5_replays 57 = .ok (.iaload, 1) := by decide +kernel
theorem dX5_replays_58 : decode cX5_replays 58 = .ok (.invokevirtual 97, 3) := by decide +kernel
theorem dX5_replays_61 : decode cX5_replays 61 = .ok (.aload_n 0, 1) := by decide +kernel
theorem dX5_replays_62 : decode cX5_replays 62 = .ok (.bipush 11, 2) := by decide +kernel
theorem dX5_replays_64 : decode cX5_replays 64 = .ok (.bipush 7, 2) := by decide +kernel
theorem dX5_replays_66 : decode cX5_replays 66 = .ok (.iconst 1, 1) := by decide +kernel
theorem dX5_replays_67 : decode cX5_replays 67 = .ok (.invokevirtual 97, 3) := by decide +kernel
theorem dX5_replays_70 : decode cX5_replays 70 = .ok (.iconst 0, 1) := by decide +kernel
theorem dX5_replays_71 : decode cX5_replays 71 = .ok (.istore 4, 2) := by decide +kernel
theorem dX5_replays_73 : decode cX5_replays 73 = .ok (.iload 4, 2) := by decide +kernel
theorem dX5_replays_75 : decode cX5_replays 75 = .ok (.bipush 9, 2) := by decide +kernel
theorem dX5_replays_77 : decode cX5_replays 77 = .ok (.if_icmp .gt 34, 3) := by decide +kernel
theorem dX5_replays_80 : decode cX5_replays 80 = .ok (.aload_n 0, 1) := by decide +kernel
theorem dX5_replays_81 : decode cX5_replays 81 = .ok (.getfield 7, 3) := by decide +kernel
theorem dX5_replays_84 : decode cX5_replays 84 = .ok (.bipush 11, 2) := by decide +kernel
theorem dX5_replays_86 : decode cX5_replays 86 = .ok (.iconst 0, 1) := by decide +kernel
theorem dX5_replays_87 : decode cX5_replays 87 = .ok (.iload 4, 2) := by decide +kernel
theorem dX5_replays_89 : decode cX5_replays 89 = .ok (.invokestatic 40, 3) := by decide +kernel
theorem dX5_replays_92 : decode cX5_replays 92 = .ok (.aload_n 0, 1) := by decide +kernel
theorem dX5_replays_93 : decode cX5_replays 93 = .ok (.getfield 7, 3) := by decide +kernel
theorem dX5_replays_96 : decode cX5_replays 96 = .ok (.iconst 0, 1) := by decide +kernel
theorem dX5_replays_97 : decode cX5_replays 97 = .ok (.iload_n 1, 1) := by decide +kernel
theorem dX5_replays_98 : decode cX5_replays 98 = .ok (.iload 4, 2) := by decide +kernel
theorem dX5_replays_100 : decode cX5_replays 100 = .ok (.invokestatic 40, 3) := by decide +kernel
theorem dX5_replays_103 : decode cX5_replays 103 = .ok (.iaload, 1) := by decide +kernel
theorem dX5_replays_104 : decode cX5_replays 104 = .ok (.iastore, 1) := by decide +kernel
theorem dX5_replays_105 : decode cX5_replays 105 = .ok (.iinc 4 1, 3) := by decide +kernel
theorem dX5_replays_108 : decode cX5_replays 108 = .ok (.goto (-35), 3) := by decide +kernel
theorem dX5_replays_111 : decode cX5_replays 111 = .ok (.aload_n 0, 1) := by decide +kernel
theorem dX5_replays_112 : decode cX5_replays 112 = .ok (.getfield 7, 3) := by decide +kernel
theorem dX5_replays_115 : decode cX5_replays 115 = .ok (.bipush 11, 2) := by decide +kernel
theorem dX5_replays_117 : decode cX5_replays 117 = .ok (.iconst 0, 1) := by decide +kernel
theorem dX5_replays_118 : decode cX5_replays 118 = .ok (.iconst 3, 1) := by decide +kernel
theorem dX5_replays_119 : decode cX5_replays 119 = .ok (.invokestatic 40, 3) := by decide +kernel
theorem dX5_replays_122 : decode cX5_replays 122 = .ok (.iload_n 2, 1) := by decide +kernel
theorem dX5_replays_123 : decode cX5_replays 123 = .ok (.iastore, 1) := by decide +kernel
theorem dX5_replays_124 : decode cX5_replays 124 = .ok (.aload_n 0, 1) := by decide +kernel
theorem dX5_replays_125 : decode cX5_replays 125 = .ok (.getfield 7, 3) := by decide +kernel
theorem dX5_replays_128 : decode cX5_replays 128 = .ok (.bipush 11, 2) := by decide +kernel
theorem dX5_replays_130 : decode cX5_replays 130 = .ok (.iconst 0, 1) := by decide +kernel
theorem dX5_replays_131 : decode cX5_replays 131 = .ok (.iconst 4, 1) := by decide +kernel
theorem dX5_replays_132 : decode cX5_replays 132 = .ok (.invokestatic 40, 3) := by decide +kernel
theorem dX5_replays_135 : decode cX5_replays 135 = .ok (.iload_n 3, 1) := by decide +kernel
theorem dX5_replays_136 : decode cX5_replays 136 = .ok (.iastore, 1) := by decide +kernel
theorem dX5_replays_137 : decode cX5_replays 137 = .ok (.aload_n 0, 1) := by decide +kernel
theorem dX5_replays_138 : decode cX5_replays 138 = .ok (.getfield 7, 3) := by decide +kernel
theorem dX5_replays_141 : decode cX5_replays 141 = .ok (.bipush 11, 2) := by decide +kernel
theorem dX5_replays_143 : decode cX5_replays 143 = .ok (.iconst 0, 1) := by decide +kernel
theorem dX5_replays_144 : decode cX5_replays 144 = .ok (.bipush 10, 2) := by decide +kernel
theorem dX5_replays_146 : decode cX5_replays 146 = .ok (.invokestatic 40, 3) := by decide +kernel
theorem dX5_replays_149 : decode cX5_replays 149 = .ok (.aload_n 0, 1) := by decide +kernel
theorem dX5_replays_150 : decode cX5_replays 150 = .ok (.getfield 7, 3) := by decide +kernel
theorem dX5_replays_153 : decode cX5_replays 153 = .ok (.iconst 0, 1) := by decide +kernel
theorem dX5_replays_154 : decode cX5_replays 154 = .ok (.iload_n 1, 1) := by decide +kernel
theorem dX5_replays_155 : decode cX5_replays 155 = .ok (.iconst 0, 1) := by decide +kernel
theorem dX5_replays_156 : decode cX5_replays 156 = .ok (.invokestatic 40, 3) := by decide +kernel
theorem dX5_replays_159 : decode cX5_replays 159 = .ok (.iaload, 1) := by decide +kernel
theorem dX5_replays_160 : decode cX5_replays 160 = .ok (.iastore, 1) := by decide +kernel
theorem dX5_replays_161 : decode cX5_replays 161 = .ok (.iconst 0, 1) := by decide +kernel
theorem dX5_replays_162 : decode cX5_replays 162 = .ok (.istore 4, 2) := by decide +kernel
theorem dX5_replays_164 : decode cX5_replays 164 = .ok (.iload 4, 2) := by decide +kernel
theorem dX5_replays_166 : decode cX5_replays 166 = .ok (.aload_n 0, 1) := by decide +kernel
theorem dX5_replays_167 : decode cX5_replays 167 = .ok (.getfield 7, 3) := by decide +kernel
theorem dX5_replays_170 : decode cX5_replays 170 = .ok (.iconst 0, 1) := by decide +kernel
theorem dX5_replays_171 : decode cX5_replays 171 = .ok (.iload_n 1, 1) := by decide +kernel
theorem dX5_replays_172 : decode cX5_replays 172 = .ok (.bipush 9, 2) := by decide +kernel
theorem dX5_replays_174 : decode cX5_replays 174 = .ok (.invokestatic 40, 3) := by decide +kernel
theorem dX5_replays_177 : decode cX5_replays 177 = .ok (.iaload, 1) := by decide +kernel
theorem dX5_replays_178 : decode cX5_replays 178 = .ok (.if_icmp .ge 63, 3) := by decide +kernel
theorem dX5_replays_181 : decode cX5_replays 181 = .ok (.aload_n 0, 1) := by decide +kernel
theorem dX5_replays_182 : decode cX5_replays 182 = .ok (.getfield 7, 3) := by decide +kernel
theorem dX5_replays_185 : decode cX5_replays 185 = .ok (.bipush 11, 2) := by decide +kernel
theorem dX5_replays_187 : decode cX5_replays 187 = .ok (.iconst 0, 1) := by decide +kernel
theorem dX5_replays_188 : decode cX5_replays 188 = .ok (.iload 4, 2) := by decide +kernel
theorem dX5_replays_190 : decode cX5_replays 190 = .ok (.iconst 0, 1) := by decide +kernel
theorem dX5_replays_191 : decode cX5_replays 191 = .ok (.invokestatic 63, 3) := by decide +kernel
theorem dX5_replays_194 : decode cX5_replays 194 = .ok (.aload_n 0, 1) := by decide +kernel
theorem dX5_replays_195 : decode cX5_replays 195 = .ok (.getfield 7, 3) := by decide +kernel
theorem dX5_replays_198 : decode cX5_replays 198 = .ok (.iconst 0, 1) := by decide +kernel
theorem dX5_replays_199 : decode cX5_replays 199 = .ok (.iload_n 1, 1) := by decide +kernel
theorem dX5_replays_200 : decode cX5_replays 200 = .ok (.iload 4, 2) := by decide +kernel
theorem dX5_replays_202 : decode cX5_replays 202 = .ok (.iconst 0, 1) := by decide +kernel
theorem dX5_replays_203 : decode cX5_replays 203 = .ok (.invokestatic 63, 3) := by decide +kernel
theorem dX5_replays_206 : decode cX5_replays 206 = .ok (.iaload, 1) := by decide +kernel
theorem dX5_replays_207 : decode cX5_replays 207 = .ok (.iastore, 1) := by decide +kernel
theorem dX5_replays_208 : decode cX5_replays 208 = .ok (.aload_n 0, 1) := by decide +kernel
theorem dX5_replays_209 : decode cX5_replays 209 = .ok (.getfield 7, 3) := by decide +kernel
theorem dX5_replays_212 : decode cX5_replays 212 = .ok (.bipush 11, 2) := by decide +kernel
theorem dX5_replays_214 : decode cX5_replays 214 = .ok (.iconst 0, 1) := by decide +kernel
theorem dX5_replays_215 : decode cX5_replays 215 = .ok (.iload 4, 2) := by decide +kernel
theorem dX5_replays_217 : decode cX5_replays 217 = .ok (.iconst 1, 1) := by decide +kernel
theorem dX5_replays_218 : decode cX5_replays 218 = .ok (.invokestatic 63, 3) := by decide +kernel
theorem dX5_replays_221 : decode cX5_replays 221 = .ok (.aload_n 0, 1) := by decide +kernel
theorem dX5_replays_222 : decode cX5_replays 222 = .ok (.getfield 7, 3) := by decide +kernel
theorem dX5_replays_225 : decode cX5_replays 225 = .ok (.iconst 0, 1) := by decide +kernel
theorem dX5_replays_226 : decode cX5_replays 226 = .ok (.iload_n 1, 1) := by decide +kernel
theorem dX5_replays_227 : decode cX5_replays 227 = .ok (.iload 4, 2) := by decide +kernel
theorem dX5_replays_229 : decode cX5_replays 229 = .ok (.iconst 1, 1) := by decide +kernel
theorem dX5_replays_230 : decode cX5_replays 230 = .ok (.invokestatic 63, 3) := by decide +kernel
theorem dX5_replays_233 : decode cX5_replays 233 = .ok (.iaload, 1) := by decide +kernel
theorem dX5_replays_234 : decode cX5_replays 234 = .ok (.iastore, 1) := by decide +kernel
theorem dX5_replays_235 : decode cX5_replays 235 = .ok (.iinc 4 1, 3) := by decide +kernel
theorem dX5_replays_238 : decode cX5_replays 238 = .ok (.goto (-74), 3) := by decide +kernel
theorem dX5_replays_241 : decode cX5_replays 241 = .ok (.aload_n 0, 1) := by decide +kernel
theorem dX5_replays_242 : decode cX5_replays 242 = .ok (.iconst 0, 1) := by decide +kernel
theorem dX5_replays_243 : decode cX5_replays 243 = .ok (.invokevirtual 59, 3) := by decide +kernel
theorem dX5_replays_246 : decode cX5_replays 246 = .ok (.iconst 1, 1) := by decide +kernel
theorem dX5_replays_247 : decode cX5_replays 247 = .ok (.isub, 1) := by decide +kernel
theorem dX5_replays_248 : decode cX5_replays 248 = .ok (.istore 4, 2) := by decide +kernel
theorem dX5_replays_250 : decode cX5_replays 250 = .ok (.iload 4, 2) := by decide +kernel
theorem dX5_replays_252 : decode cX5_replays 252 = .ok (.ifCond .lt 71, 3) := by decide +kernel
theorem dX5_replays_255 : decode cX5_replays 255 = .ok (.iconst 0, 1) := by decide +kernel
theorem dX5_replays_256 : decode cX5_replays 256 = .ok (.istore 5, 2) := by decide +kernel
theorem dX5_replays_258 : decode cX5_replays 258 = .ok (.iload 5, 2) := by decide +kernel
theorem dX5_replays_260 : decode cX5_replays 260 = .ok (.aload_n 0, 1) := by decide +kernel
theorem dX5_replays_261 : decode cX5_replays 261 = .ok (.getfield 7, 3) := by decide +kernel
theorem dX5_replays_264 : decode cX5_replays 264 = .ok (.iconst 0, 1) := by decide +kernel
theorem dX5_replays_265 : decode cX5_replays 265 = .ok (.iload_n 1, 1) := by decide +kernel
theorem dX5_replays_266 : decode cX5_replays 266 = .ok (.bipush 9, 2) := by decide +kernel
theorem dX5_replays_268 : decode cX5_replays 268 = .ok (.invokestatic 40, 3) := by decide +kernel
theorem dX5_replays_271 : decode cX5_replays 271 = .ok (.iaload, 1) := by decide +kernel
theorem dX5_replays_272 : decode cX5_replays 272 = .ok (.if_icmp .ge 39, 3) := by decide +kernel
theorem dX5_replays_275 : decode cX5_replays 275 = .ok (.aload_n 0, 1) := by decide +kernel
theorem dX5_replays_276 : decode cX5_replays 276 = .ok (.getfield 7, 3) := by decide +kernel
theorem dX5_replays_279 : decode cX5_replays 279 = .ok (.bipush 11, 2) := by decide +kernel
theorem dX5_replays_281 : decode cX5_replays 281 = .ok (.iconst 0, 1) := by decide +kernel
theorem dX5_replays_282 : decode cX5_replays 282 = .ok (.iload 5, 2) := by decide +kernel
theorem dX5_replays_284 : decode cX5_replays 284 = .ok (.iconst 2, 1) := by decide +kernel
theorem dX5_replays_285 : decode cX5_replays 285 = .ok (.invokestatic 63, 3) := by decide +kernel
theorem dX5_replays_288 : decode cX5_replays 288 = .ok (.aload_n 0, 1) := by decide +kernel
theorem dX5_replays_289 : decode cX5_replays 289 = .ok (.getfield 7, 3) := by decide +kernel
theorem dX5_replays_292 : decode cX5_replays 292 = .ok (.iconst 0, 1) := by decide +kernel
theorem dX5_replays_293 : decode cX5_replays 293 = .ok (.iload_n 1, 1) := by decide +kernel
theorem dX5_replays_294 : decode cX5_replays 294 = .ok (.iload 5, 2) := by decide +kernel
theorem dX5_replays_296 : decode cX5_replays 296 = .ok (.iconst 3, 1) := by decide +kernel
theorem dX5_replays_297 : decode cX5_replays 297 = .ok (.iload 4, 2) := by decide +kernel
theorem dX5_replays_299 : decode cX5_replays 299 = .ok (.iadd, 1) := by decide +kernel
theorem dX5_replays_300 : decode cX5_replays 300 = .ok (.invokestatic 63, 3) := by decide +kernel
theorem dX5_replays_303 : decode cX5_replays 303 = .ok (.iaload, 1) := by decide +kernel
theorem dX5_replays_304 : decode cX5_replays 304 = .ok (.iastore, 1) := by decide +kernel
theorem dX5_replays_305 : decode cX5_replays 305 = .ok (.iinc 5 1, 3) := by decide +kernel
theorem dX5_replays_308 : decode cX5_replays 308 = .ok (.goto (-50), 3) := by decide +kernel
theorem dX5_replays_311 : decode cX5_replays 311 = .ok (.aload_n 0, 1) := by decide +kernel
theorem dX5_replays_312 : decode cX5_replays 312 = .ok (.bipush 11, 2) := by decide +kernel
theorem dX5_replays_314 : decode cX5_replays 314 = .ok (.invokevirtual 218, 3) := by decide +kernel
theorem dX5_replays_317 : decode cX5_replays 317 = .ok (.iinc 4 (-1), 3) := by decide +kernel
theorem dX5_replays_320 : decode cX5_replays 320 = .ok (.goto (-70), 3) := by decide +kernel
theorem dX5_replays_323 : decode cX5_replays 323 = .ok (.return_, 1) := by decide +kernel
theorem dX5_replay_0 : decode cX5_replay 0 = .ok (.aload_n 0, 1) := by decide +kernel
theorem dX5_replay_1 : decode cX5_replay 1 = .ok (.iload_n 1, 1) := by decide +kernel
theorem dX5_replay_2 : decode cX5_replay 2 = .ok (.invokevirtual 48, 3) := by decide +kernel
theorem dX5_replay_5 : decode cX5_replay 5 = .ok (.ifCond .ne 6, 3) := by decide +kernel
theorem dX5_replay_8 : decode cX5_replay 8 = .ok (.ldc 203, 2) := by decide +kernel
theorem dX5_replay_10 : decode cX5_replay 10 = .ok (.ireturn, 1) := by decide +kernel
theorem dX5_replay_11 : decode cX5_replay 11 = .ok (.iload_n 2, 1) := by decide +kernel
theorem dX5_replay_12 : decode cX5_replay 12 = .ok (.i2l, 1) := by decide +kernel
theorem dX5_replay_13 : decode cX5_replay 13 = .ok (.lconst 1, 1) := by decide +kernel
theorem dX5_replay_14 : decode cX5_replay 14 = .ok (.ldc2_w 231, 3) := by decide +kernel
theorem dX5_replay_17 : decode cX5_replay 17 = .ok (.invokestatic 44, 3) := by decide +kernel
theorem dX5_replay_20 : decode cX5_replay 20 = .ok (.ifCond .eq 28, 3) := by decide +kernel
theorem dX5_replay_23 : decode cX5_replay 23 = .ok (.iload_n 3, 1) := by decide +kernel
theorem dX5_replay_24 : decode cX5_replay 24 = .ok (.i2l, 1) := by decide +kernel
theorem dX5_replay_25 : decode cX5_replay 25 = .ok (.lconst 1, 1) := by decide +kernel
theorem dX5_replay_26 : decode cX5_replay 26 = .ok (.ldc2_w 231, 3) := by decide +kernel
theorem dX5_replay_29 : decode cX5_replay 29 = .ok (.invokestatic 44, 3) := by decide +kernel
theorem dX5_replay_32 : decode cX5_replay 32 = .ok (.ifCond .eq 16, 3) := by decide +kernel
theorem dX5_replay_35 : decode cX5_replay 35 = .ok (.iload 4, 2) := by decide +kernel
theorem dX5_replay_37 : decode cX5_replay 37 = .ok (.i2l, 1) := by decide +kernel
theorem dX5_replay_38 : decode cX5_replay 38 = .ok (.lconst 0, 1) := by decide +kernel
theorem dX5_replay_39 : decode cX5_replay 39 = .ok (.ldc2_w 224, 3) := by decide +kernel
theorem dX5_replay_42 : decode cX5_replay 42 = .ok (.invokestatic 44, 3) := by decide +kernel
theorem dX5_replay_45 : decode cX5_replay 45 = .ok (.ifCond .ne 6, 3) := by decide +kernel
theorem dX5_replay_48 : decode cX5_replay 48 = .ok (.ldc 123, 2) := by decide +kernel
theorem dX5_replay_50 : decode cX5_replay 50 = .ok (.ireturn, 1) := by decide +kernel
theorem dX5_replay_51 : decode cX5_replay 51 = .ok (.aload_n 0, 1) := by decide +kernel
theorem dX5_replay_52 : decode cX5_replay 52 = .ok (.iload_n 1, 1) := by decide +kernel
theorem dX5_replay_53 : decode cX5_replay 53 = .ok (.iload_n 2, 1) := by decide +kernel
theorem dX5_replay_54 : decode cX5_replay 54 = .ok (.iload_n 3, 1) := by decide +kernel
theorem dX5_replay_55 : decode cX5_replay 55 = .ok (.invokevirtual 253, 3) := by decide +kernel
theorem dX5_replay_58 : decode cX5_replay 58 = .ok (.aload_n 0, 1) := by decide +kernel
theorem dX5_replay_59 : decode cX5_replay 59 = .ok (.getfield 7, 3) := by decide +kernel
theorem dX5_replay_62 : decode cX5_replay 62 = .ok (.bipush 11, 2) := by decide +kernel
theorem dX5_replay_64 : decode cX5_replay 64 = .ok (.iconst 0, 1) := by decide +kernel
theorem dX5_replay_65 : decode cX5_replay 65 = .ok (.bipush 32, 2) := by decide +kernel
theorem dX5_replay_67 : decode cX5_replay 67 = .ok (.iload 4, 2) := by decide +kernel
theorem dX5_replay_69 : decode cX5_replay 69 = .ok (.iadd, 1) := by decide +kernel
theorem dX5_replay_70 : decode cX5_replay 70 = .ok (.invokestatic 40, 3) := by decide +kernel
theorem dX5_replay_73 : decode cX5_replay 73 = .ok (.iaload, 1) := by decide +kernel
theorem dX5_replay_74 : decode cX5_replay 74 = .ok (.ireturn, 1) := by decide +kernel
theorem dX5_best_0 : decode cX5_best 0 = .ok (.aload_n 0, 1) := by decide +kernel
theorem dX5_best_1 : decode cX5_best 1 = .ok (.iload_n 1, 1) := by decide +kernel
theorem dX5_best_2 : decode cX5_best 2 = .ok (.invokevirtual 48, 3) := by decide +kernel
theorem dX5_best_5 : decode cX5_best 5 = .ok (.ifCond .ne 6, 3) := by decide +kernel
theorem dX5_best_8 : decode cX5_best 8 = .ok (.ldc 203, 2) := by decide +kernel
theorem dX5_best_10 : decode cX5_best 10 = .ok (.ireturn, 1) := by decide +kernel
theorem dX5_best_11 : decode cX5_best 11 = .ok (.iconst 0, 1) := by decide +kernel
theorem dX5_best_12 : decode cX5_best 12 = .ok (.istore_n 2, 1) := by decide +kernel
theorem dX5_best_13 : decode cX5_best 13 = .ok (.iconst (-1), 1) := by decide +kernel
theorem dX5_best_14 : decode cX5_best 14 = .ok (.istore_n 3, 1) := by decide +kernel
theorem dX5_best_15 : decode cX5_best 15 = .ok (.iconst 0, 1) := by decide +kernel
theorem dX5_best_16 : decode cX5_best 16 = .ok (.istore 4, 2) := by decide +kernel
theorem dX5_best_18 : decode cX5_best 18 = .ok (.iload 4, 2) := by decide +kernel
theorem dX5_best_20 : decode cX5_best 20 = .ok (.bipush 36, 2) := by decide +kernel
theorem dX5_best_22 : decode cX5_best 22 = .ok (.if_icmp .ge 108, 3) := by decide +kernel
theorem dX5_best_25 : decode cX5_best 25 = .ok (.aload_n 0, 1) := by decide +kernel
theorem dX5_best_26 : decode cX5_best 26 = .ok (.iload_n 1, 1) := by decide +kernel
theorem dX5_best_27 : decode cX5_best 27 = .ok (.iconst 1, 1) := by decide +kernel
theorem dX5_best_28 : decode cX5_best 28 = .ok (.iload 4, 2) := by decide +kernel
theorem dX5_best_30 : decode cX5_best 30 = .ok (.bipush 6, 2) := by decide +kernel
theorem dX5_best_32 : decode cX5_best 32 = .ok (.idiv, 1) := by decide +kernel
theorem dX5_best_33 : decode cX5_best 33 = .ok (.iadd, 1) := by decide +kernel
theorem dX5_best_34 : decode cX5_best 34 = .ok (.iconst 1, 1) := by decide +kernel
theorem dX5_best_35 : decode cX5_best 35 = .ok (.iload 4, 2) := by decide +kernel
theorem dX5_best_37 : decode cX5_best 37 = .ok (.bipush 6, 2) := by decide +kernel
theorem dX5_best_39 : decode cX5_best 39 = .ok (.irem, 1) := by decide +kernel
theorem dX5_best_40 : decode cX5_best 40 = .ok (.iadd, 1) := by decide +kernel
theorem dX5_best_41 : decode cX5_best 41 = .ok (.invokevirtual 253, 3) := by decide +kernel
theorem dX5_best_44 : decode cX5_best 44 = .ok (.aload_n 0, 1) := by decide +kernel
theorem dX5_best_45 : decode cX5_best 45 = .ok (.getfield 7, 3) := by decide +kernel
theorem dX5_best_48 : decode cX5_best 48 = .ok (.bipush 11, 2) := by decide +kernel
theorem dX5_best_50 : decode cX5_best 50 = .ok (.iconst 0, 1) := by decide +kernel
theorem dX5_best_51 : decode cX5_best 51 = .ok (.bipush 32, 2) := by decide +kernel
theorem dX5_best_53 : decode cX5_best 53 = .ok (.invokestatic 40, 3) := by decide +kernel
theorem dX5_best_56 : decode cX5_best 56 = .ok (.iaload, 1) := by decide +kernel
theorem dX5_best_57 : decode cX5_best 57 = .ok (.iconst 5, 1) := by decide +kernel
theorem dX5_best_58 : decode cX5_best 58 = .ok (.aload_n 0, 1) := by decide +kernel
theorem dX5_best_59 : decode cX5_best 59 = .ok (.getfield 7, 3) := by decide +kernel
theorem dX5_best_62 : decode cX5_best 62 = .ok (.bipush 11, 2) := by decide +kernel
theorem dX5_best_64 : decode cX5_best 64 = .ok (.iconst 0, 1) := by decide +kernel
theorem dX5_best_65 : decode cX5_best 65 = .ok (.bipush 33, 2) := by decide +kernel
theorem dX5_best_67 : decode cX5_best 67 = .ok (.invokestatic 40, 3) := by decide +kernel
theorem dX5_best_70 : decode cX5_best 70 = .ok (.iaload, 1) := by decide +kernel
theorem dX5_best_71 : decode cX5_best 71 = .ok (.imul, 1) := by decide +kernel
theorem dX5_best_72 : decode cX5_best 72 = .ok (.iadd, 1) := by decide +kernel
theorem dX5_best_73 : decode cX5_best 73 = .ok (.iconst 3, 1) := by decide +kernel
theorem dX5_best_74 : decode cX5_best 74 = .ok (.aload_n 0, 1) := by decide +kernel
theorem dX5_best_75 : decode cX5_best 75 = .ok (.getfield 7, 3) := by decide +kernel
theorem dX5_best_78 : decode cX5_best 78 = .ok (.bipush 11, 2) := by decide +kernel
theorem dX5_best_80 : decode cX5_best 80 = .ok (.iconst 0, 1) := by decide +kernel
theorem dX5_best_81 : decode cX5_best 81 = .ok (.bipush 34, 2) := by decide +kernel
theorem dX5_best_83 : decode cX5_best 83 = .ok (.invokestatic 40, 3) := by decide +kernel
theorem dX5_best_86 : decode cX5_best 86 = .ok (.iaload, 1) := by decide +kernel
theorem dX5_best_87 : decode cX5_best 87 = .ok (.imul, 1) := by decide +kernel
theorem dX5_best_88 : decode cX5_best 88 = .ok (.iadd, 1) := by decide +kernel
theorem dX5_best_89 : decode cX5_best 89 = .ok (.istore 5, 2) := by decide +kernel
theorem dX5_best_91 : decode cX5_best 91 = .ok (.iload_n 3, 1) := by decide +kernel
theorem dX5_best_92 : decode cX5_best 92 = .ok (.iconst (-1), 1) := by decide +kernel
theorem dX5_best_93 : decode cX5_best 93 = .ok (.if_icmp .eq 9, 3) := by decide +kernel
theorem dX5_best_96 : decode cX5_best 96 = .ok (.iload 5, 2) := by decide +kernel
theorem dX5_best_98 : decode cX5_best 98 = .ok (.iload_n 2, 1) := by decide +kernel
theorem dX5_best_99 : decode cX5_best 99 = .ok (.if_icmp .ge 25, 3) := by decide +kernel
theorem dX5_best_102 : decode cX5_best 102 = .ok (.iload 5, 2) := by decide +kernel
theorem dX5_best_104 : decode cX5_best 104 = .ok (.istore_n 2, 1) := by decide +kernel
theorem dX5_best_105 : decode cX5_best 105 = .ok (.bipush 10, 2) := by decide +kernel
theorem dX5_best_107 : decode cX5_best 107 = .ok (.iconst 1, 1) := by decide +kernel
theorem dX5_best_108 : decode cX5_best 108 = .ok (.iload 4, 2) := by decide +kernel
theorem dX5_best_110 : decode cX5_best 110 = .ok (.bipush 6, 2) := by decide +kernel
theorem dX5_best_112 : decode cX5_best 112 = .ok (.idiv, 1) := by decide +kernel
theorem dX5_best_113 : decode cX5_best 113 = .ok (.iadd, 1) := by decide +kernel
theorem dX5_best_114 : decode cX5_best 114 = .ok (.imul, 1) := by decide +kernel
theorem dX5_best_115 : decode cX5_best 115 = .ok (.iconst 1, 1) := by decide +kernel
theorem dX5_best_116 : decode cX5_best 116 = .ok (.iadd, 1) := by decide +kernel
theorem dX5_best_117 : decode cX5_best 117 = .ok (.iload 4, 2) := by decide +kernel
theorem dX5_best_119 : decode cX5_best 119 = .ok (.bipush 6, 2) := by decide +kernel
theorem dX5_best_121 : decode cX5_best 121 = .ok (.irem, 1) := by decide +kernel
theorem dX5_best_122 : decode cX5_best 122 = .ok (.iadd, 1) := by decide +kernel
theorem dX5_best_123 : decode cX5_best 123 = .ok (.istore_n 3, 1) := by decide +kernel
theorem dX5_best_124 : decode cX5_best 124 = .ok (.iinc 4 1, 3) := by decide +kernel
theorem dX5_best_127 : decode cX5_best 127 = .ok (.goto (-109), 3) := by decide +kernel
theorem dX5_best_130 : decode cX5_best 130 = .ok (.iload_n 3, 1) := by decide +kernel
theorem dX5_best_131 : decode cX5_best 131 = .ok (.ireturn, 1) := by decide +kernel
end
section
theorem dL_law_0 : decode cL_law 0 = .ok (.new 7, 3) := by decide +kernel
theorem dL_law_3 : decode cL_law 3 = .ok (.dup, 1) := by decide +kernel
theorem dL_law_4 : decode cL_law 4 = .ok (.invokespecial 9, 3) := by decide +kernel
theorem dL_law_7 : decode cL_law 7 = .ok (.astore_n 1, 1) := by decide +kernel
theorem dL_law_8 : decode cL_law 8 = .ok (.new 10, 3) := by decide +kernel
theorem dL_law_11 : decode cL_law 11 = .ok (.dup, 1) := by decide +kernel
theorem dL_law_12 : decode cL_law 12 = .ok (.invokespecial 12, 3) := by decide +kernel
theorem dL_law_15 : decode cL_law 15 = .ok (.astore_n 2, 1) := by decide +kernel
theorem dL_law_16 : decode cL_law 16 = .ok (.iconst 0, 1) := by decide +kernel
theorem dL_law_17 : decode cL_law 17 = .ok (.istore_n 3, 1) := by decide +kernel
theorem dL_law_18 : decode cL_law 18 = .ok (.iload_n 3, 1) := by decide +kernel
theorem dL_law_19 : decode cL_law 19 = .ok (.aload_n 0, 1) := by decide +kernel
theorem dL_law_20 : decode cL_law 20 = .ok (.arraylength, 1) := by decide +kernel
theorem dL_law_21 : decode cL_law 21 = .ok (.iconst 5, 1) := by decide +kernel
theorem dL_law_22 : decode cL_law 22 = .ok (.isub, 1) := by decide +kernel
theorem dL_law_23 : decode cL_law 23 = .ok (.if_icmp .gt 694, 3) := by decide +kernel
theorem dL_law_26 : decode cL_law 26 = .ok (.aload_n 0, 1) := by decide +kernel
theorem dL_law_27 : decode cL_law 27 = .ok (.iload_n 3, 1) := by decide +kernel
theorem dL_law_28 : decode cL_law 28 = .ok (.iaload, 1) := by decide +kernel
theorem dL_law_29 : decode cL_law 29 = .ok (.bipush 31, 2) := by decide +kernel
theorem dL_law_31 : decode cL_law 31 = .ok (.iand, 1) := by decide +kernel
theorem dL_law_32 : decode cL_law 32 = .ok (.tableswitch 679 0 18 #[92, 115, 128, 141, 184, 227, 240, 253, 286, 329, 362, 385, 418, 451, 494, 527, 560, 603, 656], 92) := by decide +kernel
theorem dL_law_124 : decode cL_law 124 = .ok (.aload_n 1, 1) := by decide +kernel
theorem dL_law_125 : decode cL_law 125 = .ok (.aload_n 0, 1) := by decide +kernel
theorem dL_law_126 : decode cL_law 126 = .ok (.iload_n 3, 1) := by decide +kernel
theorem dL_law_127 : decode cL_law 127 = .ok (.iconst 1, 1) := by decide +kernel
theorem dL_law_128 : decode cL_law 128 = .ok (.iadd, 1) := by decide +kernel
theorem dL_law_129 : decode cL_law 129 = .ok (.iaload, 1) := by decide +kernel
theorem dL_law_130 : decode cL_law 130 = .ok (.invokevirtual 13, 3) := by decide +kernel
theorem dL_law_133 : decode cL_law 133 = .ok (.aload_n 2, 1) := by decide +kernel
theorem dL_law_134 : decode cL_law 134 = .ok (.aload_n 0, 1) := by decide +kernel
theorem dL_law_135 : decode cL_law 135 = .ok (.iload_n 3, 1) := by decide +kernel
theorem dL_law_136 : decode cL_law 136 = .ok (.iconst 1, 1) := by decide +kernel
theorem dL_law_137 : decode cL_law 137 = .ok (.iadd, 1) := by decide +kernel
theorem dL_law_138 : decode cL_law 138 = .ok (.iaload, 1) := by decide +kernel
theorem dL_law_139 : decode cL_law 139 = .ok (.invokevirtual 17, 3) := by decide +kernel
theorem dL_law_142 : decode cL_law 142 = .ok (.if_icmp .eq 569, 3) := by decide +kernel
theorem dL_law_145 : decode cL_law 145 = .ok (.iconst 0, 1) := by decide +kernel
theorem dL_law_146 : decode cL_law 146 = .ok (.ireturn, 1) := by decide +kernel
theorem dL_law_147 : decode cL_law 147 = .ok (.aload_n 1, 1) := by decide +kernel
theorem dL_law_148 : decode cL_law 148 = .ok (.invokevirtual 18, 3) := by decide +kernel
theorem dL_law_151 : decode cL_law 151 = .ok (.aload_n 2, 1) := by decide +kernel
theorem dL_law_152 : decode cL_law 152 = .ok (.invokevirtual 22, 3) := by decide +kernel
theorem dL_law_155 : decode cL_law 155 = .ok (.if_icmp .eq 556, 3) := by decide +kernel
theorem dL_law_158 : decode cL_law 158 = .ok (.iconst 0, 1) := by decide +kernel
theorem dL_law_159 : decode cL_law 159 = .ok (.ireturn, 1) := by decide +kernel
theorem dL_law_160 : decode cL_law 160 = .ok (.aload_n 1, 1) := by decide +kernel
theorem dL_law_161 : decode cL_law 161 = .ok (.invokevirtual 23, 3) := by decide +kernel
theorem dL_law_164 : decode cL_law 164 = .ok (.aload_n 2, 1) := by decide +kernel
theorem dL_law_165 : decode cL_law 165 = .ok (.invokevirtual 26, 3) := by decide +kernel
theorem dL_law_168 : decode cL_law 168 = .ok (.if_icmp .eq 543, 3) := by decide +kernel
theorem dL_law_171 : decode cL_law 171 = .ok (.iconst 0, 1) := by decide +kernel
theorem dL_law_172 : decode cL_law 172 = .ok (.ireturn, 1) := by decide +kernel
theorem dL_law_173 : decode cL_law 173 = .ok (.aload_n 1, 1) := by decide +kernel
theorem dL_law_174 : decode cL_law 174 = .ok (.aload_n 0, 1) := by decide +kernel
theorem dL_law_175 : decode cL_law 175 = .ok (.iload_n 3, 1) := by decide +kernel
theorem dL_law_176 : decode cL_law 176 = .ok (.iconst 1, 1) := by decide +kernel
theorem dL_law_177 : decode cL_law 177 = .ok (.iadd, 1) := by decide +kernel
theorem dL_law_178 : decode cL_law 178 = .ok (.iaload, 1) := by decide +kernel
theorem dL_law_179 : decode cL_law 179 = .ok (.aload_n 0, 1) := by decide +kernel
theorem dL_law_180 : decode cL_law 180 = .ok (.iload_n 3, 1) := by decide +kernel
theorem dL_law_181 : decode cL_law 181 = .ok (.iconst 2, 1) := by decide +kernel
theorem dL_law_182 : decode cL_law 182 = .ok (.iadd, 1) := by decide +kernel
theorem dL_law_183 : decode cL_law 183 = .ok (.iaload, 1) := by decide +kernel
theorem dL_law_184 : decode cL_law 184 = .ok (.aload_n 0, 1) := by decide +kernel
theorem dL_law_185 : decode cL_law 185 = .ok (.iload_n 3, 1) := by decide +kernel
theorem dL_law_186 : decode cL_law 186 = .ok (.iconst 3, 1) := by decide +kernel
theorem dL_law_187 : decode cL_law 187 = .ok (.iadd, 1) := by decide +kernel
theorem dL_law_188 : decode cL_law 188 = .ok (.iaload, 1) := by decide +kernel
theorem dL_law_189 : decode cL_law 189 = .ok (.invokevirtual 27, 3) := by decide +kernel
theorem dL_law_192 : decode cL_law 192 = .ok (.aload_n 2, 1) := by decide +kernel
theorem dL_law_193 : decode cL_law 193 = .ok (.aload_n 0, 1) := by decide +kernel
theorem dL_law_194 : decode cL_law 194 = .ok (.iload_n 3, 1) := by decide +kernel
theorem dL_law_195 : decode cL_law 195 = .ok (.iconst 1, 1) := by decide +kernel
theorem dL_law_196 : decode cL_law 196 = .ok (.iadd, 1) := by decide +kernel
theorem dL_law_197 : decode cL_law 197 = .ok (.iaload, 1) := by decide +kernel
theorem dL_law_198 : decode cL_law 198 = .ok (.aload_n 0, 1) := by decide +kernel
theorem dL_law_199 : decode cL_law 199 = .ok (.iload_n 3, 1) := by decide +kernel
theorem dL_law_200 : decode cL_law 200 = .ok (.iconst 2, 1) := by decide +kernel
theorem dL_law_201 : decode cL_law 201 = .ok (.iadd, 1) := by decide +kernel
theorem dL_law_202 : decode cL_law 202 = .ok (.iaload, 1) := by decide +kernel
theorem dL_law_203 : decode cL_law 203 = .ok (.aload_n 0, 1) := by decide +kernel
theorem dL_law_204 : decode cL_law 204 = .ok (.iload_n 3, 1) := by decide +kernel
theorem dL_law_205 : decode cL_law 205 = .ok (.iconst 3, 1) := by decide +kernel
theorem dL_law_206 : decode cL_law 206 = .ok (.iadd, 1) := by decide +kernel
theorem dL_law_207 : decode cL_law 207 = .ok (.iaload, 1) := by decide +kernel
theorem dL_law_208 : decode cL_law 208 = .ok (.invokevirtual 31, 3) := by decide +kernel
theorem dL_law_211 : decode cL_law 211 = .ok (.if_icmp .eq 500, 3) := by decide +kernel
theorem dL_law_214 : decode cL_law 214 = .ok (.iconst 0, 1) := by decide +kernel
theorem dL_law_215 : decode cL_law 215 = .ok (.ireturn, 1) := by decide +kernel
theorem dL_law_216 : decode cL_law 216 = .ok (.aload_n 1, 1) := by decide +kernel
theorem dL_law_217 : decode cL_law 217 = .ok (.aload_n 0, 1) := by decide +kernel
theorem dL_law_218 : decode cL_law 218 = .ok (.iload_n 3, 1) := by decide +kernel
theorem dL_law_219 : decode cL_law 219 = .ok (.iconst 1, 1) := by decide +kernel
theorem dL_law_220 : decode cL_law 220 = .ok (.iadd, 1) := by decide +kernel
theorem dL_law_221 : decode cL_law 221 = .ok (.iaload, 1) := by decide +kernel
theorem dL_law_222 : decode cL_law 222 = .ok (.aload_n 0, 1) := by decide +kernel
theorem dL_law_223 : decode cL_law 223 = .ok (.iload_n 3, 1) := by decide +kernel
theorem dL_law_224 : decode cL_law 224 = .ok (.iconst 2, 1) := by decide +kernel
theorem dL_law_225 : decode cL_law 225 = .ok (.iadd, 1) := by decide +kernel
theorem dL_law_226 : decode cL_law 226 = .ok (.iaload, 1) := by decide +kernel
theorem dL_law_227 : decode cL_law 227 = .ok (.aload_n 0, 1) := by decide +kernel
theorem dL_law_228 : decode cL_law 228 = .ok (.iload_n 3, 1) := by decide +kernel
theorem dL_law_229 : decode cL_law 229 = .ok (.iconst 3, 1) := by decide +kernel
theorem dL_law_230 : decode cL_law 230 = .ok (.iadd, 1) := by decide +kernel
theorem dL_law_231 : decode cL_law 231 = .ok (.iaload, 1) := by decide +kernel
theorem dL_law_232 : decode cL_law 232 = .ok (.invokevirtual 32, 3) := by decide +kernel
theorem dL_law_235 : decode cL_law 235 = .ok (.aload_n 2, 1) := by decide +kernel
theorem dL_law_236 : decode cL_law 236 = .ok (.aload_n 0, 1) := by decide +kernel
theorem dL_law_237 : decode cL_law 237 = .ok (.iload_n 3, 1) := by decide +kernel
theorem dL_law_238 : decode cL_law 238 = .ok (.iconst 1, 1) := by decide +kernel
theorem dL_law_239 : decode cL_law 239 = .ok (.iadd, 1) := by decide +kernel
theorem dL_law_240 : decode cL_law 240 = .ok (.iaload, 1) := by decide +kernel
theorem dL_law_241 : decode cL_law 241 = .ok (.aload_n 0, 1) := by decide +kernel
theorem dL_law_242 : decode cL_law 242 = .ok (.iload_n 3, 1) := by decide +kernel
theorem dL_law_243 : decode cL_law 243 = .ok (.iconst 2, 1) := by decide +kernel
theorem dL_law_244 : decode cL_law 244 = .ok (.iadd, 1) := by decide +kernel
theorem dL_law_245 : decode cL_law 245 = .ok (.iaload, 1) := by decide +kernel
theorem dL_law_246 : decode cL_law 246 = .ok (.aload_n 0, 1) := by decide +kernel
theorem dL_law_247 : decode cL_law 247 = .ok (.iload_n 3, 1) := by decide +kernel
theorem dL_law_248 : decode cL_law 248 = .ok (.iconst 3, 1) := by decide +kernel
theorem dL_law_249 : decode cL_law 249 = .ok (.iadd, 1) := by decide +kernel
theorem dL_law_250 : decode cL_law 250 = .ok (.iaload, 1) := by decide +kernel
theorem dL_law_251 : decode cL_law 251 = .ok (.invokevirtual 35, 3) := by decide +kernel
theorem dL_law_254 : decode cL_law 254 = .ok (.if_icmp .eq 457, 3) := by decide +kernel
theorem dL_law_257 : decode cL_law 257 = .ok (.iconst 0, 1) := by decide +kernel
theorem dL_law_258 : decode cL_law 258 = .ok (.ireturn, 1) := by decide +kernel
theorem dL_law_259 : decode cL_law 259 = .ok (.aload_n 1, 1) := by decide +kernel
theorem dL_law_260 : decode cL_law 260 = .ok (.invokevirtual 36, 3) := by decide +kernel
theorem dL_law_263 : decode cL_law 263 = .ok (.aload_n 2, 1) := by decide +kernel
theorem dL_law_264 : decode cL_law 264 = .ok (.invokevirtual 39, 3) := by decide +kernel
theorem dL_law_267 : decode cL_law 267 = .ok (.if_icmp .eq 444, 3) := by decide +kernel
theorem dL_law_270 : decode cL_law 270 = .ok (.iconst 0, 1) := by decide +kernel
theorem dL_law_271 : decode cL_law 271 = .ok (.ireturn, 1) := by decide +kernel
theorem dL_law_272 : decode cL_law 272 = .ok (.aload_n 1, 1) := by decide +kernel
theorem dL_law_273 : decode cL_law 273 = .ok (.invokevirtual 40, 3) := by decide +kernel
theorem dL_law_276 : decode cL_law 276 = .ok (.aload_n 2, 1) := by decide +kernel
theorem dL_law_277 : decode cL_law 277 = .ok (.invokevirtual 43, 3) := by decide +kernel
theorem dL_law_280 : decode cL_law 280 = .ok (.if_icmp .eq 431, 3) := by decide +kernel
theorem dL_law_283 : decode cL_law 283 = .ok (.iconst 0, 1) := by decide +kernel
theorem dL_law_284 : decode cL_law 284 = .ok (.ireturn, 1) := by decide +kernel
theorem dL_law_285 : decode cL_law 285 = .ok (.aload_n 1, 1) := by decide +kernel
theorem dL_law_286 : decode cL_law 286 = .ok (.aload_n 0, 1) := by decide +kernel
theorem dL_law_287 : decode cL_law 287 = .ok (.iload_n 3, 1) := by decide +kernel
theorem dL_law_288 : decode cL_law 288 = .ok (.iconst 1, 1) := by decide +kernel
theorem dL_law_289 : decode cL_law 289 = .ok (.iadd, 1) := by decide +kernel
theorem dL_law_290 : decode cL_law 290 = .ok (.iaload, 1) := by decide +kernel
theorem dL_law_291 : decode cL_law 291 = .ok (.aload_n 0, 1) := by decide +kernel
theorem dL_law_292 : decode cL_law 292 = .ok (.iload_n 3, 1) := by decide +kernel
theorem dL_law_293 : decode cL_law 293 = .ok (.iconst 2, 1) := by decide +kernel
theorem dL_law_294 : decode cL_law 294 = .ok (.iadd, 1) := by decide +kernel
theorem dL_law_295 : decode cL_law 295 = .ok (.iaload, 1) := by decide +kernel
theorem dL_law_296 : decode cL_law 296 = .ok (.invokevirtual 44, 3) := by decide +kernel
theorem dL_law_299 : decode cL_law 299 = .ok (.aload_n 2, 1) := by decide +kernel
theorem dL_law_300 : decode cL_law 300 = .ok (.aload_n 0, 1) := by decide +kernel
theorem dL_law_301 : decode cL_law 301 = .ok (.iload_n 3, 1) := by decide +kernel
theorem dL_law_302 : decode cL_law 302 = .ok (.iconst 1, 1) := by decide +kernel
theorem dL_law_303 : decode cL_law 303 = .ok (.iadd, 1) := by decide +kernel
theorem dL_law_304 : decode cL_law 304 = .ok (.iaload, 1) := by decide +kernel
theorem dL_law_305 : decode cL_law 305 = .ok (.aload_n 0, 1) := by decide +kernel
theorem dL_law_306 : decode cL_law 306 = .ok (.iload_n 3, 1) := by decide +kernel
theorem dL_law_307 : decode cL_law 307 = .ok (.iconst 2, 1) := by decide +kernel
theorem dL_law_308 : decode cL_law 308 = .ok (.iadd, 1) := by decide +kernel
theorem dL_law_309 : decode cL_law 309 = .ok (.iaload, 1) := by decide +kernel
theorem dL_law_310 : decode cL_law 310 = .ok (.invokevirtual 48, 3) := by decide +kernel
theorem dL_law_313 : decode cL_law 313 = .ok (.if_icmp .eq 398, 3) := by decide +kernel
theorem dL_law_316 : decode cL_law 316 = .ok (.iconst 0, 1) := by decide +kernel
theorem dL_law_317 : decode cL_law 317 = .ok (.ireturn, 1) := by decide +kernel
theorem dL_law_318 : decode cL_law 318 = .ok (.aload_n 1, 1) := by decide +kernel
theorem dL_law_319 : decode cL_law 319 = .ok (.aload_n 0, 1) := by decide +kernel
theorem dL_law_320 : decode cL_law 320 = .ok (.iload_n 3, 1) := by decide +kernel
theorem dL_law_321 : decode cL_law 321 = .ok (.iconst 1, 1) := by decide +kernel
theorem dL_law_322 : decode cL_law 322 = .ok (.iadd, 1) := by decide +kernel
theorem dL_law_323 : decode cL_law 323 = .ok (.iaload, 1) := by decide +kernel
theorem dL_law_324 : decode cL_law 324 = .ok (.aload_n 0, 1) := by decide +kernel
theorem dL_law_325 : decode cL_law 325 = .ok (.iload_n 3, 1) := by decide +kernel
theorem dL_law_326 : decode cL_law 326 = .ok (.iconst 2, 1) := by decide +kernel
theorem dL_law_327 : decode cL_law 327 = .ok (.iadd, 1) := by decide +kernel
theorem dL_law_328 : decode cL_law 328 = .ok (.iaload, 1) := by decide +kernel
theorem dL_law_329 : decode cL_law 329 = .ok (.aload_n 0, 1) := by decide +kernel
theorem dL_law_330 : decode cL_law 330 = .ok (.iload_n 3, 1) := by decide +kernel
theorem dL_law_331 : decode cL_law 331 = .ok (.iconst 3, 1) := by decide +kernel
theorem dL_law_332 : decode cL_law 332 = .ok (.iadd, 1) := by decide +kernel
theorem dL_law_333 : decode cL_law 333 = .ok (.iaload, 1) := by decide +kernel
theorem dL_law_334 : decode cL_law 334 = .ok (.invokevirtual 49, 3) := by decide +kernel
theorem dL_law_337 : decode cL_law 337 = .ok (.aload_n 2, 1) := by decide +kernel
theorem dL_law_338 : decode cL_law 338 = .ok (.aload_n 0, 1) := by decide +kernel
theorem dL_law_339 : decode cL_law 339 = .ok (.iload_n 3, 1) := by decide +kernel
theorem dL_law_340 : decode cL_law 340 = .ok (.iconst 1, 1) := by decide +kernel
theorem dL_law_341 : decode cL_law 341 = .ok (.iadd, 1) := by decide +kernel
theorem dL_law_342 : decode cL_law 342 = .ok (.iaload, 1) := by decide +kernel
theorem dL_law_343 : decode cL_law 343 = .ok (.aload_n 0, 1) := by decide +kernel
theorem dL_law_344 : decode cL_law 344 = .ok (.iload_n 3, 1) := by decide +kernel
theorem dL_law_345 : decode cL_law 345 = .ok (.iconst 2, 1) := by decide +kernel
theorem dL_law_346 : decode cL_law 346 = .ok (.iadd, 1) := by decide +kernel
theorem dL_law_347 : decode cL_law 347 = .ok (.iaload, 1) := by decide +kernel
theorem dL_law_348 : decode cL_law 348 = .ok (.aload_n 0, 1) := by decide +kernel
theorem dL_law_349 : decode cL_law 349 = .ok (.iload_n 3, 1) := by decide +kernel
theorem dL_law_350 : decode cL_law 350 = .ok (.iconst 3, 1) := by decide +kernel
theorem dL_law_351 : decode cL_law 351 = .ok (.iadd, 1) := by decide +kernel
theorem dL_law_352 : decode cL_law 352 = .ok (.iaload, 1) := by decide +kernel
theorem dL_law_353 : decode cL_law 353 = .ok (.invokevirtual 52, 3) := by decide +kernel
theorem dL_law_356 : decode cL_law 356 = .ok (.if_icmp .eq 355, 3) := by decide +kernel
theorem dL_law_359 : decode cL_law 359 = .ok (.iconst 0, 1) := by decide +kernel
theorem dL_law_360 : decode cL_law 360 = .ok (.ireturn, 1) := by decide +kernel
theorem dL_law_361 : decode cL_law 361 = .ok (.aload_n 1, 1) := by decide +kernel
theorem dL_law_362 : decode cL_law 362 = .ok (.aload_n 0, 1) := by decide +kernel
theorem dL_law_363 : decode cL_law 363 = .ok (.iload_n 3, 1) := by decide +kernel
theorem dL_law_364 : decode cL_law 364 = .ok (.iconst 1, 1) := by decide +kernel
theorem dL_law_365 : decode cL_law 365 = .ok (.iadd, 1) := by decide +kernel
theorem dL_law_366 : decode cL_law 366 = .ok (.iaload, 1) := by decide +kernel
theorem dL_law_367 : decode cL_law 367 = .ok (.aload_n 0, 1) := by decide +kernel
theorem dL_law_368 : decode cL_law 368 = .ok (.iload_n 3, 1) := by decide +kernel
theorem dL_law_369 : decode cL_law 369 = .ok (.iconst 2, 1) := by decide +kernel
theorem dL_law_370 : decode cL_law 370 = .ok (.iadd, 1) := by decide +kernel
theorem dL_law_371 : decode cL_law 371 = .ok (.iaload, 1) := by decide +kernel
theorem dL_law_372 : decode cL_law 372 = .ok (.invokevirtual 53, 3) := by decide +kernel
theorem dL_law_375 : decode cL_law 375 = .ok (.aload_n 2, 1) := by decide +kernel
theorem dL_law_376 : decode cL_law 376 = .ok (.aload_n 0, 1) := by decide +kernel
theorem dL_law_377 : decode cL_law 377 = .ok (.iload_n 3, 1) := by decide +kernel
theorem dL_law_378 : decode cL_law 378 = .ok (.iconst 1, 1) := by decide +kernel
theorem dL_law_379 : decode cL_law 379 = .ok (.iadd, 1) := by decide +kernel
theorem dL_law_380 : decode cL_law 380 = .ok (.iaload, 1) := by decide +kernel
theorem dL_law_381 : decode cL_law 381 = .ok (.aload_n 0, 1) := by decide +kernel
theorem dL_law_382 : decode cL_law 382 = .ok (.iload_n 3, 1) := by decide +kernel
theorem dL_law_383 : decode cL_law 383 = .ok (.iconst 2, 1) := by decide +kernel
theorem dL_law_384 : decode cL_law 384 = .ok (.iadd, 1) := by decide +kernel
theorem dL_law_385 : decode cL_law 385 = .ok (.iaload, 1) := by decide +kernel
theorem dL_law_386 : decode cL_law 386 = .ok (.invokevirtual 56, 3) := by decide +kernel
theorem dL_law_389 : decode cL_law 389 = .ok (.if_icmp .eq 322, 3) := by decide +kernel
theorem dL_law_392 : decode cL_law 392 = .ok (.iconst 0, 1) := by decide +kernel
theorem dL_law_393 : decode cL_law 393 = .ok (.ireturn, 1) := by decide +kernel
theorem dL_law_394 : decode cL_law 394 = .ok (.aload_n 1, 1) := by decide +kernel
theorem dL_law_395 : decode cL_law 395 = .ok (.aload_n 0, 1) := by decide +kernel
theorem dL_law_396 : decode cL_law 396 = .ok (.iload_n 3, 1) := by decide +kernel
theorem dL_law_397 : decode cL_law 397 = .ok (.iconst 1, 1) := by decide +kernel
theorem dL_law_398 : decode cL_law 398 = .ok (.iadd, 1) := by decide +kernel
theorem dL_law_399 : decode cL_law 399 = .ok (.iaload, 1) := by decide +kernel
theorem dL_law_400 : decode cL_law 400 = .ok (.invokevirtual 57, 3) := by decide +kernel
theorem dL_law_403 : decode cL_law 403 = .ok (.aload_n 2, 1) := by decide +kernel
theorem dL_law_404 : decode cL_law 404 = .ok (.aload_n 0, 1) := by decide +kernel
theorem dL_law_405 : decode cL_law 405 = .ok (.iload_n 3, 1) := by decide +kernel
theorem dL_law_406 : decode cL_law 406 = .ok (.iconst 1, 1) := by decide +kernel
theorem dL_law_407 : decode cL_law 407 = .ok (.iadd, 1) := by decide +kernel
theorem dL_law_408 : decode cL_law 408 = .ok (.iaload, 1) := by decide +kernel
theorem dL_law_409 : decode cL_law 409 = .ok (.invokevirtual 60, 3) := by decide +kernel
theorem dL_law_412 : decode cL_law 412 = .ok (.if_icmp .eq 299, 3) := by decide +kernel
theorem dL_law_415 : decode cL_law 415 = .ok (.iconst 0, 1) := by decide +kernel
theorem dL_law_416 : decode cL_law 416 = .ok (.ireturn, 1) := by decide +kernel
theorem dL_law_417 : decode cL_law 417 = .ok (.aload_n 1, 1) := by decide +kernel
theorem dL_law_418 : decode cL_law 418 = .ok (.aload_n 0, 1) := by decide +kernel
theorem dL_law_419 : decode cL_law 419 = .ok (.iload_n 3, 1) := by decide +kernel
theorem dL_law_420 : decode cL_law 420 = .ok (.iconst 1, 1) := by decide +kernel
theorem dL_law_421 : decode cL_law 421 = .ok (.iadd, 1) := by decide +kernel
theorem dL_law_422 : decode cL_law 422 = .ok (.iaload, 1) := by decide +kernel
theorem dL_law_423 : decode cL_law 423 = .ok (.aload_n 0, 1) := by decide +kernel
theorem dL_law_424 : decode cL_law 424 = .ok (.iload_n 3, 1) := by decide +kernel
theorem dL_law_425 : decode cL_law 425 = .ok (.iconst 2, 1) := by decide +kernel
theorem dL_law_426 : decode cL_law 426 = .ok (.iadd, 1) := by decide +kernel
theorem dL_law_427 : decode cL_law 427 = .ok (.iaload, 1) := by decide +kernel
theorem dL_law_428 : decode cL_law 428 = .ok (.invokevirtual 61, 3) := by decide +kernel
theorem dL_law_431 : decode cL_law 431 = .ok (.aload_n 2, 1) := by decide +kernel
theorem dL_law_432 : decode cL_law 432 = .ok (.aload_n 0, 1) := by decide +kernel
theorem dL_law_433 : decode cL_law 433 = .ok (.iload_n 3, 1) := by decide +kernel
theorem dL_law_434 : decode cL_law 434 = .ok (.iconst 1, 1) := by decide +kernel
theorem dL_law_435 : decode cL_law 435 = .ok (.iadd, 1) := by decide +kernel
theorem dL_law_436 : decode cL_law 436 = .ok (.iaload, 1) := by decide +kernel
theorem dL_law_437 : decode cL_law 437 = .ok (.aload_n 0, 1) := by decide +kernel
theorem dL_law_438 : decode cL_law 438 = .ok (.iload_n 3, 1) := by decide +kernel
theorem dL_law_439 : decode cL_law 439 = .ok (.iconst 2, 1) := by decide +kernel
theorem dL_law_440 : decode cL_law 440 = .ok (.iadd, 1) := by decide +kernel
theorem dL_law_441 : decode cL_law 441 = .ok (.iaload, 1) := by decide +kernel
theorem dL_law_442 : decode cL_law 442 = .ok (.invokevirtual 64, 3) := by decide +kernel
theorem dL_law_445 : decode cL_law 445 = .ok (.if_icmp .eq 266, 3) := by decide +kernel
theorem dL_law_448 : decode cL_law 448 = .ok (.iconst 0, 1) := by decide +kernel
theorem dL_law_449 : decode cL_law 449 = .ok (.ireturn, 1) := by decide +kernel
theorem dL_law_450 : decode cL_law 450 = .ok (.aload_n 1, 1) := by decide +kernel
theorem dL_law_451 : decode cL_law 451 = .ok (.aload_n 0, 1) := by decide +kernel
theorem dL_law_452 : decode cL_law 452 = .ok (.iload_n 3, 1) := by decide +kernel
theorem dL_law_453 : decode cL_law 453 = .ok (.iconst 1, 1) := by decide +kernel
theorem dL_law_454 : decode cL_law 454 = .ok (.iadd, 1) := by decide +kernel
theorem dL_law_455 : decode cL_law 455 = .ok (.iaload, 1) := by decide +kernel
theorem dL_law_456 : decode cL_law 456 = .ok (.aload_n 0, 1) := by decide +kernel
theorem dL_law_457 : decode cL_law 457 = .ok (.iload_n 3, 1) := by decide +kernel
theorem dL_law_458 : decode cL_law 458 = .ok (.iconst 2, 1) := by decide +kernel
theorem dL_law_459 : decode cL_law 459 = .ok (.iadd, 1) := by decide +kernel
theorem dL_law_460 : decode cL_law 460 = .ok (.iaload, 1) := by decide +kernel
theorem dL_law_461 : decode cL_law 461 = .ok (.invokevirtual 65, 3) := by decide +kernel
theorem dL_law_464 : decode cL_law 464 = .ok (.aload_n 2, 1) := by decide +kernel
theorem dL_law_465 : decode cL_law 465 = .ok (.aload_n 0, 1) := by decide +kernel
theorem dL_law_466 : decode cL_law 466 = .ok (.iload_n 3, 1) := by decide +kernel
theorem dL_law_467 : decode cL_law 467 = .ok (.iconst 1, 1) := by decide +kernel
theorem dL_law_468 : decode cL_law 468 = .ok (.iadd, 1) := by decide +kernel
theorem dL_law_469 : decode cL_law 469 = .ok (.iaload, 1) := by decide +kernel
theorem dL_law_470 : decode cL_law 470 = .ok (.aload_n 0, 1) := by decide +kernel
theorem dL_law_471 : decode cL_law 471 = .ok (.iload_n 3, 1) := by decide +kernel
theorem dL_law_472 : decode cL_law 472 = .ok (.iconst 2, 1) := by decide +kernel
theorem dL_law_473 : decode cL_law 473 = .ok (.iadd, 1) := by decide +kernel
theorem dL_law_474 : decode cL_law 474 = .ok (.iaload, 1) := by decide +kernel
theorem dL_law_475 : decode cL_law 475 = .ok (.invokevirtual 68, 3) := by decide +kernel
theorem dL_law_478 : decode cL_law 478 = .ok (.if_icmp .eq 233, 3) := by decide +kernel
theorem dL_law_481 : decode cL_law 481 = .ok (.iconst 0, 1) := by decide +kernel
theorem dL_law_482 : decode cL_law 482 = .ok (.ireturn, 1) := by decide +kernel
theorem dL_law_483 : decode cL_law 483 = .ok (.aload_n 1, 1) := by decide +kernel
theorem dL_law_484 : decode cL_law 484 = .ok (.aload_n 0, 1) := by decide +kernel
theorem dL_law_485 : decode cL_law 485 = .ok (.iload_n 3, 1) := by decide +kernel
theorem dL_law_486 : decode cL_law 486 = .ok (.iconst 1, 1) := by decide +kernel
theorem dL_law_487 : decode cL_law 487 = .ok (.iadd, 1) := by decide +kernel
theorem dL_law_488 : decode cL_law 488 = .ok (.iaload, 1) := by decide +kernel
theorem dL_law_489 : decode cL_law 489 = .ok (.aload_n 0, 1) := by decide +kernel
theorem dL_law_490 : decode cL_law 490 = .ok (.iload_n 3, 1) := by decide +kernel
theorem dL_law_491 : decode cL_law 491 = .ok (.iconst 2, 1) := by decide +kernel
theorem dL_law_492 : decode cL_law 492 = .ok (.iadd, 1) := by decide +kernel
theorem dL_law_493 : decode cL_law 493 = .ok (.iaload, 1) := by decide +kernel
theorem dL_law_494 : decode cL_law 494 = .ok (.aload_n 0, 1) := by decide +kernel
theorem dL_law_495 : decode cL_law 495 = .ok (.iload_n 3, 1) := by decide +kernel
theorem dL_law_496 : decode cL_law 496 = .ok (.iconst 3, 1) := by decide +kernel
theorem dL_law_497 : decode cL_law 497 = .ok (.iadd, 1) := by decide +kernel
theorem dL_law_498 : decode cL_law 498 = .ok (.iaload, 1) := by decide +kernel
theorem dL_law_499 : decode cL_law 499 = .ok (.invokevirtual 69, 3) := by decide +kernel
theorem dL_law_502 : decode cL_law 502 = .ok (.aload_n 2, 1) := by decide +kernel
theorem dL_law_503 : decode cL_law 503 = .ok (.aload_n 0, 1) := by decide +kernel
theorem dL_law_504 : decode cL_law 504 = .ok (.iload_n 3, 1) := by decide +kernel
theorem dL_law_505 : decode cL_law 505 = .ok (.iconst 1, 1) := by decide +kernel
theorem dL_law_506 : decode cL_law 506 = .ok (.iadd, 1) := by decide +kernel
theorem dL_law_507 : decode cL_law 507 = .ok (.iaload, 1) := by decide +kernel
theorem dL_law_508 : decode cL_law 508 = .ok (.aload_n 0, 1) := by decide +kernel
theorem dL_law_509 : decode cL_law 509 = .ok (.iload_n 3, 1) := by decide +kernel
theorem dL_law_510 : decode cL_law 510 = .ok (.iconst 2, 1) := by decide +kernel
theorem dL_law_511 : decode cL_law 511 = .ok (.iadd, 1) := by decide +kernel
theorem dL_law_512 : decode cL_law 512 = .ok (.iaload, 1) := by decide +kernel
theorem dL_law_513 : decode cL_law 513 = .ok (.aload_n 0, 1) := by decide +kernel
theorem dL_law_514 : decode cL_law 514 = .ok (.iload_n 3, 1) := by decide +kernel
theorem dL_law_515 : decode cL_law 515 = .ok (.iconst 3, 1) := by decide +kernel
theorem dL_law_516 : decode cL_law 516 = .ok (.iadd, 1) := by decide +kernel
theorem dL_law_517 : decode cL_law 517 = .ok (.iaload, 1) := by decide +kernel
theorem dL_law_518 : decode cL_law 518 = .ok (.invokevirtual 72, 3) := by decide +kernel
theorem dL_law_521 : decode cL_law 521 = .ok (.if_icmp .eq 190, 3) := by decide +kernel
theorem dL_law_524 : decode cL_law 524 = .ok (.iconst 0, 1) := by decide +kernel
theorem dL_law_525 : decode cL_law 525 = .ok (.ireturn, 1) := by decide +kernel
theorem dL_law_526 : decode cL_law 526 = .ok (.aload_n 1, 1) := by decide +kernel
theorem dL_law_527 : decode cL_law 527 = .ok (.aload_n 0, 1) := by decide +kernel
theorem dL_law_528 : decode cL_law 528 = .ok (.iload_n 3, 1) := by decide +kernel
theorem dL_law_529 : decode cL_law 529 = .ok (.iconst 1, 1) := by decide +kernel
theorem dL_law_530 : decode cL_law 530 = .ok (.iadd, 1) := by decide +kernel
theorem dL_law_531 : decode cL_law 531 = .ok (.iaload, 1) := by decide +kernel
theorem dL_law_532 : decode cL_law 532 = .ok (.aload_n 0, 1) := by decide +kernel
theorem dL_law_533 : decode cL_law 533 = .ok (.iload_n 3, 1) := by decide +kernel
theorem dL_law_534 : decode cL_law 534 = .ok (.iconst 2, 1) := by decide +kernel
theorem dL_law_535 : decode cL_law 535 = .ok (.iadd, 1) := by decide +kernel
theorem dL_law_536 : decode cL_law 536 = .ok (.iaload, 1) := by decide +kernel
theorem dL_law_537 : decode cL_law 537 = .ok (.invokevirtual 73, 3) := by decide +kernel
theorem dL_law_540 : decode cL_law 540 = .ok (.aload_n 2, 1) := by decide +kernel
theorem dL_law_541 : decode cL_law 541 = .ok (.aload_n 0, 1) := by decide +kernel
theorem dL_law_542 : decode cL_law 542 = .ok (.iload_n 3, 1) := by decide +kernel
theorem dL_law_543 : decode cL_law 543 = .ok (.iconst 1, 1) := by decide +kernel
theorem dL_law_544 : decode cL_law 544 = .ok (.iadd, 1) := by decide +kernel
theorem dL_law_545 : decode cL_law 545 = .ok (.iaload, 1) := by decide +kernel
theorem dL_law_546 : decode cL_law 546 = .ok (.aload_n 0, 1) := by decide +kernel
theorem dL_law_547 : decode cL_law 547 = .ok (.iload_n 3, 1) := by decide +kernel
theorem dL_law_548 : decode cL_law 548 = .ok (.iconst 2, 1) := by decide +kernel
theorem dL_law_549 : decode cL_law 549 = .ok (.iadd, 1) := by decide +kernel
theorem dL_law_550 : decode cL_law 550 = .ok (.iaload, 1) := by decide +kernel
theorem dL_law_551 : decode cL_law 551 = .ok (.invokevirtual 76, 3) := by decide +kernel
theorem dL_law_554 : decode cL_law 554 = .ok (.if_icmp .eq 157, 3) := by decide +kernel
theorem dL_law_557 : decode cL_law 557 = .ok (.iconst 0, 1) := by decide +kernel
theorem dL_law_558 : decode cL_law 558 = .ok (.ireturn, 1) := by decide +kernel
theorem dL_law_559 : decode cL_law 559 = .ok (.aload_n 1, 1) := by decide +kernel
theorem dL_law_560 : decode cL_law 560 = .ok (.aload_n 0, 1) := by decide +kernel
theorem dL_law_561 : decode cL_law 561 = .ok (.iload_n 3, 1) := by decide +kernel
theorem dL_law_562 : decode cL_law 562 = .ok (.iconst 1, 1) := by decide +kernel
theorem dL_law_563 : decode cL_law 563 = .ok (.iadd, 1) := by decide +kernel
theorem dL_law_564 : decode cL_law 564 = .ok (.iaload, 1) := by decide +kernel
theorem dL_law_565 : decode cL_law 565 = .ok (.aload_n 0, 1) := by decide +kernel
theorem dL_law_566 : decode cL_law 566 = .ok (.iload_n 3, 1) := by decide +kernel
theorem dL_law_567 : decode cL_law 567 = .ok (.iconst 2, 1) := by decide +kernel
theorem dL_law_568 : decode cL_law 568 = .ok (.iadd, 1) := by decide +kernel
theorem dL_law_569 : decode cL_law 569 = .ok (.iaload, 1) := by decide +kernel
theorem dL_law_570 : decode cL_law 570 = .ok (.invokevirtual 77, 3) := by decide +kernel
theorem dL_law_573 : decode cL_law 573 = .ok (.aload_n 2, 1) := by decide +kernel
theorem dL_law_574 : decode cL_law 574 = .ok (.aload_n 0, 1) := by decide +kernel
theorem dL_law_575 : decode cL_law 575 = .ok (.iload_n 3, 1) := by decide +kernel
theorem dL_law_576 : decode cL_law 576 = .ok (.iconst 1, 1) := by decide +kernel
theorem dL_law_577 : decode cL_law 577 = .ok (.iadd, 1) := by decide +kernel
theorem dL_law_578 : decode cL_law 578 = .ok (.iaload, 1) := by decide +kernel
theorem dL_law_579 : decode cL_law 579 = .ok (.aload_n 0, 1) := by decide +kernel
theorem dL_law_580 : decode cL_law 580 = .ok (.iload_n 3, 1) := by decide +kernel
theorem dL_law_581 : decode cL_law 581 = .ok (.iconst 2, 1) := by decide +kernel
theorem dL_law_582 : decode cL_law 582 = .ok (.iadd, 1) := by decide +kernel
theorem dL_law_583 : decode cL_law 583 = .ok (.iaload, 1) := by decide +kernel
theorem dL_law_584 : decode cL_law 584 = .ok (.invokevirtual 80, 3) := by decide +kernel
theorem dL_law_587 : decode cL_law 587 = .ok (.if_icmp .eq 124, 3) := by decide +kernel
theorem dL_law_590 : decode cL_law 590 = .ok (.iconst 0, 1) := by decide +kernel
theorem dL_law_591 : decode cL_law 591 = .ok (.ireturn, 1) := by decide +kernel
theorem dL_law_592 : decode cL_law 592 = .ok (.aload_n 1, 1) := by decide +kernel
theorem dL_law_593 : decode cL_law 593 = .ok (.aload_n 0, 1) := by decide +kernel
theorem dL_law_594 : decode cL_law 594 = .ok (.iload_n 3, 1) := by decide +kernel
theorem dL_law_595 : decode cL_law 595 = .ok (.iconst 1, 1) := by decide +kernel
theorem dL_law_596 : decode cL_law 596 = .ok (.iadd, 1) := by decide +kernel
theorem dL_law_597 : decode cL_law 597 = .ok (.iaload, 1) := by decide +kernel
theorem dL_law_598 : decode cL_law 598 = .ok (.aload_n 0, 1) := by decide +kernel
theorem dL_law_599 : decode cL_law 599 = .ok (.iload_n 3, 1) := by decide +kernel
theorem dL_law_600 : decode cL_law 600 = .ok (.iconst 2, 1) := by decide +kernel
theorem dL_law_601 : decode cL_law 601 = .ok (.iadd, 1) := by decide +kernel
theorem dL_law_602 : decode cL_law 602 = .ok (.iaload, 1) := by decide +kernel
theorem dL_law_603 : decode cL_law 603 = .ok (.aload_n 0, 1) := by decide +kernel
theorem dL_law_604 : decode cL_law 604 = .ok (.iload_n 3, 1) := by decide +kernel
theorem dL_law_605 : decode cL_law 605 = .ok (.iconst 3, 1) := by decide +kernel
theorem dL_law_606 : decode cL_law 606 = .ok (.iadd, 1) := by decide +kernel
theorem dL_law_607 : decode cL_law 607 = .ok (.iaload, 1) := by decide +kernel
theorem dL_law_608 : decode cL_law 608 = .ok (.invokevirtual 81, 3) := by decide +kernel
theorem dL_law_611 : decode cL_law 611 = .ok (.aload_n 2, 1) := by decide +kernel
theorem dL_law_612 : decode cL_law 612 = .ok (.aload_n 0, 1) := by decide +kernel
theorem dL_law_613 : decode cL_law 613 = .ok (.iload_n 3, 1) := by decide +kernel
theorem dL_law_614 : decode cL_law 614 = .ok (.iconst 1, 1) := by decide +kernel
theorem dL_law_615 : decode cL_law 615 = .ok (.iadd, 1) := by decide +kernel
theorem dL_law_616 : decode cL_law 616 = .ok (.iaload, 1) := by decide +kernel
theorem dL_law_617 : decode cL_law 617 = .ok (.aload_n 0, 1) := by decide +kernel
theorem dL_law_618 : decode cL_law 618 = .ok (.iload_n 3, 1) := by decide +kernel
theorem dL_law_619 : decode cL_law 619 = .ok (.iconst 2, 1) := by decide +kernel
theorem dL_law_620 : decode cL_law 620 = .ok (.iadd, 1) := by decide +kernel
theorem dL_law_621 : decode cL_law 621 = .ok (.iaload, 1) := by decide +kernel
theorem dL_law_622 : decode cL_law 622 = .ok (.aload_n 0, 1) := by decide +kernel
theorem dL_law_623 : decode cL_law 623 = .ok (.iload_n 3, 1) := by decide +kernel
theorem dL_law_624 : decode cL_law 624 = .ok (.iconst 3, 1) := by decide +kernel
theorem dL_law_625 : decode cL_law 625 = .ok (.iadd, 1) := by decide +kernel
theorem dL_law_626 : decode cL_law 626 = .ok (.iaload, 1) := by decide +kernel
theorem dL_law_627 : decode cL_law 627 = .ok (.invokevirtual 84, 3) := by decide +kernel
theorem dL_law_630 : decode cL_law 630 = .ok (.if_icmp .eq 81, 3) := by decide +kernel
theorem dL_law_633 : decode cL_law 633 = .ok (.iconst 0, 1) := by decide +kernel
theorem dL_law_634 : decode cL_law 634 = .ok (.ireturn, 1) := by decide +kernel
theorem dL_law_635 : decode cL_law 635 = .ok (.aload_n 1, 1) := by decide +kernel
theorem dL_law_636 : decode cL_law 636 = .ok (.aload_n 0, 1) := by decide +kernel
theorem dL_law_637 : decode cL_law 637 = .ok (.iload_n 3, 1) := by decide +kernel
theorem dL_law_638 : decode cL_law 638 = .ok (.iconst 1, 1) := by decide +kernel
theorem dL_law_639 : decode cL_law 639 = .ok (.iadd, 1) := by decide +kernel
theorem dL_law_640 : decode cL_law 640 = .ok (.iaload, 1) := by decide +kernel
theorem dL_law_641 : decode cL_law 641 = .ok (.aload_n 0, 1) := by decide +kernel
theorem dL_law_642 : decode cL_law 642 = .ok (.iload_n 3, 1) := by decide +kernel
theorem dL_law_643 : decode cL_law 643 = .ok (.iconst 2, 1) := by decide +kernel
theorem dL_law_644 : decode cL_law 644 = .ok (.iadd, 1) := by decide +kernel
theorem dL_law_645 : decode cL_law 645 = .ok (.iaload, 1) := by decide +kernel
theorem dL_law_646 : decode cL_law 646 = .ok (.aload_n 0, 1) := by decide +kernel
theorem dL_law_647 : decode cL_law 647 = .ok (.iload_n 3, 1) := by decide +kernel
theorem dL_law_648 : decode cL_law 648 = .ok (.iconst 3, 1) := by decide +kernel
theorem dL_law_649 : decode cL_law 649 = .ok (.iadd, 1) := by decide +kernel
theorem dL_law_650 : decode cL_law 650 = .ok (.iaload, 1) := by decide +kernel
theorem dL_law_651 : decode cL_law 651 = .ok (.aload_n 0, 1) := by decide +kernel
theorem dL_law_652 : decode cL_law 652 = .ok (.iload_n 3, 1) := by decide +kernel
theorem dL_law_653 : decode cL_law 653 = .ok (.iconst 4, 1) := by decide +kernel
theorem dL_law_654 : decode cL_law 654 = .ok (.iadd, 1) := by decide +kernel
theorem dL_law_655 : decode cL_law 655 = .ok (.iaload, 1) := by decide +kernel
theorem dL_law_656 : decode cL_law 656 = .ok (.invokevirtual 85, 3) := by decide +kernel
theorem dL_law_659 : decode cL_law 659 = .ok (.aload_n 2, 1) := by decide +kernel
theorem dL_law_660 : decode cL_law 660 = .ok (.aload_n 0, 1) := by decide +kernel
theorem dL_law_661 : decode cL_law 661 = .ok (.iload_n 3, 1) := by decide +kernel
theorem dL_law_662 : decode cL_law 662 = .ok (.iconst 1, 1) := by decide +kernel
theorem dL_law_663 : decode cL_law 663 = .ok (.iadd, 1) := by decide +kernel
theorem dL_law_664 : decode cL_law 664 = .ok (.iaload, 1) := by decide +kernel
theorem dL_law_665 : decode cL_law 665 = .ok (.aload_n 0, 1) := by decide +kernel
theorem dL_law_666 : decode cL_law 666 = .ok (.iload_n 3, 1) := by decide +kernel
theorem dL_law_667 : decode cL_law 667 = .ok (.iconst 2, 1) := by decide +kernel
theorem dL_law_668 : decode cL_law 668 = .ok (.iadd, 1) := by decide +kernel
theorem dL_law_669 : decode cL_law 669 = .ok (.iaload, 1) := by decide +kernel
theorem dL_law_670 : decode cL_law 670 = .ok (.aload_n 0, 1) := by decide +kernel
theorem dL_law_671 : decode cL_law 671 = .ok (.iload_n 3, 1) := by decide +kernel
theorem dL_law_672 : decode cL_law 672 = .ok (.iconst 3, 1) := by decide +kernel
theorem dL_law_673 : decode cL_law 673 = .ok (.iadd, 1) := by decide +kernel
theorem dL_law_674 : decode cL_law 674 = .ok (.iaload, 1) := by decide +kernel
theorem dL_law_675 : decode cL_law 675 = .ok (.aload_n 0, 1) := by decide +kernel
theorem dL_law_676 : decode cL_law 676 = .ok (.iload_n 3, 1) := by decide +kernel
theorem dL_law_677 : decode cL_law 677 = .ok (.iconst 4, 1) := by decide +kernel
theorem dL_law_678 : decode cL_law 678 = .ok (.iadd, 1) := by decide +kernel
theorem dL_law_679 : decode cL_law 679 = .ok (.iaload, 1) := by decide +kernel
theorem dL_law_680 : decode cL_law 680 = .ok (.invokevirtual 89, 3) := by decide +kernel
theorem dL_law_683 : decode cL_law 683 = .ok (.if_icmp .eq 28, 3) := by decide +kernel
theorem dL_law_686 : decode cL_law 686 = .ok (.iconst 0, 1) := by decide +kernel
theorem dL_law_687 : decode cL_law 687 = .ok (.ireturn, 1) := by decide +kernel
theorem dL_law_688 : decode cL_law 688 = .ok (.aload_n 1, 1) := by decide +kernel
theorem dL_law_689 : decode cL_law 689 = .ok (.aload_n 0, 1) := by decide +kernel
theorem dL_law_690 : decode cL_law 690 = .ok (.iload_n 3, 1) := by decide +kernel
theorem dL_law_691 : decode cL_law 691 = .ok (.iconst 1, 1) := by decide +kernel
theorem dL_law_692 : decode cL_law 692 = .ok (.iadd, 1) := by decide +kernel
theorem dL_law_693 : decode cL_law 693 = .ok (.iaload, 1) := by decide +kernel
theorem dL_law_694 : decode cL_law 694 = .ok (.invokevirtual 90, 3) := by decide +kernel
theorem dL_law_697 : decode cL_law 697 = .ok (.aload_n 2, 1) := by decide +kernel
theorem dL_law_698 : decode cL_law 698 = .ok (.aload_n 0, 1) := by decide +kernel
theorem dL_law_699 : decode cL_law 699 = .ok (.iload_n 3, 1) := by decide +kernel
theorem dL_law_700 : decode cL_law 700 = .ok (.iconst 1, 1) := by decide +kernel
theorem dL_law_701 : decode cL_law 701 = .ok (.iadd, 1) := by decide +kernel
theorem dL_law_702 : decode cL_law 702 = .ok (.iaload, 1) := by decide +kernel
theorem dL_law_703 : decode cL_law 703 = .ok (.invokevirtual 93, 3) := by decide +kernel
theorem dL_law_706 : decode cL_law 706 = .ok (.if_icmp .eq 5, 3) := by decide +kernel
theorem dL_law_709 : decode cL_law 709 = .ok (.iconst 0, 1) := by decide +kernel
theorem dL_law_710 : decode cL_law 710 = .ok (.ireturn, 1) := by decide +kernel
theorem dL_law_711 : decode cL_law 711 = .ok (.iinc 3 5, 3) := by decide +kernel
theorem dL_law_714 : decode cL_law 714 = .ok (.goto (-696), 3) := by decide +kernel
theorem dL_law_717 : decode cL_law 717 = .ok (.iconst 1, 1) := by decide +kernel
theorem dL_law_718 : decode cL_law 718 = .ok (.ireturn, 1) := by decide +kernel
end
section
/-! THE WORLDS: world 0 is an EnoughServers with all its cells (616, none is made after its constructor), world 1 an EnoughServersModel (11). A cell is named by its place; int contents are Ints: mu place slot. -/
abbrev PV : Type := Nat × Int
abbrev Mem : Type := Int → Int → Int
def upm (μ : Mem) (c j v : Int) : Mem := fun a b => if a = c ∧ b = j then v else μ a b
/-- kinds: 0 House, 1 Measure, 2 Service, 3 Text, 4 EnoughServers, 5 Model; 10 House[], 11 Service[], 12 Measure[]; 1000 and n: int[n] -/
def layS (h : Nat) : Nat := match h with
  | 0 => 2 | 1 => 1009 | 2 => 12 | 3 => 1 | 4 => 1032 | 5 => 1 | 6 => 1032 | 7 => 1 | 8 => 1032 | 9 => 1008 | 10 => 1008 | _ => 1004
def layH (h : Nat) : Nat := match h with
  | 0 => 0 | 1 => 1005 | 2 => 11 | k + 3 => layS (k % 12)
def layX (k : Nat) : Nat := match k with
  | 0 => 4 | 1 => 3 | 2 => 1160 | k + 3 => if k < 102 then layH (k % 51) else if k = 102 then 10 else layH ((k - 103) % 51)
def layM (k : Nat) : Nat := match k with
  | 0 => 5 | 1 => 6200 | 10 => 1160 | _ => 1004
def lay (w k : Nat) : Nat := match w with
  | 0 => layX k | _ => layM k
def siz (w : Nat) : Nat := match w with
  | 0 => 616 | _ => 11
/-- the fields of a class: -1 an int, else how many places on the cell lies that it names -/
def flds (ci : Nat) : List Int := match ci with
  | 0 => [1, 2, -1, -1, -1]
  | 1 => [-1, -1, -1, 1]
  | 2 => [1, 2, -1, -1, -1, 9, 10, 11, -1, -1, -1, -1, -1, -1, -1, -1, -1]
  | 3 => [1, -1, -1, -1, -1, -1, -1]
  | 4 => [1, 3, 54, 105, -1, -1, -1]
  | _ => [1, -1, 2, 3, 4, 5, 6, 7, 8, 9, 10, -1, -1, -1, -1, -1, -1, -1, -1]
def rlen (t : Nat) : Nat := match t with
  | 10 => 10 | 11 => 4 | _ => 3
def rstr (t : Nat) : Nat := match t with
  | 10 => 51 | 11 => 12 | _ => 2
def objF (ad : Nat → Nat) (f : Int → Int) (k : Nat) : Nat → List Int → List Value
  | _, [] => []
  | j, o :: os => (if o < 0 then Value.int (Int32.ofInt (f (j : Int))) else Value.ref (ad (k + o.toNat))) :: objF ad f k (j + 1) os
def cellE (w : Nat) (ad : Nat → Nat) (cT : Nat → ClassId) (μ : Mem) (k : Nat) : va_E :=
  if 1000 ≤ lay w k then .inl (cT 0, lay w k - 1000, .inl (fun j => Int32.ofInt (μ (k : Int) (j : Int))))
  else if 10 ≤ lay w k then .inl (cT (lay w k - 9), rlen (lay w k), .inr (.inr (.inr (.inr (fun j => some (ad (k + 1 + rstr (lay w k) * j)))))))
  else .inr (lay w k, objF ad (μ (k : Int)) k 0 (flds (lay w k)))
def wsW (w : Nat) (ad : Nat → Nat) (cT : Nat → ClassId) (μ : Mem) : va_W := (List.range (siz w)).map (fun k => (ad k, cellE w ad cT μ k))
def tysW (cT : Nat → ClassId) : List (ClassId × FieldType) := [(cT 0, .int), (cT 1, .object RX0), (cT 2, .object RX2), (cT 3, .object RX1)]
theorem wsW_get {w : Nat} {ad : Nat → Nat} {cT : Nat → ClassId} {μ : Mem} {k : Nat} (hk : k < siz w) : (wsW w ad cT μ)[k]? = some (ad k, cellE w ad cT μ k) := by
  unfold wsW
  rw [List.getElem?_map, List.getElem?_range hk]
  rfl
theorem wsW_of {w : Nat} {ad : Nat → Nat} {cT : Nat → ClassId} {μ : Mem} {k : Nat} {q : Nat × va_E} (h : (wsW w ad cT μ)[k]? = some q) : k < siz w ∧ q = (ad k, cellE w ad cT μ k) := by
  have hk : k < siz w := by
    have h1 := (List.getElem?_eq_some_iff.mp h).1
    simpa [wsW] using h1
  rw [wsW_get hk] at h
  exact ⟨hk, (Option.some.inj h).symm⟩
theorem wsW_set {w : Nat} {ad : Nat → Nat} {cT : Nat → ClassId} {μ μ' : Mem} {k : Nat} (hk : k < siz w) {e : va_E} (h1 : cellE w ad cT μ' k = e) (h2 : ∀ j, j ≠ k → cellE w ad cT μ' j = cellE w ad cT μ j) : (wsW w ad cT μ).set k (ad k, e) = wsW w ad cT μ' := by
  apply List.ext_getElem?
  intro i
  by_cases hi : i < siz w
  · rw [wsW_get hi]
    by_cases hik : i = k
    · subst hik
      rw [List.getElem?_set_self (by simpa [wsW] using hi), h1]
    · rw [List.getElem?_set_ne (Ne.symm hik), wsW_get hi, h2 i hik]
  · rw [List.getElem?_eq_none (by simp [wsW]; omega), List.getElem?_eq_none (by simp [wsW]; omega)]
theorem objF_get (ad : Nat → Nat) (f : Int → Int) (k : Nat) : ∀ (os : List Int) (j i : Nat), (objF ad f k j os)[i]? = (os[i]?).map (fun o => if o < 0 then Value.int (Int32.ofInt (f ((j + i : Nat) : Int))) else Value.ref (ad (k + o.toNat)))
  | [], j, i => by simp [objF]
  | o :: os, j, 0 => by simp [objF]
  | o :: os, j, i + 1 => by
    simp only [objF, List.getElem?_cons_succ]
    rw [objF_get ad f k os (j + 1) i]
    rw [show j + 1 + i = j + (i + 1) by omega]
theorem objF_set (ad : Nat → Nat) (f : Int → Int) (k : Nat) (os : List Int) (i : Nat) (v : Int) (hi : os[i]? = some (-1)) : (objF ad f k 0 os).set i (.int (Int32.ofInt v)) = objF ad (fun b => if b = (i : Int) then v else f b) k 0 os := by
  apply List.ext_getElem?
  intro n
  rw [objF_get]
  by_cases hn : n = i
  · subst hn
    have hl : n < (objF ad f k 0 os).length := by
      rcases Nat.lt_or_ge n (objF ad f k 0 os).length with h | h
      · exact h
      · have h2 := List.getElem?_eq_none h
        rw [objF_get, hi] at h2
        cases h2
    rw [List.getElem?_set_self hl, hi]
    simp
  · rw [List.getElem?_set_ne (Ne.symm hn), objF_get]
    have hne : ¬ ((0 + n : Nat) : Int) = (i : Int) := by omega
    simp only [if_neg hne]
theorem objF_len (ad : Nat → Nat) (f : Int → Int) (k : Nat) : ∀ (os : List Int) (j : Nat), (objF ad f k j os).length = os.length
  | [], j => rfl
  | o :: os, j => by simp [objF, objF_len ad f k os (j + 1)]
theorem objF_ext (ad : Nat → Nat) (f g : Int → Int) (k : Nat) (os : List Int) (h : ∀ b, f b = g b) : objF ad f k 0 os = objF ad g k 0 os := by rw [show f = g from funext h]
theorem cellE_other {w : Nat} {ad : Nat → Nat} {cT : Nat → ClassId} {μ : Mem} {c : Nat} {j v : Int} {k : Nat} (hk : k ≠ c) : cellE w ad cT (upm μ (c : Int) j v) k = cellE w ad cT μ k := by
  have hne : ¬ ((k : Int) = (c : Int)) := by omega
  have e : upm μ (c : Int) j v (k : Int) = μ (k : Int) := by
    funext b
    simp [upm, hne]
  unfold cellE
  rw [e]
theorem cellE_obj {w : Nat} {ad : Nat → Nat} {cT : Nat → ClassId} {μ : Mem} {k ci : Nat} (h : lay w k = ci) (hci : ci < 10) : cellE w ad cT μ k = .inr (ci, objF ad (μ (k : Int)) k 0 (flds ci)) := by
  unfold cellE
  rw [h, if_neg (by omega), if_neg (by omega)]
theorem cellE_arr {w : Nat} {ad : Nat → Nat} {cT : Nat → ClassId} {μ : Mem} {k n : Nat} (h : lay w k = 1000 + n) : cellE w ad cT μ k = .inl (cT 0, n, .inl (fun j => Int32.ofInt (μ (k : Int) (j : Int)))) := by
  unfold cellE
  rw [h, if_pos (by omega), Nat.add_sub_cancel_left]
theorem cellE_ref {w : Nat} {ad : Nat → Nat} {cT : Nat → ClassId} {μ : Mem} {k t : Nat} (h : lay w k = t) (h1 : 10 ≤ t) (h2 : t < 1000) : cellE w ad cT μ k = .inl (cT (t - 9), rlen t, .inr (.inr (.inr (.inr (fun j => some (ad (k + 1 + rstr t * j))))))) := by
  unfold cellE
  rw [h, if_neg (by omega), if_pos h1]
/-- where the places of a world lie: apart, and of a kind -/
def AD (w : Nat) (ad : Nat → Nat) (A : Nat → Prop) : Prop := (∀ i j, i < siz w → j < siz w → ad i = ad j → i = j) ∧ ∀ k, k < siz w → A (ad k)
def AA (w : Nat) (ad : Nat → Nat) (sz : Nat) : Nat → Prop := fun q => (∃ k, k < siz w ∧ q = ad k) ∨ sz ≤ q
theorem AD.toD {w : Nat} {ad : Nat → Nat} {A : Nat → Prop} (h : AD w ad A) (cT : Nat → ClassId) (μ : Mem) : va_D A (wsW w ad cT μ) := by
  refine ⟨fun i j p q hi hj e => ?_, fun k q hk => ?_⟩
  · obtain ⟨h1, rfl⟩ := wsW_of hi
    obtain ⟨h2, rfl⟩ := wsW_of hj
    exact h.1 i j h1 h2 e
  · obtain ⟨h1, rfl⟩ := wsW_of hk
    exact h.2 k h1
theorem AD.of {w : Nat} {ad : Nat → Nat} {A : Nat → Prop} {cT : Nat → ClassId} {μ : Mem} (h : va_D A (wsW w ad cT μ)) : AD w ad A :=
  ⟨fun i j hi hj e => h.1 i j _ _ (wsW_get hi) (wsW_get hj) e, fun k hk => h.2 k _ (wsW_get hk)⟩
theorem AD.self {w : Nat} {ad : Nat → Nat} {A : Nat → Prop} (h : AD w ad A) (sz : Nat) : AD w ad (AA w ad sz) := ⟨h.1, fun k hk => Or.inl ⟨k, hk, rfl⟩⟩
theorem AA.free {w : Nat} {ad : Nat → Nat} {A : Nat → Prop} {sz : Nat} (h : AD w ad A) (hA : ∀ q, sz ≤ q → A q) : ∀ q, AA w ad sz q → A q := by
  intro q hq
  rcases hq with ⟨k, hk, rfl⟩ | hq
  · exact h.2 k hk
  · exact hA q hq
/-- values: 0 an int, 1 a long, 3 a static table, 100 and a kind: a reference to a place of that kind; 9: unset, or no value -/
def cv (ad sv : Nat → Nat) (v : PV) : Value := if v.1 = 0 then .int (Int32.ofInt v.2) else if v.1 = 1 then .long (Int64.ofInt v.2) else if v.1 = 3 then .ref (sv v.2.toNat) else if 100 ≤ v.1 then .ref (ad v.2.toNat) else .null
def VOK (w : Nat) (v : PV) : Prop := 100 ≤ v.1 → 0 ≤ v.2 ∧ v.2.toNat < siz w ∧ lay w v.2.toNat = v.1 - 100
theorem cv_int (ad sv : Nat → Nat) (z : Int) : cv ad sv (0, z) = .int (Int32.ofInt z) := rfl
theorem cv_long (ad sv : Nat → Nat) (z : Int) : cv ad sv (1, z) = .long (Int64.ofInt z) := rfl
theorem cv_tab (ad sv : Nat → Nat) (z : Int) : cv ad sv (3, z) = .ref (sv z.toNat) := rfl
theorem cv_ref (ad sv : Nat → Nat) {t : Nat} (h : 100 ≤ t) (z : Int) : cv ad sv (t, z) = .ref (ad z.toNat) := by
  unfold cv
  rw [if_neg (by dsimp only; omega), if_neg (by dsimp only; omega), if_neg (by dsimp only; omega), if_pos h]
theorem cv_cat {ad sv : Nat → Nat} {v : PV} (h : v.1 ≠ 1) : (cv ad sv v).category = 1 := by
  unfold cv
  rw [if_neg h]
  repeat' split
  all_goals rfl
theorem VOK_lt {w : Nat} {v : PV} (h : v.1 < 100) : VOK w v := fun h2 => absurd h2 (by omega)
end
section
/-! THE LOGIC: a method's body as a table of predicate transformers (PI), one an instruction; sound over the machine, proved once for each kind of instruction -/
def gW : List Cond := lw_tbl.filter goodWord
theorem gW_good : ∀ q ∈ gW, goodWord q = true := fun _ h => (List.mem_filter.mp h).2
def isNest : Cond → Bool
  | .fieldLinkNest _ _ _ _ _ _ => true
  | .methodLinkNest _ _ _ _ => true
  | _ => false
def nWs : List Cond := tables_1.filter isNest
def NW (U : State) : Prop := ∀ q ∈ nWs, va_Nw q U
theorem NW.warm {s U : State} (hW : s.WarmedH U.vm) (h : NW s) : NW U := by
  intro q hq
  have h1 := (List.mem_filter.mp hq).2
  have h2 := h q hq
  cases q <;> first | exact va_Nw.warmF hW h2 | exact va_Nw.warmM hW h2 | (cases h1; done)
theorem NW.same {u U : State} (hv : u.vm = U.vm) (h : NW u) : NW U := by
  intro q hq
  have h1 := (List.mem_filter.mp hq).2
  have h2 := h q hq
  cases q <;> first | exact va_Nw.same rfl hv h2 | (cases h1; done)
theorem NW.use {U : State} {args : Array Value} (h : NW U) {q : Cond} (hq : q ∈ nWs) : q.before args U = true := by
  have h1 := (List.mem_filter.mp hq).2
  have h2 := h q hq
  cases q <;> first | exact va_Nw.use rfl h2 | (cases h1; done)
def stN (t : Nat) : String := match t with
  | 0 => "HOUSE_FROM" | 1 => "HOUSE_TO" | 2 => "SERVICE_FROM" | _ => "SERVICE_TO"
def stL (t : Nat) : List Int := match t with
  | 0 => [1, 1, 0, 0, 2] | 1 => [60, 6, 9, 3, 6] | 2 => [0, 1, 0, 1, 1, 0, 0, 0, 1] | _ => [9, 20, 9, 6, 6, 9, 99, 9, 4]
def stV (t : Nat) (j : Int) : Int := (stL t).getD j.toNat 0
def Stt (sv : Nat → Nat) (A : Nat → Prop) (U : State) (H : Heap) : Prop := ∀ t, t < 4 → va_Z RX4 (stN t) "[I" (.ref (sv t)) A U H ∧ va_T .int (sv t) (stL t).length (fun j => .int (Int32.ofInt ((stL t).getD j 0))) A U H
theorem Stt.moved {sv : Nat → Nat} {A : Nat → Prop} {u U : State} {H : Heap} (hvm : u.vm.Alike U.vm) (h : Stt sv A u H) : Stt sv A U H := fun t ht => ⟨(h t ht).1.moved hvm, (h t ht).2.moved hvm⟩
theorem Stt.kept {sv : Nat → Nat} {A : Nat → Prop} {U : State} {H H1 : Heap} (h : Stt sv A U H) (hq : ∀ a : Nat, a < H.size → ¬ A a → H1[a]? = H[a]?) : Stt sv A U H1 := fun t ht => ⟨(h t ht).1.kept hq, (h t ht).2.kept hq⟩
theorem Stt.narrow {sv : Nat → Nat} {A B : Nat → Prop} {U : State} {H : Heap} (h : Stt sv A U H) (hq : ∀ q, B q → A q) : Stt sv B U H := fun t ht => ⟨(h t ht).1.narrow hq, (h t ht).2.narrow hq⟩
/-- a method: its world, its level (how many calls it may go down), name, bytes, locals, answer -/
abbrev MD : Type := Nat × Nat × MethodName × ByteArray × Nat × Option FieldType
def rmL (d : Nat) : Room := { frames := d, cells := 0, slots := 0, locals := 40 * d }
def mCode (M : MD) : Cond := Cond.code M.2.2.1 M.2.2.2.1 M.2.2.2.2.1 M.2.2.2.2.2
def TOK (rt : Option FieldType) (r : PV) : Prop := match rt with
  | none => r.1 = 9
  | some .int => r.1 = 0
  | some .boolean => r.1 = 0
  | some _ => 100 ≤ r.1
def rv (ad sv : Nat → Nat) (r : PV) : Option Value := if r.1 = 9 then none else some (cv ad sv r)
def PreW (w : Nat) (ad sv : Nat → Nat) (D : va_G) (cT : Nat → ClassId) (sz : Nat) (as : List PV) (μ : Mem) : Array Value → State → Prop :=
  va_Pc (as.map (cv ad sv)) (fun U => U.heap.size = sz ∧ va_P D vwCl (wsW w ad cT μ) U.heap ∧ va_K D vwCl (tysW cT) U ∧ AD w ad (fun _ => True) ∧ NW U ∧ Stt sv (AA w ad sz) U U.heap)
def PostW (w : Nat) (ad sv : Nat → Nat) (D : va_G) (cT : Nat → ClassId) (sz : Nat) (rt : Option FieldType) (P : PV → Mem → Prop) : Array Value → State → Outcome → State → Prop :=
  fun _ st oc t => (∃ (r : PV) (μ' : Mem), oc = .returned (rv ad sv r) ∧ TOK rt r ∧ VOK w r ∧ P r μ' ∧ va_P D vwCl (wsW w ad cT μ') t.heap) ∧ va_F (AA w ad sz) st t
/-- a method's contract -/
def MetP (M : MD) (as : List PV) (μ : Mem) (P : PV → Mem → Prop) : Prop :=
  (∀ v ∈ as, VOK M.1 v) → ∀ (l : Launch) (ad sv : Nat → Nat) (D : va_G) (cT : Nat → ClassId) (sz : Nat), Met l M.2.2.1 (mCode M :: gW) (rmL M.2.1) (PreW M.1 ad sv D cT sz as μ) (PostW M.1 ad sv D cT sz M.2.2.2.2.2 P) 0 0 (AA M.1 ad sz)
def LH (ad sv : Nat → Nat) (la : Array Slot) (mL : Nat) (ls : List PV) : Prop := la.size = mL ∧ lv_wf la ∧ ls.length = mL ∧ ∀ (i : Nat) (v : PV), ls[i]? = some v → v.1 ≠ 9 → v.1 ≠ 1 → la[i]? = some (.val (cv ad sv v))
def Cx (M : MD) (ad sv : Nat → Nat) (D : va_G) (cT : Nat → ClassId) (p : Program) (s : State) (m : MethodId) (args : Array Value) (meth : Method) (c : Code) : Prop :=
  p.tables.exec = Jvm.exec ∧ c.code = M.2.2.2.1 ∧ c.maxLocals = M.2.2.2.2.1 ∧ meth.sig.returnType = M.2.2.2.2.2 ∧ meth.locks = false ∧ s.vm.findClass M.2.2.1.cls = some m.cls ∧ (∀ q ∈ mCode M :: gW, q.before args s = true) ∧ NW s ∧ va_K D vwCl (tysW cT) s ∧ AD M.1 ad (AA M.1 ad s.heap.size) ∧ Stt sv (AA M.1 ad s.heap.size) s s.heap
/-- from here the method comes to its end with P -/
def OkE (M : MD) (pc : Nat) (ls st : List PV) (μ : Mem) (P : PV → Mem → Prop) : Prop :=
  ∀ (l : Launch) (ad sv : Nat → Nat) (D : va_G) (cT : Nat → ClassId) (p : Program) (e : Env) (s : State) (m : MethodId) (args : Array Value) (below : List Frame) (meth : Method) (c : Code), Cx M ad sv D cT p s m args meth c →
  ∀ (H : Heap) (locs : List Loc) (la : Array Slot), va_P D vwCl (wsW M.1 ad cT μ) H → va_S (AA M.1 ad s.heap.size) s.heap H locs → LH ad sv la M.2.2.2.2.1 ls → (∀ v ∈ ls, VOK M.1 v) → (∀ v ∈ st, VOK M.1 v) →
  W p l e (rmL M.2.1) s m args below meth c H locs 0 0 (MQ below (PostW M.1 ad sv D cT s.heap.size M.2.2.2.2.2 P) args s 0 0 (AA M.1 ad s.heap.size)) (F0 m pc la (st.map (cv ad sv)))
abbrev K0 : Type := Nat → List PV → List PV → Mem → Prop
abbrev PI : Type := (PV → Mem → Prop) → List PV → List PV → Mem → K0 → Prop
def Sound (M : MD) (pc : Nat) (f : PI) : Prop := ∀ (Q : PV → Mem → Prop) (ls st : List PV) (μ : Mem) (K : K0), (∀ pc' ls' st' μ', K pc' ls' st' μ' → OkE M pc' ls' st' μ' Q) → f Q ls st μ K → OkE M pc ls st μ Q
def iJ : PI := fun _ _ _ _ _ => False
theorem s_J (M : MD) (pc : Nat) : Sound M pc iJ := fun _ _ _ _ _ _ h => h.elim
def nthI : List PI → Nat → PI
  | [], _ => iJ
  | f :: _, 0 => f
  | _ :: fs, n + 1 => nthI fs n
def memN : List Nat → Nat → Bool
  | [], _ => false
  | x :: xs, n => match Nat.beq x n with
    | true => true
    | false => memN xs n
/-- the symbolic run: to the stops, or till the fuel is out -/
def Sym (tb : List PI) (stops : List Nat) (Q : PV → Mem → Prop) (E : K0) : Nat → K0
  | 0, pc, ls, st, μ => E pc ls st μ
  | n + 1, pc, ls, st, μ => nthI tb pc Q ls st μ (fun pc' ls' st' μ' => match memN stops pc' with
    | true => E pc' ls' st' μ'
    | false => Sym tb stops Q E n pc' ls' st' μ')
def SndL (M : MD) : Nat → List PI → Prop
  | _, [] => True
  | pc, f :: fs => Sound M pc f ∧ SndL M (pc + 1) fs
theorem SndL.nth {M : MD} : ∀ (tb : List PI) (b n : Nat), SndL M b tb → Sound M (b + n) (nthI tb n)
  | [], b, n, _ => s_J M _
  | f :: fs, b, 0, h => h.1
  | f :: fs, b, n + 1, h => by
    have h1 := SndL.nth fs (b + 1) n h.2
    rw [show b + (n + 1) = b + 1 + n by omega]
    exact h1
theorem Sym.ok {M : MD} {tb : List PI} (hs : SndL M 0 tb) {stops : List Nat} {Q : PV → Mem → Prop} : ∀ (n pc : Nat) (ls st : List PV) (μ : Mem), Sym tb stops Q (fun pc ls st μ => OkE M pc ls st μ Q) n pc ls st μ → OkE M pc ls st μ Q
  | 0, pc, ls, st, μ, h => h
  | n + 1, pc, ls, st, μ, h => by
    have h1 := SndL.nth tb 0 pc hs
    rw [Nat.zero_add] at h1
    refine h1 Q ls st μ _ ?_ h
    intro pc' ls' st' μ' hk
    cases hm : memN stops pc' with
    | true => rw [hm] at hk; exact hk
    | false => rw [hm] at hk; exact Sym.ok hs n pc' ls' st' μ' hk
-- locals and stack, by what goes on with them
def getl : List PV → Nat → (PV → Prop) → Prop
  | [], _, _ => False
  | x :: _, 0, k => k x
  | _ :: xs, n + 1, k => getl xs n k
def setl : List PV → Nat → PV → (List PV → Prop) → Prop
  | [], _, _, _ => False
  | _ :: xs, 0, v, k => k (v :: xs)
  | x :: xs, n + 1, v, k => setl xs n v (fun ys => k (x :: ys))
theorem getl_elim : ∀ {ls : List PV} {i : Nat} {k : PV → Prop}, getl ls i k → ∃ v, ls[i]? = some v ∧ k v
  | [], i, k, h => h.elim
  | x :: xs, 0, k, h => ⟨x, rfl, h⟩
  | x :: xs, n + 1, k, h => by
    obtain ⟨v, h1, h2⟩ := getl_elim (ls := xs) h
    exact ⟨v, by rw [List.getElem?_cons_succ]; exact h1, h2⟩
theorem setl_elim : ∀ {ls : List PV} {i : Nat} {v : PV} {k : List PV → Prop}, setl ls i v k → i < ls.length ∧ k (ls.set i v)
  | [], i, v, k, h => h.elim
  | x :: xs, 0, v, k, h => ⟨Nat.succ_pos _, h⟩
  | x :: xs, n + 1, v, k, h => by
    obtain ⟨h1, h2⟩ := setl_elim (ls := xs) h
    exact ⟨Nat.succ_lt_succ h1, h2⟩
def pI (v : PV) (k : Int → Prop) : Prop := match v with
  | (0, z) => k z
  | _ => False
def pR (v : PV) (k : Prop) : Prop := match Nat.ble 100 v.1 with
  | true => k
  | false => False
def pT (t : Nat) (v : PV) (k : Int → Prop) : Prop := match Nat.beq v.1 t with
  | true => k v.2
  | false => False
def s1 (st : List PV) (k : PV → List PV → Prop) : Prop := match st with
  | v :: r => k v r
  | [] => False
def sI (st : List PV) (k : Int → List PV → Prop) : Prop := s1 st fun v r => pI v fun z => k z r
def sII (st : List PV) (k : Int → Int → List PV → Prop) : Prop := sI st fun b r => sI r fun a r => k a b r
theorem pI_elim {v : PV} {k : Int → Prop} (h : pI v k) : ∃ z, v = (0, z) ∧ k z := by
  obtain ⟨t, z⟩ := v
  match t, h with
  | 0, h => exact ⟨z, rfl, h⟩
theorem pR_elim {v : PV} {k : Prop} (h : pR v k) : 100 ≤ v.1 ∧ k := by
  unfold pR at h
  cases hb : Nat.ble 100 v.1 with
  | true => rw [hb] at h; exact ⟨Nat.le_of_ble_eq_true hb, h⟩
  | false => rw [hb] at h; exact h.elim
theorem pT_elim {t : Nat} {v : PV} {k : Int → Prop} (h : pT t v k) : ∃ z, v = (t, z) ∧ k z := by
  obtain ⟨t', z⟩ := v
  unfold pT at h
  cases hb : Nat.beq t' t with
  | true => rw [hb] at h; exact ⟨z, by rw [Nat.eq_of_beq_eq_true hb], h⟩
  | false => rw [hb] at h; exact h.elim
theorem s1_elim {st : List PV} {k : PV → List PV → Prop} (h : s1 st k) : ∃ v r, st = v :: r ∧ k v r := by
  cases st with
  | nil => exact h.elim
  | cons v r => exact ⟨v, r, rfl, h⟩
theorem sI_elim {st : List PV} {k : Int → List PV → Prop} (h : sI st k) : ∃ z r, st = (0, z) :: r ∧ k z r := by
  obtain ⟨v, r, rfl, h⟩ := s1_elim h
  obtain ⟨z, rfl, h⟩ := pI_elim h
  exact ⟨z, r, rfl, h⟩
theorem sII_elim {st : List PV} {k : Int → Int → List PV → Prop} (h : sII st k) : ∃ a b r, st = (0, b) :: (0, a) :: r ∧ k a b r := by
  obtain ⟨b, r, rfl, h1⟩ := sI_elim h
  obtain ⟨a, r2, rfl, h2⟩ := sI_elim h1
  exact ⟨a, b, r2, rfl, h2⟩
-- the locals over the machine's
theorem LH.get {ad sv : Nat → Nat} {la : Array Slot} {mL : Nat} {ls : List PV} (h : LH ad sv la mL ls) {i : Nat} {v : PV} (hi : ls[i]? = some v) (h9 : v.1 ≠ 9) (h1 : v.1 ≠ 1) : la[i]? = some (.val (cv ad sv v)) := h.2.2.2 i v hi h9 h1
def lvOf (ad sv : Nat → Nat) (ls : List PV) : List (Nat × Value) := (List.range ls.length).filterMap fun i => (ls[i]?).bind fun v => if v.1 = 9 ∨ v.1 = 1 then none else some (i, cv ad sv v)
theorem lvOf_mem {ad sv : Nat → Nat} {ls : List PV} {q : Nat × Value} : q ∈ lvOf ad sv ls ↔ ∃ v : PV, ls[q.1]? = some v ∧ v.1 ≠ 9 ∧ v.1 ≠ 1 ∧ q.2 = cv ad sv v := by
  unfold lvOf
  rw [List.mem_filterMap]
  constructor
  · rintro ⟨i, hi, h⟩
    cases hv : ls[i]? with
    | none => rw [hv] at h; cases h
    | some v =>
      rw [hv] at h
      dsimp only [Option.bind] at h
      by_cases h9 : v.1 = 9 ∨ v.1 = 1
      · rw [if_pos h9] at h; cases h
      · rw [if_neg h9] at h
        cases h
        exact ⟨v, hv, fun e => h9 (Or.inl e), fun e => h9 (Or.inr e), rfl⟩
  · rintro ⟨v, hv, h9, h1, he⟩
    refine ⟨q.1, List.mem_range.mpr (List.getElem?_eq_some_iff.mp hv).1, ?_⟩
    rw [hv]
    dsimp only [Option.bind]
    rw [if_neg (by rintro (e | e) <;> contradiction), ← he]
theorem LH.lv {ad sv : Nat → Nat} {la : Array Slot} {mL : Nat} {ls : List PV} (h : LH ad sv la mL ls) : lv_has la mL (lvOf ad sv ls) := by
  refine ⟨h.1, h.2.1, fun q hq => ?_⟩
  obtain ⟨v, h1, h2, h3, h4⟩ := lvOf_mem.mp hq
  rw [h4]
  exact h.2.2.2 q.1 v h1 h2 h3
theorem LH.store {ad sv : Nat → Nat} {la la' : Array Slot} {mL : Nat} {ls : List PV} (h : LH ad sv la mL ls) {i : Nat} {v : PV} {x : Value} (hx : cv ad sv v = x) (h' : lv_has la' mL ((i, x) :: (lvOf ad sv ls).filter (fun q => !(q.1 == i) && !(q.1 + 1 == i && q.2.category == 2)))) : LH ad sv la' mL (ls.set i v) := by
  refine ⟨h'.1, h'.2.1, by rw [List.length_set]; exact h.2.2.1, fun j u hj h9 h1 => ?_⟩
  by_cases hji : j = i
  · subst hji
    have hl : j < ls.length := by simpa using (List.getElem?_eq_some_iff.mp hj).1
    rw [List.getElem?_set_self hl] at hj
    cases hj
    have h2 := h'.2.2 (j, x) List.mem_cons_self
    rw [hx]
    exact h2
  · rw [List.getElem?_set_ne (Ne.symm hji)] at hj
    refine h'.2.2 (j, cv ad sv u) (List.mem_cons_of_mem _ (List.mem_filter.mpr ⟨lvOf_mem.mpr ⟨u, hj, h9, h1, rfl⟩, ?_⟩))
    have hc := cv_cat (ad := ad) (sv := sv) h1
    simp [hji, hc]
theorem VOKs.set {w : Nat} {ls : List PV} (h : ∀ v ∈ ls, VOK w v) {i : Nat} {v : PV} (hv : VOK w v) : ∀ u ∈ ls.set i v, VOK w u := by
  intro u hu
  rcases List.mem_or_eq_of_mem_set hu with h1 | h1
  · exact h u h1
  · rw [h1]; exact hv
theorem VOKs.cons {w : Nat} {st : List PV} (h : ∀ v ∈ st, VOK w v) {v : PV} (hv : VOK w v) : ∀ u ∈ v :: st, VOK w u := by
  intro u hu
  rcases List.mem_cons.mp hu with rfl | h1
  · exact hv
  · exact h u h1
theorem VOKs.tail {w : Nat} {st : List PV} {v : PV} (h : ∀ u ∈ v :: st, VOK w u) : ∀ u ∈ st, VOK w u := fun u hu => h u (List.mem_cons_of_mem _ hu)
theorem VOKs.head {w : Nat} {st : List PV} {v : PV} (h : ∀ u ∈ v :: st, VOK w u) : VOK w v := h v List.mem_cons_self
-- numbers
theorem i32_toInt {a : Int} (h1 : -2147483648 ≤ a) (h2 : a ≤ 2147483647) : (Int32.ofInt a).toInt = a := Int32.toInt_ofInt_of_le (by omega) (by omega)
theorem i32_lt {a b : Int} (ha : -2147483648 ≤ a ∧ a ≤ 2147483647) (hb : -2147483648 ≤ b ∧ b ≤ 2147483647) : Int32.ofInt a < Int32.ofInt b ↔ a < b := by
  rw [Int32.lt_iff_toInt_lt, i32_toInt ha.1 ha.2, i32_toInt hb.1 hb.2]
theorem i32_le {a b : Int} (ha : -2147483648 ≤ a ∧ a ≤ 2147483647) (hb : -2147483648 ≤ b ∧ b ≤ 2147483647) : Int32.ofInt a ≤ Int32.ofInt b ↔ a ≤ b := by
  rw [Int32.le_iff_toInt_le, i32_toInt ha.1 ha.2, i32_toInt hb.1 hb.2]
theorem i32_eq {a b : Int} (ha : -2147483648 ≤ a ∧ a ≤ 2147483647) (hb : -2147483648 ≤ b ∧ b ≤ 2147483647) : Int32.ofInt a = Int32.ofInt b ↔ a = b := by
  constructor
  · intro h
    have := congrArg Int32.toInt h
    rwa [i32_toInt ha.1 ha.2, i32_toInt hb.1 hb.2] at this
  · intro h; rw [h]
theorem i32_0 : (0 : Int32) = Int32.ofInt 0 := by decide
theorem i32_in {a : Int} {n : Nat} (h0 : 0 ≤ a) (h1 : a < n) (hn : n < 2147483648) : vp_in (Int32.ofInt a) n ∧ (Int32.ofInt a).toNatClampNeg = a.toNat := by
  have e : (Int32.ofInt a).toNatClampNeg = a.toNat := Int32.toNatClampNeg_ofInt_of_le (by omega) (by omega)
  refine ⟨?_, e⟩
  intro q
  rcases q with q | q
  · rw [i32_0, i32_lt (by omega) (by omega)] at q
    omega
  · rw [e] at q
    omega
end
section
/-! THE INSTRUCTIONS and their soundness -/
def iC (z : Int) (n : Nat) : PI := fun _ ls st μ K => K n ls ((0, z) :: st) μ
def iCL (z : Int) (n : Nat) : PI := fun _ ls st μ K => K n ls ((1, z) :: st) μ
theorem s_iconst {M : MD} {pc n : Nat} {z : Int} (hd : decode M.2.2.2.1 pc = .ok (.iconst z, 1)) (hn : n = pc + 1) : Sound M pc (iC z n) := by
  subst hn
  intro Q ls st μ K hK h
  intro l ad sv D cT p e s m args below meth c C H locs la hP hS hL hV hT
  obtain ⟨hx, hb, hml, hr, hlk, hown, hts, hnw, hK0, hAD, hst⟩ := id C
  exact lv_iconst hx hb hd rfl (hK _ _ _ _ h l ad sv D cT p e s m args below meth c C H locs la hP hS hL hV (VOKs.cons hT (VOK_lt (Nat.zero_lt_succ 99))))
theorem s_bipush {M : MD} {pc n : Nat} {z : Int} (hv : (Int8.ofInt z).toInt32 = Int32.ofInt z) (hd : decode M.2.2.2.1 pc = .ok (.bipush z, 2)) (hn : n = pc + 2) : Sound M pc (iC z n) := by
  subst hn
  intro Q ls st μ K hK h
  intro l ad sv D cT p e s m args below meth c C H locs la hP hS hL hV hT
  obtain ⟨hx, hb, hml, hr, hlk, hown, hts, hnw, hK0, hAD, hst⟩ := id C
  exact lv_bipush hx hb hd hv (hK _ _ _ _ h l ad sv D cT p e s m args below meth c C H locs la hP hS hL hV (VOKs.cons hT (VOK_lt (Nat.zero_lt_succ 99))))
theorem s_sipush {M : MD} {pc n : Nat} {z : Int} (hv : (Int16.ofInt z).toInt32 = Int32.ofInt z) (hd : decode M.2.2.2.1 pc = .ok (.sipush z, 3)) (hn : n = pc + 3) : Sound M pc (iC z n) := by
  subst hn
  intro Q ls st μ K hK h
  intro l ad sv D cT p e s m args below meth c C H locs la hP hS hL hV hT
  obtain ⟨hx, hb, hml, hr, hlk, hown, hts, hnw, hK0, hAD, hst⟩ := id C
  exact lv_sipush hx hb hd hv (hK _ _ _ _ h l ad sv D cT p e s m args below meth c C H locs la hP hS hL hV (VOKs.cons hT (VOK_lt (Nat.zero_lt_succ 99))))
theorem s_ldc {M : MD} {pc n index : Nat} {z : Int} (hc : Cond.constant M.2.2.1.cls index (Int32.ofInt z) ∈ gW) (hd : decode M.2.2.2.1 pc = .ok (.ldc index, 2)) (hn : n = pc + 2) : Sound M pc (iC z n) := by
  subst hn
  intro Q ls st μ K hK h
  intro l ad sv D cT p e s m args below meth c C H locs la hP hS hL hV hT
  obtain ⟨hx, hb, hml, hr, hlk, hown, hts, hnw, hK0, hAD, hst⟩ := id C
  exact lv_ldc hx hb hown (hts _ (List.mem_cons_of_mem _ hc)) hd (hK _ _ _ _ h l ad sv D cT p e s m args below meth c C H locs la hP hS hL hV (VOKs.cons hT (VOK_lt (Nat.zero_lt_succ 99))))
theorem s_ldc2 {M : MD} {pc n index : Nat} {z : Int} (hc : Cond.constantLong M.2.2.1.cls index (Int64.ofInt z) ∈ gW) (hd : decode M.2.2.2.1 pc = .ok (.ldc2_w index, 3)) (hn : n = pc + 3) : Sound M pc (iCL z n) := by
  subst hn
  intro Q ls st μ K hK h
  intro l ad sv D cT p e s m args below meth c C H locs la hP hS hL hV hT
  obtain ⟨hx, hb, hml, hr, hlk, hown, hts, hnw, hK0, hAD, hst⟩ := id C
  exact lv_ldc2 hx hb hown (hts _ (List.mem_cons_of_mem _ hc)) hd (hK _ _ _ _ h l ad sv D cT p e s m args below meth c C H locs la hP hS hL hV (VOKs.cons hT (VOK_lt (by show (1 : Nat) < 100; omega))))
theorem s_lconst {M : MD} {pc n : Nat} {f : Fin 2} {z : Int} (hv : Int64.ofNat (f : Nat) = Int64.ofInt z) (hd : decode M.2.2.2.1 pc = .ok (.lconst f, 1)) (hn : n = pc + 1) : Sound M pc (iCL z n) := by
  subst hn
  intro Q ls st μ K hK h
  intro l ad sv D cT p e s m args below meth c C H locs la hP hS hL hV hT
  obtain ⟨hx, hb, hml, hr, hlk, hown, hts, hnw, hK0, hAD, hst⟩ := id C
  exact lv_lconst hx hb hd hv (hK _ _ _ _ h l ad sv D cT p e s m args below meth c C H locs la hP hS hL hV (VOKs.cons hT (VOK_lt (by show (1 : Nat) < 100; omega))))
def iL (j n : Nat) : PI := fun _ ls st μ K => getl ls j fun v => pI v fun z => K n ls ((0, z) :: st) μ
def iLA (j n : Nat) : PI := fun _ ls st μ K => getl ls j fun v => pR v (K n ls (v :: st) μ)
theorem s_iload_n {M : MD} {pc n j : Nat} {f : Fin 4} (hi : (f : Nat) = j) (hd : decode M.2.2.2.1 pc = .ok (.iload_n f, 1)) (hn : n = pc + 1) : Sound M pc (iL j n) := by
  subst hn
  intro Q ls st μ K hK h
  obtain ⟨v, hv, h1⟩ := getl_elim h
  obtain ⟨z, rfl, h2⟩ := pI_elim h1
  intro l ad sv D cT p e s m args below meth c C H locs la hP hS hL hV hT
  obtain ⟨hx, hb, hml, hr, hlk, hown, hts, hnw, hK0, hAD, hst⟩ := id C
  exact lv_iload_n hx hb hd hi (hL.get hv (show (0 : Nat) ≠ 9 by decide) (show (0 : Nat) ≠ 1 by decide)) (hK _ _ _ _ h2 l ad sv D cT p e s m args below meth c C H locs la hP hS hL hV (VOKs.cons hT (VOK_lt (Nat.zero_lt_succ 99))))
theorem s_iload {M : MD} {pc n j : Nat} (hd : decode M.2.2.2.1 pc = .ok (.iload j, 2)) (hn : n = pc + 2) : Sound M pc (iL j n) := by
  subst hn
  intro Q ls st μ K hK h
  obtain ⟨v, hv, h1⟩ := getl_elim h
  obtain ⟨z, rfl, h2⟩ := pI_elim h1
  intro l ad sv D cT p e s m args below meth c C H locs la hP hS hL hV hT
  obtain ⟨hx, hb, hml, hr, hlk, hown, hts, hnw, hK0, hAD, hst⟩ := id C
  exact lv_iload hx hb hd (hL.get hv (show (0 : Nat) ≠ 9 by decide) (show (0 : Nat) ≠ 1 by decide)) (hK _ _ _ _ h2 l ad sv D cT p e s m args below meth c C H locs la hP hS hL hV (VOKs.cons hT (VOK_lt (Nat.zero_lt_succ 99))))
theorem s_aload_n {M : MD} {pc n j : Nat} {f : Fin 4} (hi : (f : Nat) = j) (hd : decode M.2.2.2.1 pc = .ok (.aload_n f, 1)) (hn : n = pc + 1) : Sound M pc (iLA j n) := by
  subst hn
  intro Q ls st μ K hK h
  obtain ⟨v, hv, h1⟩ := getl_elim h
  obtain ⟨ht, h2⟩ := pR_elim h1
  intro l ad sv D cT p e s m args below meth c C H locs la hP hS hL hV hT
  obtain ⟨hx, hb, hml, hr, hlk, hown, hts, hnw, hK0, hAD, hst⟩ := id C
  have hg := hL.get hv (by omega) (by omega)
  have hvk : VOK M.1 v := hV v (List.mem_of_getElem? hv)
  have hk := hK _ _ _ _ h2 l ad sv D cT p e s m args below meth c C H locs la hP hS hL hV (VOKs.cons hT hvk)
  obtain ⟨t, z⟩ := v
  rw [cv_ref ad sv ht] at hg
  rw [List.map_cons, cv_ref ad sv ht] at hk
  exact lv_aload_n hx hb hd hi hg hk
theorem s_aload {M : MD} {pc n j : Nat} (hd : decode M.2.2.2.1 pc = .ok (.aload j, 2)) (hn : n = pc + 2) : Sound M pc (iLA j n) := by
  subst hn
  intro Q ls st μ K hK h
  obtain ⟨v, hv, h1⟩ := getl_elim h
  obtain ⟨ht, h2⟩ := pR_elim h1
  intro l ad sv D cT p e s m args below meth c C H locs la hP hS hL hV hT
  obtain ⟨hx, hb, hml, hr, hlk, hown, hts, hnw, hK0, hAD, hst⟩ := id C
  have hg := hL.get hv (by omega) (by omega)
  have hvk : VOK M.1 v := hV v (List.mem_of_getElem? hv)
  have hk := hK _ _ _ _ h2 l ad sv D cT p e s m args below meth c C H locs la hP hS hL hV (VOKs.cons hT hvk)
  obtain ⟨t, z⟩ := v
  rw [cv_ref ad sv ht] at hg
  rw [List.map_cons, cv_ref ad sv ht] at hk
  exact lv_aload hx hb hd hg hk
def iS (j n : Nat) : PI := fun _ ls st μ K => sI st fun z r => setl ls j (0, z) fun ls' => K n ls' r μ
def iSA (j n : Nat) : PI := fun _ ls st μ K => s1 st fun v r => pR v (setl ls j v fun ls' => K n ls' r μ)
theorem s_istore_n {M : MD} {pc n j : Nat} {f : Fin 4} (hi : (f : Nat) = j) (hd : decode M.2.2.2.1 pc = .ok (.istore_n f, 1)) (hn : n = pc + 1) : Sound M pc (iS j n) := by
  subst hn
  intro Q ls st μ K hK h
  obtain ⟨z, r, rfl, h1⟩ := sI_elim h
  obtain ⟨hj, h2⟩ := setl_elim h1
  intro l ad sv D cT p e s m args below meth c C H locs la hP hS hL hV hT
  obtain ⟨hx, hb, hml, hr, hlk, hown, hts, hnw, hK0, hAD, hst⟩ := id C
  exact lv_istore_n hx hb hd hi hL.lv (by rw [← hL.2.2.1]; exact hj) rfl (fun la' hl' => hK _ _ _ _ h2 l ad sv D cT p e s m args below meth c C H locs la' hP hS (hL.store (cv_int ad sv z) hl') (VOKs.set hV (VOK_lt (Nat.zero_lt_succ 99))) (VOKs.tail hT))
theorem s_istore {M : MD} {pc n j : Nat} (hd : decode M.2.2.2.1 pc = .ok (.istore j, 2)) (hn : n = pc + 2) : Sound M pc (iS j n) := by
  subst hn
  intro Q ls st μ K hK h
  obtain ⟨z, r, rfl, h1⟩ := sI_elim h
  obtain ⟨hj, h2⟩ := setl_elim h1
  intro l ad sv D cT p e s m args below meth c C H locs la hP hS hL hV hT
  obtain ⟨hx, hb, hml, hr, hlk, hown, hts, hnw, hK0, hAD, hst⟩ := id C
  exact lv_istore hx hb hd hL.lv (by rw [← hL.2.2.1]; exact hj) rfl (fun la' hl' => hK _ _ _ _ h2 l ad sv D cT p e s m args below meth c C H locs la' hP hS (hL.store (cv_int ad sv z) hl') (VOKs.set hV (VOK_lt (Nat.zero_lt_succ 99))) (VOKs.tail hT))
theorem s_astore_n {M : MD} {pc n j : Nat} {f : Fin 4} (hi : (f : Nat) = j) (hd : decode M.2.2.2.1 pc = .ok (.astore_n f, 1)) (hn : n = pc + 1) : Sound M pc (iSA j n) := by
  subst hn
  intro Q ls st μ K hK h
  obtain ⟨v, r, rfl, h1⟩ := s1_elim h
  obtain ⟨ht, h2⟩ := pR_elim h1
  obtain ⟨hj, h3⟩ := setl_elim h2
  intro l ad sv D cT p e s m args below meth c C H locs la hP hS hL hV hT
  obtain ⟨hx, hb, hml, hr, hlk, hown, hts, hnw, hK0, hAD, hst⟩ := id C
  obtain ⟨t, z⟩ := v
  rw [List.map_cons, cv_ref ad sv ht]
  exact lv_astore_n hx hb hd hi hL.lv (by rw [← hL.2.2.1]; exact hj) rfl (fun la' hl' => hK _ _ _ _ h3 l ad sv D cT p e s m args below meth c C H locs la' hP hS (hL.store (cv_ref ad sv ht z) hl') (VOKs.set hV (VOKs.head hT)) (VOKs.tail hT))
theorem s_astore {M : MD} {pc n j : Nat} (hd : decode M.2.2.2.1 pc = .ok (.astore j, 2)) (hn : n = pc + 2) : Sound M pc (iSA j n) := by
  subst hn
  intro Q ls st μ K hK h
  obtain ⟨v, r, rfl, h1⟩ := s1_elim h
  obtain ⟨ht, h2⟩ := pR_elim h1
  obtain ⟨hj, h3⟩ := setl_elim h2
  intro l ad sv D cT p e s m args below meth c C H locs la hP hS hL hV hT
  obtain ⟨hx, hb, hml, hr, hlk, hown, hts, hnw, hK0, hAD, hst⟩ := id C
  obtain ⟨t, z⟩ := v
  rw [List.map_cons, cv_ref ad sv ht]
  exact lv_astore hx hb hd hL.lv (by rw [← hL.2.2.1]; exact hj) rfl (fun la' hl' => hK _ _ _ _ h3 l ad sv D cT p e s m args below meth c C H locs la' hP hS (hL.store (cv_ref ad sv ht z) hl') (VOKs.set hV (VOKs.head hT)) (VOKs.tail hT))
def iInc (j : Nat) (k : Int) (n : Nat) : PI := fun _ ls st μ K => getl ls j fun v => pI v fun z => setl ls j (0, z + k) fun ls' => K n ls' st μ
theorem s_iinc {M : MD} {pc n j : Nat} {k : Int} (hd : decode M.2.2.2.1 pc = .ok (.iinc j k, 3)) (hn : n = pc + 3) : Sound M pc (iInc j k n) := by
  subst hn
  intro Q ls st μ K hK h
  obtain ⟨v, hv, h1⟩ := getl_elim h
  obtain ⟨z, rfl, h2⟩ := pI_elim h1
  obtain ⟨hj, h3⟩ := setl_elim h2
  intro l ad sv D cT p e s m args below meth c C H locs la hP hS hL hV hT
  obtain ⟨hx, hb, hml, hr, hlk, hown, hts, hnw, hK0, hAD, hst⟩ := id C
  obtain ⟨q, hq⟩ := List.getElem?_of_mem (lvOf_mem (ad := ad) (sv := sv) (q := (j, .int (Int32.ofInt z))) |>.mpr ⟨(0, z), hv, (show (0 : Nat) ≠ 9 by decide), (show (0 : Nat) ≠ 1 by decide), rfl⟩)
  exact lv_iinc hx hb hd hL.lv hq (Int32.ofInt_add z k).symm (by rw [← hL.2.2.1]; exact hj) rfl (fun la' hl' => hK _ _ _ _ h3 l ad sv D cT p e s m args below meth c C H locs la' hP hS (hL.store (cv_int ad sv (z + k)) hl') (VOKs.set hV (VOK_lt (Nat.zero_lt_succ 99))) hT)
def iAdd (n : Nat) : PI := fun _ ls st μ K => sII st fun a b r => K n ls ((0, a + b) :: r) μ
theorem s_iadd {M : MD} {pc n : Nat} (hd : decode M.2.2.2.1 pc = .ok (.iadd, 1)) (hn : n = pc + 1) : Sound M pc (iAdd n) := by
  subst hn
  intro Q ls st μ K hK h
  obtain ⟨a, b, r, rfl, h1⟩ := sII_elim h
  intro l ad sv D cT p e s m args below meth c C H locs la hP hS hL hV hT
  obtain ⟨hx, hb, hml, hr, hlk, hown, hts, hnw, hK0, hAD, hst⟩ := id C
  have hk := hK _ _ _ _ h1 l ad sv D cT p e s m args below meth c C H locs la hP hS hL hV (VOKs.cons (VOKs.tail (VOKs.tail hT)) (VOK_lt (Nat.zero_lt_succ 99)))
  rw [List.map_cons, cv_int, Int32.ofInt_add] at hk
  exact lv_iadd hx hb hd hk
def iSub (n : Nat) : PI := fun _ ls st μ K => sII st fun a b r => K n ls ((0, a - b) :: r) μ
theorem s_isub {M : MD} {pc n : Nat} (hd : decode M.2.2.2.1 pc = .ok (.isub, 1)) (hn : n = pc + 1) : Sound M pc (iSub n) := by
  subst hn
  intro Q ls st μ K hK h
  obtain ⟨a, b, r, rfl, h1⟩ := sII_elim h
  intro l ad sv D cT p e s m args below meth c C H locs la hP hS hL hV hT
  obtain ⟨hx, hb, hml, hr, hlk, hown, hts, hnw, hK0, hAD, hst⟩ := id C
  have hk := hK _ _ _ _ h1 l ad sv D cT p e s m args below meth c C H locs la hP hS hL hV (VOKs.cons (VOKs.tail (VOKs.tail hT)) (VOK_lt (Nat.zero_lt_succ 99)))
  rw [List.map_cons, cv_int, Int32.ofInt_sub] at hk
  exact lv_isub hx hb hd hk
def iMul (n : Nat) : PI := fun _ ls st μ K => sII st fun a b r => K n ls ((0, a * b) :: r) μ
theorem s_imul {M : MD} {pc n : Nat} (hd : decode M.2.2.2.1 pc = .ok (.imul, 1)) (hn : n = pc + 1) : Sound M pc (iMul n) := by
  subst hn
  intro Q ls st μ K hK h
  obtain ⟨a, b, r, rfl, h1⟩ := sII_elim h
  intro l ad sv D cT p e s m args below meth c C H locs la hP hS hL hV hT
  obtain ⟨hx, hb, hml, hr, hlk, hown, hts, hnw, hK0, hAD, hst⟩ := id C
  have hk := hK _ _ _ _ h1 l ad sv D cT p e s m args below meth c C H locs la hP hS hL hV (VOKs.cons (VOKs.tail (VOKs.tail hT)) (VOK_lt (Nat.zero_lt_succ 99)))
  rw [List.map_cons, cv_int, Int32.ofInt_mul] at hk
  exact lv_imul hx hb hd hk
def iNeg (n : Nat) : PI := fun _ ls st μ K => sI st fun a r => K n ls ((0, -a) :: r) μ
theorem s_ineg {M : MD} {pc n : Nat} (hd : decode M.2.2.2.1 pc = .ok (.ineg, 1)) (hn : n = pc + 1) : Sound M pc (iNeg n) := by
  subst hn
  intro Q ls st μ K hK h
  obtain ⟨a, r, rfl, h1⟩ := sI_elim h
  intro l ad sv D cT p e s m args below meth c C H locs la hP hS hL hV hT
  obtain ⟨hx, hb, hml, hr, hlk, hown, hts, hnw, hK0, hAD, hst⟩ := id C
  have hk := hK _ _ _ _ h1 l ad sv D cT p e s m args below meth c C H locs la hP hS hL hV (VOKs.cons (VOKs.tail hT) (VOK_lt (Nat.zero_lt_succ 99)))
  rw [List.map_cons, cv_int, Int32.ofInt_neg] at hk
  exact lv_ineg hx hb hd hk
def iDiv (n : Nat) : PI := fun _ ls st μ K => sII st fun a b r => (0 ≤ a ∧ a ≤ 2147483647 ∧ 0 < b ∧ b ≤ 2147483647) ∧ K n ls ((0, a / b) :: r) μ
theorem s_idiv {M : MD} {pc n : Nat} (hd : decode M.2.2.2.1 pc = .ok (.idiv, 1)) (hn : n = pc + 1) : Sound M pc (iDiv n) := by
  subst hn
  intro Q ls st μ K hK h
  obtain ⟨a, b, r, rfl, ⟨h0, h1, h2, h3⟩, h4⟩ := sII_elim h
  intro l ad sv D cT p e s m args below meth c C H locs la hP hS hL hV hT
  obtain ⟨hx, hb, hml, hr, hlk, hown, hts, hnw, hK0, hAD, hst⟩ := id C
  have hk := hK _ _ _ _ h4 l ad sv D cT p e s m args below meth c C H locs la hP hS hL hV (VOKs.cons (VOKs.tail (VOKs.tail hT)) (VOK_lt (Nat.zero_lt_succ 99)))
  have e : Int32.ofInt (a / b) = Int32.ofInt a / Int32.ofInt b := by
    rw [← Int.tdiv_eq_ediv_of_nonneg h0]
    exact Int32.ofInt_tdiv (by rw [Int32.toInt_minValue]; omega) (by rw [Int32.toInt_maxValue]; omega) (by rw [Int32.toInt_minValue]; omega) (by rw [Int32.toInt_maxValue]; omega)
  rw [List.map_cons, cv_int, e] at hk
  exact lv_idiv hx hb hd (by rw [i32_0, i32_eq (by omega) (by omega)]; omega) hk
def iRem (n : Nat) : PI := fun _ ls st μ K => sII st fun a b r => (0 ≤ a ∧ a ≤ 2147483647 ∧ 0 < b ∧ b ≤ 2147483647) ∧ K n ls ((0, a % b) :: r) μ
def iAnd (n : Nat) : PI := fun _ ls st μ K => sII st fun a b r => (0 ≤ a ∧ a ≤ 2147483647) ∧ (b = 3 ∨ b = 7 ∨ b = 31) ∧ K n ls ((0, a % (b + 1)) :: r) μ
theorem i32_and {a : Int} (k : Nat) (hk : k = 2 ∨ k = 3 ∨ k = 5) (h0 : 0 ≤ a) (h1 : a ≤ 2147483647) : Int32.ofInt a &&& Int32.ofInt (2 ^ k - 1) = Int32.ofInt (a % 2 ^ k) := by
  obtain ⟨n, rfl⟩ := Int.eq_ofNat_of_zero_le h0
  have hm : (Int32.ofInt (2 ^ k - 1)).toBitVec.toNat = 2 ^ k - 1 := by
    rcases hk with rfl | rfl | rfl <;> rfl
  rw [pk_and _ k hm]
  have e1 : (Int32.ofInt (n : Int)).toBitVec.toNat = n := by
    rw [Int32.ofInt_eq_ofNat]
    exact pk_tn (by omega)
  rw [e1]
  show Int32.ofNat (n % 2 ^ k) = _
  rw [← Int32.ofInt_eq_ofNat]
  congr 1
theorem s_iand {M : MD} {pc n : Nat} (hd : decode M.2.2.2.1 pc = .ok (.iand, 1)) (hn : n = pc + 1) : Sound M pc (iAnd n) := by
  subst hn
  intro Q ls st μ K hK h
  obtain ⟨a, b, r, rfl, ⟨h0, h1⟩, h2, h4⟩ := sII_elim h
  intro l ad sv D cT p e s m args below meth c C H locs la hP hS hL hV hT
  obtain ⟨hx, hb, hml, hr, hlk, hown, hts, hnw, hK0, hAD, hst⟩ := id C
  have hk := hK _ _ _ _ h4 l ad sv D cT p e s m args below meth c C H locs la hP hS hL hV (VOKs.cons (VOKs.tail (VOKs.tail hT)) (VOK_lt (Nat.zero_lt_succ 99)))
  have e : Int32.ofInt (a % (b + 1)) = Int32.ofInt a &&& Int32.ofInt b := by
    rcases h2 with rfl | rfl | rfl
    · exact (i32_and 2 (Or.inl rfl) h0 h1).symm
    · exact (i32_and 3 (Or.inr (Or.inl rfl)) h0 h1).symm
    · exact (i32_and 5 (Or.inr (Or.inr rfl)) h0 h1).symm
  rw [List.map_cons, cv_int, e] at hk
  exact lv_iand hx hb hd hk
def iI2L (n : Nat) : PI := fun _ ls st μ K => sI st fun a r => (-2147483648 ≤ a ∧ a ≤ 2147483647) ∧ K n ls ((1, a) :: r) μ
theorem s_i2l {M : MD} {pc n : Nat} (hd : decode M.2.2.2.1 pc = .ok (.i2l, 1)) (hn : n = pc + 1) : Sound M pc (iI2L n) := by
  subst hn
  intro Q ls st μ K hK h
  obtain ⟨a, r, rfl, ⟨h0, h1⟩, h2⟩ := sI_elim h
  intro l ad sv D cT p e s m args below meth c C H locs la hP hS hL hV hT
  obtain ⟨hx, hb, hml, hr, hlk, hown, hts, hnw, hK0, hAD, hst⟩ := id C
  exact lv_i2l hx hb hd (Int32.toInt64_ofInt (by rw [Int32.toInt_minValue]; omega) (by rw [Int32.toInt_maxValue]; omega)) (hK _ _ _ _ h2 l ad sv D cT p e s m args below meth c C H locs la hP hS hL hV (VOKs.cons (VOKs.tail hT) (VOK_lt (by show (1 : Nat) < 100; omega))))
def iLAdd (n : Nat) : PI := fun _ ls st μ K => s1 st fun v r => pT 1 v fun b => s1 r fun v r => pT 1 v fun a => K n ls ((1, a + b) :: r) μ
theorem s_ladd {M : MD} {pc n : Nat} (hd : decode M.2.2.2.1 pc = .ok (.ladd, 1)) (hn : n = pc + 1) : Sound M pc (iLAdd n) := by
  subst hn
  intro Q ls st μ K hK h
  obtain ⟨v, r, rfl, h1⟩ := s1_elim h
  obtain ⟨b, rfl, h2⟩ := pT_elim h1
  obtain ⟨v, r2, rfl, h3⟩ := s1_elim h2
  obtain ⟨a, rfl, h4⟩ := pT_elim h3
  intro l ad sv D cT p e s m args below meth c C H locs la hP hS hL hV hT
  obtain ⟨hx, hb, hml, hr, hlk, hown, hts, hnw, hK0, hAD, hst⟩ := id C
  have hk := hK _ _ _ _ h4 l ad sv D cT p e s m args below meth c C H locs la hP hS hL hV (VOKs.cons (VOKs.tail (VOKs.tail hT)) (VOK_lt (by show (1 : Nat) < 100; omega)))
  rw [List.map_cons, cv_long, Int64.ofInt_add] at hk
  exact lv_ladd hx hb hd hk
def iDup (n : Nat) : PI := fun _ ls st μ K => s1 st fun v r => match Nat.beq v.1 1 with | true => False | false => K n ls (v :: v :: r) μ
theorem s_dup {M : MD} {pc n : Nat} (hd : decode M.2.2.2.1 pc = .ok (.dup, 1)) (hn : n = pc + 1) : Sound M pc (iDup n) := by
  subst hn
  intro Q ls st μ K hK h
  obtain ⟨v, r, rfl, h1⟩ := s1_elim h
  intro l ad sv D cT p e s m args below meth c C H locs la hP hS hL hV hT
  obtain ⟨hx, hb, hml, hr, hlk, hown, hts, hnw, hK0, hAD, hst⟩ := id C
  cases hb1 : Nat.beq v.1 1 with
  | true => rw [hb1] at h1; exact h1.elim
  | false =>
    rw [hb1] at h1
    exact lv_dup hx hb hd (cv_cat (Nat.ne_of_beq_eq_false hb1)) (hK _ _ _ _ h1 l ad sv D cT p e s m args below meth c C H locs la hP hS hL hV (VOKs.cons hT (VOKs.head hT)))
def iDup2 (n : Nat) : PI := fun _ ls st μ K => s1 st fun v r => s1 r fun u r => match Nat.beq v.1 1, Nat.beq u.1 1 with | false, false => K n ls (v :: u :: v :: u :: r) μ | _, _ => False
theorem s_dup2 {M : MD} {pc n : Nat} (hd : decode M.2.2.2.1 pc = .ok (.dup2, 1)) (hn : n = pc + 1) : Sound M pc (iDup2 n) := by
  subst hn
  intro Q ls st μ K hK h
  obtain ⟨v, r, rfl, h1⟩ := s1_elim h
  obtain ⟨u, r2, rfl, h2⟩ := s1_elim h1
  intro l ad sv D cT p e s m args below meth c C H locs la hP hS hL hV hT
  obtain ⟨hx, hb, hml, hr, hlk, hown, hts, hnw, hK0, hAD, hst⟩ := id C
  cases hb1 : Nat.beq v.1 1 with
  | true => rw [hb1] at h2; exact h2.elim
  | false =>
    cases hb2 : Nat.beq u.1 1 with
    | true => rw [hb1, hb2] at h2; exact h2.elim
    | false =>
      rw [hb1, hb2] at h2
      exact lv_dup2_11 hx hb hd (cv_cat (Nat.ne_of_beq_eq_false hb1)) (cv_cat (Nat.ne_of_beq_eq_false hb2)) (hK _ _ _ _ h2 l ad sv D cT p e s m args below meth c C H locs la hP hS hL hV (VOKs.cons (VOKs.cons hT (VOKs.head (VOKs.tail hT))) (VOKs.head hT)))
def iGoto (t : Nat) : PI := fun _ ls st μ K => K t ls st μ
theorem s_goto {M : MD} {pc t : Nat} {off : Int} (ht : (pc : Int) + off = (t : Int)) (hd : decode M.2.2.2.1 pc = .ok (.goto off, 3)) : Sound M pc (iGoto t) := by
  intro Q ls st μ K hK h
  intro l ad sv D cT p e s m args below meth c C H locs la hP hS hL hV hT
  obtain ⟨hx, hb, hml, hr, hlk, hown, hts, hnw, hK0, hAD, hst⟩ := id C
  exact lv_goto hx hb hd ht (hK _ _ _ _ h l ad sv D cT p e s m args below meth c C H locs la hP hS hL hV hT)
def iCmp (ρ : Int → Int → Prop) (t n : Nat) : PI := fun _ ls st μ K => sII st fun a b r => (-2147483648 ≤ a ∧ a ≤ 2147483647) ∧ (-2147483648 ≤ b ∧ b ≤ 2147483647) ∧ (ρ a b → K t ls r μ) ∧ (¬ ρ a b → K n ls r μ)
def iIf (ρ : Int → Prop) (t n : Nat) : PI := fun _ ls st μ K => sI st fun a r => (-2147483648 ≤ a ∧ a ≤ 2147483647) ∧ (ρ a → K t ls r μ) ∧ (¬ ρ a → K n ls r μ)
theorem s_icmp_lt {M : MD} {pc t n : Nat} {off : Int} (ht : (pc : Int) + off = (t : Int)) (hd : decode M.2.2.2.1 pc = .ok (.if_icmp .lt off, 3)) (hn : n = pc + 3) : Sound M pc (iCmp (fun a b => a < b) t n) := by
  subst hn
  intro Q ls st μ K hK h
  obtain ⟨a, b, r, rfl, ha, hb0, h1, h2⟩ := sII_elim h
  intro l ad sv D cT p e s m args below meth c C H locs la hP hS hL hV hT
  obtain ⟨hx, hb, hml, hr, hlk, hown, hts, hnw, hK0, hAD, hst⟩ := id C
  have hz := (i32_lt ha hb0)
  exact lv_icmp_lt hx hb hd ht (fun q => hK _ _ _ _ (h1 (hz.mp q)) l ad sv D cT p e s m args below meth c C H locs la hP hS hL hV (VOKs.tail (VOKs.tail hT))) (fun q => hK _ _ _ _ (h2 (fun u => q (hz.mpr u))) l ad sv D cT p e s m args below meth c C H locs la hP hS hL hV (VOKs.tail (VOKs.tail hT)))
theorem s_icmp_le {M : MD} {pc t n : Nat} {off : Int} (ht : (pc : Int) + off = (t : Int)) (hd : decode M.2.2.2.1 pc = .ok (.if_icmp .le off, 3)) (hn : n = pc + 3) : Sound M pc (iCmp (fun a b => a ≤ b) t n) := by
  subst hn
  intro Q ls st μ K hK h
  obtain ⟨a, b, r, rfl, ha, hb0, h1, h2⟩ := sII_elim h
  intro l ad sv D cT p e s m args below meth c C H locs la hP hS hL hV hT
  obtain ⟨hx, hb, hml, hr, hlk, hown, hts, hnw, hK0, hAD, hst⟩ := id C
  have hz := (i32_le ha hb0)
  exact lv_icmp_le hx hb hd ht (fun q => hK _ _ _ _ (h1 (hz.mp q)) l ad sv D cT p e s m args below meth c C H locs la hP hS hL hV (VOKs.tail (VOKs.tail hT))) (fun q => hK _ _ _ _ (h2 (fun u => q (hz.mpr u))) l ad sv D cT p e s m args below meth c C H locs la hP hS hL hV (VOKs.tail (VOKs.tail hT)))
theorem s_icmp_gt {M : MD} {pc t n : Nat} {off : Int} (ht : (pc : Int) + off = (t : Int)) (hd : decode M.2.2.2.1 pc = .ok (.if_icmp .gt off, 3)) (hn : n = pc + 3) : Sound M pc (iCmp (fun a b => b < a) t n) := by
  subst hn
  intro Q ls st μ K hK h
  obtain ⟨a, b, r, rfl, ha, hb0, h1, h2⟩ := sII_elim h
  intro l ad sv D cT p e s m args below meth c C H locs la hP hS hL hV hT
  obtain ⟨hx, hb, hml, hr, hlk, hown, hts, hnw, hK0, hAD, hst⟩ := id C
  have hz := (i32_lt hb0 ha)
  exact lv_icmp_gt hx hb hd ht (fun q => hK _ _ _ _ (h1 (hz.mp q)) l ad sv D cT p e s m args below meth c C H locs la hP hS hL hV (VOKs.tail (VOKs.tail hT))) (fun q => hK _ _ _ _ (h2 (fun u => q (hz.mpr u))) l ad sv D cT p e s m args below meth c C H locs la hP hS hL hV (VOKs.tail (VOKs.tail hT)))
theorem s_icmp_ge {M : MD} {pc t n : Nat} {off : Int} (ht : (pc : Int) + off = (t : Int)) (hd : decode M.2.2.2.1 pc = .ok (.if_icmp .ge off, 3)) (hn : n = pc + 3) : Sound M pc (iCmp (fun a b => b ≤ a) t n) := by
  subst hn
  intro Q ls st μ K hK h
  obtain ⟨a, b, r, rfl, ha, hb0, h1, h2⟩ := sII_elim h
  intro l ad sv D cT p e s m args below meth c C H locs la hP hS hL hV hT
  obtain ⟨hx, hb, hml, hr, hlk, hown, hts, hnw, hK0, hAD, hst⟩ := id C
  have hz := (i32_le hb0 ha)
  exact lv_icmp_ge hx hb hd ht (fun q => hK _ _ _ _ (h1 (hz.mp q)) l ad sv D cT p e s m args below meth c C H locs la hP hS hL hV (VOKs.tail (VOKs.tail hT))) (fun q => hK _ _ _ _ (h2 (fun u => q (hz.mpr u))) l ad sv D cT p e s m args below meth c C H locs la hP hS hL hV (VOKs.tail (VOKs.tail hT)))
theorem s_icmp_eq {M : MD} {pc t n : Nat} {off : Int} (ht : (pc : Int) + off = (t : Int)) (hd : decode M.2.2.2.1 pc = .ok (.if_icmp .eq off, 3)) (hn : n = pc + 3) : Sound M pc (iCmp (fun a b => a = b) t n) := by
  subst hn
  intro Q ls st μ K hK h
  obtain ⟨a, b, r, rfl, ha, hb0, h1, h2⟩ := sII_elim h
  intro l ad sv D cT p e s m args below meth c C H locs la hP hS hL hV hT
  obtain ⟨hx, hb, hml, hr, hlk, hown, hts, hnw, hK0, hAD, hst⟩ := id C
  have hz := (i32_eq ha hb0)
  exact lv_icmp_eq hx hb hd ht (fun q => hK _ _ _ _ (h1 (hz.mp q)) l ad sv D cT p e s m args below meth c C H locs la hP hS hL hV (VOKs.tail (VOKs.tail hT))) (fun q => hK _ _ _ _ (h2 (fun u => q (hz.mpr u))) l ad sv D cT p e s m args below meth c C H locs la hP hS hL hV (VOKs.tail (VOKs.tail hT)))
theorem s_icmp_ne {M : MD} {pc t n : Nat} {off : Int} (ht : (pc : Int) + off = (t : Int)) (hd : decode M.2.2.2.1 pc = .ok (.if_icmp .ne off, 3)) (hn : n = pc + 3) : Sound M pc (iCmp (fun a b => ¬ a = b) t n) := by
  subst hn
  intro Q ls st μ K hK h
  obtain ⟨a, b, r, rfl, ha, hb0, h1, h2⟩ := sII_elim h
  intro l ad sv D cT p e s m args below meth c C H locs la hP hS hL hV hT
  obtain ⟨hx, hb, hml, hr, hlk, hown, hts, hnw, hK0, hAD, hst⟩ := id C
  have hz := (not_congr (i32_eq ha hb0))
  exact lv_icmp_ne hx hb hd ht (fun q => hK _ _ _ _ (h1 (hz.mp q)) l ad sv D cT p e s m args below meth c C H locs la hP hS hL hV (VOKs.tail (VOKs.tail hT))) (fun q => hK _ _ _ _ (h2 (fun u => hz.mpr u q)) l ad sv D cT p e s m args below meth c C H locs la hP hS hL hV (VOKs.tail (VOKs.tail hT)))
theorem s_if_lt {M : MD} {pc t n : Nat} {off : Int} (ht : (pc : Int) + off = (t : Int)) (hd : decode M.2.2.2.1 pc = .ok (.ifCond .lt off, 3)) (hn : n = pc + 3) : Sound M pc (iIf (fun a => a < 0) t n) := by
  subst hn
  intro Q ls st μ K hK h
  obtain ⟨a, r, rfl, ha, h1, h2⟩ := sI_elim h
  intro l ad sv D cT p e s m args below meth c C H locs la hP hS hL hV hT
  obtain ⟨hx, hb, hml, hr, hlk, hown, hts, hnw, hK0, hAD, hst⟩ := id C
  have z0 : -2147483648 ≤ (0 : Int) ∧ (0 : Int) ≤ 2147483647 := by omega
  have hz := i32_lt ha z0
  rw [← i32_0] at hz
  exact lv_if_lt hx hb hd ht (fun q => hK _ _ _ _ (h1 (hz.mp q)) l ad sv D cT p e s m args below meth c C H locs la hP hS hL hV (VOKs.tail hT)) (fun q => hK _ _ _ _ (h2 (fun u => q (hz.mpr u))) l ad sv D cT p e s m args below meth c C H locs la hP hS hL hV (VOKs.tail hT))
theorem s_if_le {M : MD} {pc t n : Nat} {off : Int} (ht : (pc : Int) + off = (t : Int)) (hd : decode M.2.2.2.1 pc = .ok (.ifCond .le off, 3)) (hn : n = pc + 3) : Sound M pc (iIf (fun a => a ≤ 0) t n) := by
  subst hn
  intro Q ls st μ K hK h
  obtain ⟨a, r, rfl, ha, h1, h2⟩ := sI_elim h
  intro l ad sv D cT p e s m args below meth c C H locs la hP hS hL hV hT
  obtain ⟨hx, hb, hml, hr, hlk, hown, hts, hnw, hK0, hAD, hst⟩ := id C
  have z0 : -2147483648 ≤ (0 : Int) ∧ (0 : Int) ≤ 2147483647 := by omega
  have hz := i32_le ha z0
  rw [← i32_0] at hz
  exact lv_if_le hx hb hd ht (fun q => hK _ _ _ _ (h1 (hz.mp q)) l ad sv D cT p e s m args below meth c C H locs la hP hS hL hV (VOKs.tail hT)) (fun q => hK _ _ _ _ (h2 (fun u => q (hz.mpr u))) l ad sv D cT p e s m args below meth c C H locs la hP hS hL hV (VOKs.tail hT))
theorem s_if_gt {M : MD} {pc t n : Nat} {off : Int} (ht : (pc : Int) + off = (t : Int)) (hd : decode M.2.2.2.1 pc = .ok (.ifCond .gt off, 3)) (hn : n = pc + 3) : Sound M pc (iIf (fun a => 0 < a) t n) := by
  subst hn
  intro Q ls st μ K hK h
  obtain ⟨a, r, rfl, ha, h1, h2⟩ := sI_elim h
  intro l ad sv D cT p e s m args below meth c C H locs la hP hS hL hV hT
  obtain ⟨hx, hb, hml, hr, hlk, hown, hts, hnw, hK0, hAD, hst⟩ := id C
  have z0 : -2147483648 ≤ (0 : Int) ∧ (0 : Int) ≤ 2147483647 := by omega
  have hz := i32_lt z0 ha
  rw [← i32_0] at hz
  exact lv_if_gt hx hb hd ht (fun q => hK _ _ _ _ (h1 (hz.mp q)) l ad sv D cT p e s m args below meth c C H locs la hP hS hL hV (VOKs.tail hT)) (fun q => hK _ _ _ _ (h2 (fun u => q (hz.mpr u))) l ad sv D cT p e s m args below meth c C H locs la hP hS hL hV (VOKs.tail hT))
theorem s_if_ge {M : MD} {pc t n : Nat} {off : Int} (ht : (pc : Int) + off = (t : Int)) (hd : decode M.2.2.2.1 pc = .ok (.ifCond .ge off, 3)) (hn : n = pc + 3) : Sound M pc (iIf (fun a => 0 ≤ a) t n) := by
  subst hn
  intro Q ls st μ K hK h
  obtain ⟨a, r, rfl, ha, h1, h2⟩ := sI_elim h
  intro l ad sv D cT p e s m args below meth c C H locs la hP hS hL hV hT
  obtain ⟨hx, hb, hml, hr, hlk, hown, hts, hnw, hK0, hAD, hst⟩ := id C
  have z0 : -2147483648 ≤ (0 : Int) ∧ (0 : Int) ≤ 2147483647 := by omega
  have hz := i32_le z0 ha
  rw [← i32_0] at hz
  exact lv_if_ge hx hb hd ht (fun q => hK _ _ _ _ (h1 (hz.mp q)) l ad sv D cT p e s m args below meth c C H locs la hP hS hL hV (VOKs.tail hT)) (fun q => hK _ _ _ _ (h2 (fun u => q (hz.mpr u))) l ad sv D cT p e s m args below meth c C H locs la hP hS hL hV (VOKs.tail hT))
theorem s_if_eq {M : MD} {pc t n : Nat} {off : Int} (ht : (pc : Int) + off = (t : Int)) (hd : decode M.2.2.2.1 pc = .ok (.ifCond .eq off, 3)) (hn : n = pc + 3) : Sound M pc (iIf (fun a => a = 0) t n) := by
  subst hn
  intro Q ls st μ K hK h
  obtain ⟨a, r, rfl, ha, h1, h2⟩ := sI_elim h
  intro l ad sv D cT p e s m args below meth c C H locs la hP hS hL hV hT
  obtain ⟨hx, hb, hml, hr, hlk, hown, hts, hnw, hK0, hAD, hst⟩ := id C
  have z0 : -2147483648 ≤ (0 : Int) ∧ (0 : Int) ≤ 2147483647 := by omega
  have hz := i32_eq ha z0
  rw [← i32_0] at hz
  exact lv_if_eq hx hb hd ht (fun q => hK _ _ _ _ (h1 (hz.mp q)) l ad sv D cT p e s m args below meth c C H locs la hP hS hL hV (VOKs.tail hT)) (fun q => hK _ _ _ _ (h2 (fun u => q (hz.mpr u))) l ad sv D cT p e s m args below meth c C H locs la hP hS hL hV (VOKs.tail hT))
theorem s_if_ne {M : MD} {pc t n : Nat} {off : Int} (ht : (pc : Int) + off = (t : Int)) (hd : decode M.2.2.2.1 pc = .ok (.ifCond .ne off, 3)) (hn : n = pc + 3) : Sound M pc (iIf (fun a => ¬ a = 0) t n) := by
  subst hn
  intro Q ls st μ K hK h
  obtain ⟨a, r, rfl, ha, h1, h2⟩ := sI_elim h
  intro l ad sv D cT p e s m args below meth c C H locs la hP hS hL hV hT
  obtain ⟨hx, hb, hml, hr, hlk, hown, hts, hnw, hK0, hAD, hst⟩ := id C
  have z0 : -2147483648 ≤ (0 : Int) ∧ (0 : Int) ≤ 2147483647 := by omega
  have hz := not_congr (i32_eq ha z0)
  rw [← i32_0] at hz
  exact lv_if_ne hx hb hd ht (fun q => hK _ _ _ _ (h1 (hz.mp q)) l ad sv D cT p e s m args below meth c C H locs la hP hS hL hV (VOKs.tail hT)) (fun q => hK _ _ _ _ (h2 (fun u => hz.mpr u q)) l ad sv D cT p e s m args below meth c C H locs la hP hS hL hV (VOKs.tail hT))
/-- a switch: key by key -/
def swK (a : Int) (d : Nat) (k : Nat → Prop) : List (Int × Nat) → Prop
  | [] => k d
  | (x, t) :: cs => (a = x → k t) ∧ (¬ a = x → swK a d k cs)
def iSw (cs : List (Int × Nat)) (d : Nat) : PI := fun _ ls st μ K => sI st fun a r => (-2147483648 ≤ a ∧ a ≤ 2147483647) ∧ swK a d (fun t => K t ls r μ) cs
/-- which key: the first, or none -/
theorem swK_elim {a : Int} {d : Nat} {k : Nat → Prop} : ∀ {cs : List (Int × Nat)}, swK a d k cs → (∃ (i t : Nat), cs[i]? = some (a, t) ∧ (∀ (j : Nat) (y : Int × Nat), j < i → cs[j]? = some y → ¬ a = y.1) ∧ k t) ∨ ((∀ q ∈ cs, ¬ a = q.1) ∧ k d)
  | [], h => Or.inr ⟨fun q hq => (by cases hq), h⟩
  | (x, t) :: cs, h => by
    by_cases hx : a = x
    · subst hx
      exact Or.inl ⟨0, t, rfl, fun j y hj => absurd hj (Nat.not_lt_zero _), h.1 rfl⟩
    · rcases swK_elim (h.2 hx) with ⟨i, t', h1, h2, h3⟩ | ⟨h1, h2⟩
      · refine Or.inl ⟨i + 1, t', by rw [List.getElem?_cons_succ]; exact h1, fun j y hj hy => ?_, h3⟩
        cases j with
        | zero => cases hy; exact hx
        | succ j => rw [List.getElem?_cons_succ] at hy; exact h2 j y (Nat.lt_of_succ_lt_succ hj) hy
      · refine Or.inr ⟨fun q hq => ?_, h2⟩
        rcases List.mem_cons.mp hq with rfl | hq
        · exact hx
        · exact h1 q hq
/-- a table switch's rows: keys from lo on, targets by the offsets -/
def swT (pc : Nat) : Int → List Int → List (Int × Nat) → Prop
  | _, [], cs => cs = []
  | k, o :: os, cs => ∃ t r, cs = (k, t) :: r ∧ (pc : Int) + o = (t : Int) ∧ swT pc (k + 1) os r
def swTb (pc : Nat) : Int → List Int → List (Int × Nat) → Bool
  | _, [], [] => true
  | k, o :: os, (x, t) :: r => decide (x = k) && decide ((pc : Int) + o = (t : Int)) && swTb pc (k + 1) os r
  | _, _, _ => false
theorem swTb_get {pc : Nat} : ∀ {os : List Int} {lo : Int} {cs : List (Int × Nat)}, swTb pc lo os cs = true → cs.length = os.length ∧ ∀ (i : Nat) (q : Int × Nat), cs[i]? = some q → q.1 = lo + i ∧ ∃ o : Int, os[i]? = some o ∧ (pc : Int) + o = (q.2 : Int)
  | [], lo, [], _ => ⟨rfl, fun i q h => by simp at h⟩
  | [], lo, _ :: _, h => by simp [swTb] at h
  | o :: os, lo, [], h => by simp [swTb] at h
  | o :: os, lo, (x, t) :: r, h => by
    simp only [swTb, Bool.and_eq_true, decide_eq_true_eq] at h
    obtain ⟨h1, h2⟩ := swTb_get (os := os) h.2
    refine ⟨by simp [h1], fun i q hq => ?_⟩
    cases i with
    | zero =>
      cases hq
      exact ⟨by rw [h.1.1]; simp, o, rfl, h.1.2⟩
    | succ i =>
      rw [List.getElem?_cons_succ] at hq
      obtain ⟨h3, o', h4, h5⟩ := h2 i q hq
      exact ⟨by rw [h3]; push_cast; omega, o', by rw [List.getElem?_cons_succ]; exact h4, h5⟩
theorem s_table {M : MD} {pc t : Nat} {dflt lo hi : Int} {offs : Array Int} {len : Nat} {cs : List (Int × Nat)} (hd : decode M.2.2.2.1 pc = .ok (.tableswitch dflt lo hi offs, len)) (hc : swTb pc lo offs.toList cs = true) (hhi : hi = lo + (offs.toList.length : Int) - 1) (ht : (pc : Int) + dflt = (t : Int)) : Sound M pc (iSw cs t) := by
  intro Q ls st μ K hK h
  obtain ⟨a, r, rfl, ha, h1⟩ := sI_elim h
  intro l ad sv D cT p e s m args below meth c C H locs la hP hS hL hV hT
  obtain ⟨hx, hb, hml, hr, hlk, hown, hts, hnw, hK0, hAD, hst⟩ := id C
  obtain ⟨hlen, hget⟩ := swTb_get hc
  have hai := i32_toInt ha.1 ha.2
  rcases swK_elim h1 with ⟨i, t', h2, -, h3⟩ | ⟨h2, h3⟩
  · obtain ⟨h4, o, h5, h6⟩ := hget i _ h2
    have hil : i < offs.toList.length := (List.getElem?_eq_some_iff.mp h5).1
    dsimp only at h4 h6
    refine lv_tableIn hx hb hd (by rw [hai]; omega) (by rw [hai]; omega) (off := o) (by rw [hai, h4, show (lo + (i : Int) - lo).toNat = i by omega, ← Array.getElem?_toList]; exact h5) h6 (hK _ _ _ _ h3 l ad sv D cT p e s m args below meth c C H locs la hP hS hL hV (VOKs.tail hT))
  · refine lv_tableOut hx hb hd ?_ ht (hK _ _ _ _ h3 l ad sv D cT p e s m args below meth c C H locs la hP hS hL hV (VOKs.tail hT))
    rw [hai]
    rcases Int.lt_or_le a lo with q | q
    · exact Or.inl q
    · refine Or.inr ?_
      rcases Int.lt_or_le hi a with q2 | q2
      · exact q2
      · exfalso
        have hi2 : (a - lo).toNat < cs.length := by omega
        obtain ⟨h4, -⟩ := hget (a - lo).toNat cs[(a - lo).toNat] (List.getElem?_eq_getElem hi2)
        exact h2 _ (List.getElem_mem hi2) (by rw [h4]; omega)
def swLb (pc : Nat) : List (Int × Int) → List (Int × Nat) → Bool
  | [], [] => true
  | (k, o) :: os, (x, t) :: r => decide (x = k) && decide ((pc : Int) + o = (t : Int)) && swLb pc os r
  | _, _ => false
theorem swLb_sem {pc t : Nat} {a dflt : Int} {k : Nat → Prop} (ht : (pc : Int) + dflt = (t : Int)) : ∀ {os : List (Int × Int)} {cs : List (Int × Nat)}, swLb pc os cs = true → swK a t k cs → ∃ tg : Nat, (pc : Int) + Op.lookupswitch.offset os dflt a = (tg : Int) ∧ k tg
  | [], [], _, h => ⟨t, by rw [show Op.lookupswitch.offset [] dflt a = dflt from rfl]; exact ht, h⟩
  | [], _ :: _, h, _ => by simp [swLb] at h
  | _ :: _, [], h, _ => by simp [swLb] at h
  | (k', o) :: os, (x, t') :: r, h, hk => by
    simp only [swLb, Bool.and_eq_true, decide_eq_true_eq] at h
    rw [Op.lookupswitch.offset_cons]
    by_cases hx : a = k'
    · rw [if_pos hx.symm]
      exact ⟨t', h.1.2, hk.1 (by rw [h.1.1]; exact hx)⟩
    · rw [if_neg (fun e => hx e.symm)]
      exact swLb_sem ht h.2 (hk.2 (by rw [h.1.1]; exact hx))
theorem s_lookup {M : MD} {pc t : Nat} {dflt : Int} {ps : Array (Int × Int)} {len : Nat} {cs : List (Int × Nat)} (hd : decode M.2.2.2.1 pc = .ok (.lookupswitch dflt ps, len)) (hc : swLb pc ps.toList cs = true) (hp : (ps.toList.zip (ps.toList.drop 1)).all (fun (a, next) => a.1 < next.1) = true) (ht : (pc : Int) + dflt = (t : Int)) : Sound M pc (iSw cs t) := by
  intro Q ls st μ K hK h
  obtain ⟨a, r, rfl, ha, h1⟩ := sI_elim h
  intro l ad sv D cT p e s m args below meth c C H locs la hP hS hL hV hT
  obtain ⟨hx, hb, hml, hr, hlk, hown, hts, hnw, hK0, hAD, hst⟩ := id C
  have hai := i32_toInt ha.1 ha.2
  obtain ⟨tg, h2, h3⟩ := swLb_sem ht hc h1
  exact lv_lookup hx hb hd hp (by rw [hai]) h2 (hK _ _ _ _ h3 l ad sv D cT p e s m args below meth c C H locs la hP hS hL hV (VOKs.tail hT))
end
section
/-! MEMORY, CALLS, RETURNS -/
def CLS (ci : Nat) (C : String) (T : u_T) (N : Nat) (ty0 : Nat → FieldType) : Prop := vwCl[ci]? = some (C, T, N) ∧ (∀ q ∈ u_ws C T N, q ∈ gW) ∧ (∀ k, k < N → parseFieldDescriptor (T k).2.2.1 = some (ty0 k)) ∧ (∀ a, a < N → ∀ b, b < N → a ≠ b → (T a).2.1 ≠ (T b).2.1) ∧ ci < 10
def FL (own : String) (index : Nat) (C f d : String) : Prop := Cond.fieldLink own index C f d ∈ gW ∨ ∃ host, Cond.fieldLinkNest own index C f d host ∈ nWs
theorem lay_le (w k : Nat) : lay w k ≤ 6200 := by
  have hS : ∀ h, layS h ≤ 6200 := by intro h; unfold layS; split <;> omega
  have hH : ∀ h, layH h ≤ 6200 := by
    intro h; unfold layH
    split
    · omega
    · omega
    · omega
    · exact hS _
  unfold lay
  split
  · unfold layX
    split
    · omega
    · omega
    · omega
    · split
      · exact hH _
      · split
        · omega
        · exact hH _
  · unfold layM; split <;> omega
def iGI (t : Nat) (j : Int) (n : Nat) : PI := fun _ ls st μ K => s1 st fun v r => pT t v fun c => K n ls ((0, μ c j) :: r) μ
def iGR (t t' : Nat) (off : Int) (n : Nat) : PI := fun _ ls st μ K => s1 st fun v r => pT t v fun c => K n ls ((t', c + off) :: r) μ
def iPI (t : Nat) (j : Int) (n : Nat) : PI := fun _ ls st μ K => sI st fun x r => s1 r fun v r => pT t v fun c => K n ls r (upm μ c j x)
def iPZ (t : Nat) (j : Int) (n : Nat) : PI := fun _ ls st μ K => sI st fun x r => s1 r fun v r => pT t v fun c => (x = 0 ∨ x = 1) ∧ K n ls r (upm μ c j x)
def pA (v : PV) (k : Int → Int → Prop) : Prop := match Nat.ble 1100 v.1 with
  | true => k v.2 ((v.1 - 1100 : Nat) : Int)
  | false => False
theorem pA_elim {v : PV} {k : Int → Int → Prop} (h : pA v k) : 1100 ≤ v.1 ∧ k v.2 ((v.1 - 1100 : Nat) : Int) := by
  unfold pA at h
  cases hb : Nat.ble 1100 v.1 with
  | true => rw [hb] at h; exact ⟨Nat.le_of_ble_eq_true hb, h⟩
  | false => rw [hb] at h; exact h.elim
def iAL (n : Nat) : PI := fun _ ls st μ K => sI st fun i r => s1 r fun u r => pA u fun c len => (0 ≤ i ∧ i < len) ∧ K n ls ((0, μ c i) :: r) μ
def iAS (n : Nat) : PI := fun _ ls st μ K => sI st fun x r => sI r fun i r => s1 r fun u r => pA u fun c len => (0 ≤ i ∧ i < len) ∧ K n ls r (upm μ c i x)
def iLen (n : Nat) : PI := fun _ ls st μ K => s1 st fun u r => pA u fun _ len => K n ls ((0, len) :: r) μ
def iAA (t t' : Nat) (len str : Int) (n : Nat) : PI := fun _ ls st μ K => sI st fun i r => s1 r fun u r => pT t u fun c => (0 ≤ i ∧ i < len) ∧ K n ls ((t', c + 1 + str * i) :: r) μ
def iGS (t : Int) (n : Nat) : PI := fun _ ls st μ K => K n ls ((3, t) :: st) μ
def iAT (t : Nat) (len : Int) (n : Nat) : PI := fun _ ls st μ K => sI st fun i r => s1 r fun u r => pT 3 u fun z => z = (t : Int) ∧ (0 ≤ i ∧ i < len) ∧ K n ls ((0, stV t i) :: r) μ
theorem upm_cell {w : Nat} {ad : Nat → Nat} {cT : Nat → ClassId} {μ : Mem} {c j v : Int} (h0 : 0 ≤ c) {e : va_E} (hk : c.toNat < siz w) (he : cellE w ad cT (upm μ c j v) c.toNat = e) : (wsW w ad cT μ).set c.toNat (ad c.toNat, e) = wsW w ad cT (upm μ c j v) := by
  refine wsW_set hk he (fun i hi => ?_)
  obtain ⟨k, rfl⟩ := Int.eq_ofNat_of_zero_le h0
  exact cellE_other (by simpa using hi)
theorem vok {w t : Nat} {c : Int} (h : VOK w (t, c)) (ht : 100 ≤ t) : ∃ k : Nat, c = (k : Int) ∧ k < siz w ∧ lay w k = t - 100 := by
  obtain ⟨h0, h1, h2⟩ := h ht
  exact ⟨c.toNat, (Int.toNat_of_nonneg h0).symm, h1, h2⟩
theorem s_getI {M : MD} {pc n t index N : Nat} {j : Int} {C : String} {T : u_T} {ty0 : Nat → FieldType} (ci jn : Nat) (hC : CLS ci C T N ty0) (ht : t = 100 + ci) (hj : j = (jn : Int)) (hjn : jn < N) (hf : (flds ci)[jn]? = some (-1)) (hl : FL M.2.2.1.cls index (T jn).1 (T jn).2.1 (T jn).2.2.1) (hd : decode M.2.2.2.1 pc = .ok (.getfield index, 3)) (hn : n = pc + 3) : Sound M pc (iGI t j n) := by
  subst ht; subst hj
  subst hn
  intro Q ls st μ K hK h
  obtain ⟨v, r, rfl, h1⟩ := s1_elim h
  obtain ⟨c0, rfl, h2⟩ := pT_elim h1
  intro l ad sv D cT p e s m args below meth c C H locs la hP hS hL hV hT
  obtain ⟨hx, hb, hml, hr, hlk, hown, hts, hnw, hK0, hAD, hst⟩ := id C
  obtain ⟨k, rfl, hk, hlay⟩ := vok (VOKs.head hT) (by omega)
  have hlay : lay M.1 k = ci := by omega
  have hci := hC.2.2.2.2
  have hget := wsW_get (w := M.1) (ad := ad) (cT := cT) (μ := μ) hk
  rw [cellE_obj hlay hci] at hget
  have hfs : (objF ad (μ (k : Int)) k 0 (flds ci))[jn]? = some (Value.int (Int32.ofInt (μ (k : Int) (jn : Int)))) := by
    rw [objF_get, hf]; simp
  have hk2 := hK _ _ _ _ h2 l ad sv D cT p e s m args below meth c C H locs la hP hS hL hV (VOKs.cons (VOKs.tail hT) (VOK_lt (Nat.zero_lt_succ 99)))
  rw [List.map_cons, cv_ref ad sv (by omega : 100 ≤ 100 + ci)]
  rcases hl with hl | ⟨host, hl⟩
  · exact va_get (D := D) hx hb hts (fun q hq => List.mem_cons_of_mem _ (hC.2.1 q hq)) hown hK0 hP k hget hC.1 jn hjn (hts _ (List.mem_cons_of_mem _ hl)) (fun _ h9 => h9) hfs hd hk2
  · exact va_getN (D := D) hx hb hts (fun q hq => List.mem_cons_of_mem _ (hC.2.1 q hq)) hown hK0 hP k hget hC.1 jn hjn (hnw.use hl) (fun _ h9 => h9) hfs hd hk2
theorem s_getR {M : MD} {pc n t t' index N : Nat} {off : Int} {C : String} {T : u_T} {ty0 : Nat → FieldType} (ci jn : Nat) (hC : CLS ci C T N ty0) (ht : t = 100 + ci) (hjn : jn < N) (hf : (flds ci)[jn]? = some off) (h0 : 0 ≤ off) (hcl : ∀ k, k < siz M.1 → lay M.1 k = ci → k + off.toNat < siz M.1 ∧ lay M.1 (k + off.toNat) + 100 = t') (hl : FL M.2.2.1.cls index (T jn).1 (T jn).2.1 (T jn).2.2.1) (hd : decode M.2.2.2.1 pc = .ok (.getfield index, 3)) (hn : n = pc + 3) : Sound M pc (iGR t t' off n) := by
  subst ht
  subst hn
  intro Q ls st μ K hK h
  obtain ⟨v, r, rfl, h1⟩ := s1_elim h
  obtain ⟨c0, rfl, h2⟩ := pT_elim h1
  intro l ad sv D cT p e s m args below meth c C H locs la hP hS hL hV hT
  obtain ⟨hx, hb, hml, hr, hlk, hown, hts, hnw, hK0, hAD, hst⟩ := id C
  obtain ⟨k, rfl, hk, hlay⟩ := vok (VOKs.head hT) (by omega)
  have hlay : lay M.1 k = ci := by omega
  have hci := hC.2.2.2.2
  obtain ⟨hq1, hq2⟩ := hcl k hk hlay
  have hget := wsW_get (w := M.1) (ad := ad) (cT := cT) (μ := μ) hk
  rw [cellE_obj hlay hci] at hget
  have hoff : (k : Int) + off = ((k + off.toNat : Nat) : Int) := by omega
  have hfs : (objF ad (μ (k : Int)) k 0 (flds ci))[jn]? = some (Value.ref (ad (k + off.toNat))) := by
    rw [objF_get, hf]; simp only [Option.map_some]; rw [if_neg (by omega)]
  have hvk : VOK M.1 (t', (k : Int) + off) := fun _ => by
    rw [hoff]
    exact ⟨by omega, hq1, by rw [Int.toNat_natCast]; omega⟩
  have hk2 := hK _ _ _ _ h2 l ad sv D cT p e s m args below meth c C H locs la hP hS hL hV (VOKs.cons (VOKs.tail hT) hvk)
  rw [List.map_cons, cv_ref ad sv (by omega : 100 ≤ t'), hoff, Int.toNat_natCast] at hk2
  rw [List.map_cons, cv_ref ad sv (by omega : 100 ≤ 100 + ci)]
  rcases hl with hl | ⟨host, hl⟩
  · exact va_get (D := D) hx hb hts (fun q hq => List.mem_cons_of_mem _ (hC.2.1 q hq)) hown hK0 hP k hget hC.1 jn hjn (hts _ (List.mem_cons_of_mem _ hl)) (fun _ h9 => h9) hfs hd hk2
  · exact va_getN (D := D) hx hb hts (fun q hq => List.mem_cons_of_mem _ (hC.2.1 q hq)) hown hK0 hP k hget hC.1 jn hjn (hnw.use hl) (fun _ h9 => h9) hfs hd hk2
theorem s_putI {M : MD} {pc n t index N : Nat} {j : Int} {C : String} {T : u_T} {ty0 : Nat → FieldType} (ci jn : Nat) (hC : CLS ci C T N ty0) (ht : t = 100 + ci) (hj : j = (jn : Int)) (hjn : jn < N) (hf : (flds ci)[jn]? = some (-1)) (hfin : (T jn).2.2.2 = false) (hty : ty0 jn = .int) (hl : FL M.2.2.1.cls index (T jn).1 (T jn).2.1 (T jn).2.2.1) (hd : decode M.2.2.2.1 pc = .ok (.putfield index, 3)) (hn : n = pc + 3) : Sound M pc (iPI t j n) := by
  subst ht; subst hj
  subst hn
  intro Q ls st μ K hK h
  obtain ⟨x, r, rfl, h1⟩ := sI_elim h
  obtain ⟨v, r2, rfl, h2⟩ := s1_elim h1
  obtain ⟨c0, rfl, h3⟩ := pT_elim h2
  intro l ad sv D cT p e s m args below meth c C H locs la hP hS hL hV hT
  obtain ⟨hx, hb, hml, hr, hlk, hown, hts, hnw, hK0, hAD, hst⟩ := id C
  obtain ⟨k, rfl, hk, hlay⟩ := vok (VOKs.head (VOKs.tail hT)) (by omega)
  have hlay : lay M.1 k = ci := by omega
  have hci := hC.2.2.2.2
  have hget := wsW_get (w := M.1) (ad := ad) (cT := cT) (μ := μ) hk
  rw [cellE_obj hlay hci] at hget
  have hset : (wsW M.1 ad cT μ).set k (ad k, .inr (ci, (objF ad (μ (k : Int)) k 0 (flds ci)).set jn (.int (Int32.ofInt x)))) = wsW M.1 ad cT (upm μ (k : Int) (jn : Int) x) := by
    refine wsW_set hk ?_ (fun i hi => cellE_other hi)
    rw [cellE_obj hlay hci, objF_set _ _ _ _ _ _ hf]
    congr 2
    exact objF_ext _ _ _ _ _ (fun b => by simp [upm])
  have hjl : jn < (objF ad (μ (k : Int)) k 0 (flds ci)).length := by
    rw [objF_len]; exact (List.getElem?_eq_some_iff.mp hf).1
  have hpd : parseFieldDescriptor (T jn).2.2.1 = some .int := by rw [hC.2.2.1 jn hjn, hty]
  have hD := hAD.toD cT μ
  rw [List.map_cons, List.map_cons, cv_int, cv_ref ad sv (by omega : 100 ≤ 100 + ci)]
  rcases hl with hl | ⟨host, hl⟩
  · exact va_put (D := D) (v := .int (Int32.ofInt x)) hx hb hts (fun q hq => List.mem_cons_of_mem _ (hC.2.1 q hq)) ty0 hC.2.2.1 hC.2.2.2.1 hown hK0 hP hD hS k hget hC.1 jn hjn (hts _ (List.mem_cons_of_mem _ hl)) (fun _ h9 => h9) hfin hpd rfl rfl hjl hd (fun H1 locs1 hP1 _ hS1 => hK _ _ _ _ h3 l ad sv D cT p e s m args below meth c C H1 locs1 la (hset ▸ hP1) hS1 hL hV (VOKs.tail (VOKs.tail hT)))
  · exact va_putN (D := D) (v := .int (Int32.ofInt x)) hx hb hts (fun q hq => List.mem_cons_of_mem _ (hC.2.1 q hq)) ty0 hC.2.2.1 hC.2.2.2.1 hown hK0 hP hD hS k hget hC.1 jn hjn (hnw.use hl) (fun _ h9 => h9) hfin hpd rfl rfl hjl hd (fun H1 locs1 hP1 _ hS1 => hK _ _ _ _ h3 l ad sv D cT p e s m args below meth c C H1 locs1 la (hset ▸ hP1) hS1 hL hV (VOKs.tail (VOKs.tail hT)))
theorem s_putZ {M : MD} {pc n t index N : Nat} {j : Int} {C : String} {T : u_T} {ty0 : Nat → FieldType} (ci jn : Nat) (hC : CLS ci C T N ty0) (ht : t = 100 + ci) (hj : j = (jn : Int)) (hjn : jn < N) (hf : (flds ci)[jn]? = some (-1)) (hfin : (T jn).2.2.2 = false) (hty : ty0 jn = .boolean) (hl : FL M.2.2.1.cls index (T jn).1 (T jn).2.1 (T jn).2.2.1) (hd : decode M.2.2.2.1 pc = .ok (.putfield index, 3)) (hn : n = pc + 3) : Sound M pc (iPZ t j n) := by
  subst ht; subst hj
  subst hn
  intro Q ls st μ K hK h
  obtain ⟨x, r, rfl, h1⟩ := sI_elim h
  obtain ⟨v, r2, rfl, h2⟩ := s1_elim h1
  obtain ⟨c0, rfl, h3⟩ := pT_elim h2
  intro l ad sv D cT p e s m args below meth c C H locs la hP hS hL hV hT
  obtain ⟨hx, hb, hml, hr, hlk, hown, hts, hnw, hK0, hAD, hst⟩ := id C
  obtain ⟨hz, h3⟩ := h3
  obtain ⟨k, rfl, hk, hlay⟩ := vok (VOKs.head (VOKs.tail hT)) (by omega)
  have hlay : lay M.1 k = ci := by omega
  have hci := hC.2.2.2.2
  have hget := wsW_get (w := M.1) (ad := ad) (cT := cT) (μ := μ) hk
  rw [cellE_obj hlay hci] at hget
  have hset : (wsW M.1 ad cT μ).set k (ad k, .inr (ci, (objF ad (μ (k : Int)) k 0 (flds ci)).set jn (.int (Int32.ofInt x)))) = wsW M.1 ad cT (upm μ (k : Int) (jn : Int) x) := by
    refine wsW_set hk ?_ (fun i hi => cellE_other hi)
    rw [cellE_obj hlay hci, objF_set _ _ _ _ _ _ hf]
    congr 2
    exact objF_ext _ _ _ _ _ (fun b => by simp [upm])
  have hjl : jn < (objF ad (μ (k : Int)) k 0 (flds ci)).length := by
    rw [objF_len]; exact (List.getElem?_eq_some_iff.mp hf).1
  have hpd : parseFieldDescriptor (T jn).2.2.1 = some .boolean := by rw [hC.2.2.1 jn hjn, hty]
  have hD := hAD.toD cT μ
  rw [List.map_cons, List.map_cons, cv_int, cv_ref ad sv (by omega : 100 ≤ 100 + ci)]
  rcases hl with hl | ⟨host, hl⟩
  · exact va_put (D := D) (v := .int (Int32.ofInt x)) hx hb hts (fun q hq => List.mem_cons_of_mem _ (hC.2.1 q hq)) ty0 hC.2.2.1 hC.2.2.2.1 hown hK0 hP hD hS k hget hC.1 jn hjn (hts _ (List.mem_cons_of_mem _ hl)) (fun _ h9 => h9) hfin hpd (by rcases hz with rfl | rfl <;> rfl) (by rcases hz with rfl | rfl <;> rfl) hjl hd (fun H1 locs1 hP1 _ hS1 => hK _ _ _ _ h3 l ad sv D cT p e s m args below meth c C H1 locs1 la (hset ▸ hP1) hS1 hL hV (VOKs.tail (VOKs.tail hT)))
  · exact va_putN (D := D) (v := .int (Int32.ofInt x)) hx hb hts (fun q hq => List.mem_cons_of_mem _ (hC.2.1 q hq)) ty0 hC.2.2.1 hC.2.2.2.1 hown hK0 hP hD hS k hget hC.1 jn hjn (hnw.use hl) (fun _ h9 => h9) hfin hpd (by rcases hz with rfl | rfl <;> rfl) (by rcases hz with rfl | rfl <;> rfl) hjl hd (fun H1 locs1 hP1 _ hS1 => hK _ _ _ _ h3 l ad sv D cT p e s m args below meth c C H1 locs1 la (hset ▸ hP1) hS1 hL hV (VOKs.tail (VOKs.tail hT)))
theorem s_iaload {M : MD} {pc n : Nat} (hd : decode M.2.2.2.1 pc = .ok (.iaload, 1)) (hn : n = pc + 1) : Sound M pc (iAL n) := by
  subst hn
  intro Q ls st μ K hK h
  obtain ⟨i, r, rfl, h1⟩ := sI_elim h
  obtain ⟨⟨t, c0⟩, r2, rfl, h2⟩ := s1_elim h1
  obtain ⟨ht, ⟨h3, h4⟩, h5⟩ := pA_elim h2
  intro l ad sv D cT p e s m args below meth c C H locs la hP hS hL hV hT
  obtain ⟨hx, hb, hml, hr, hlk, hown, hts, hnw, hK0, hAD, hst⟩ := id C
  dsimp only at ht h3 h4 h5
  obtain ⟨k, rfl, hk, hlay⟩ := vok (VOKs.head (VOKs.tail hT)) (by omega)
  have hlay : lay M.1 k = 1000 + (t - 1100) := by omega
  have hle := lay_le M.1 k
  have hget := wsW_get (w := M.1) (ad := ad) (cT := cT) (μ := μ) hk
  rw [cellE_arr hlay] at hget
  obtain ⟨hin, hcl⟩ := i32_in h3 h4 (by omega)
  have hk2 := hK _ _ _ _ h5 l ad sv D cT p e s m args below meth c C H locs la hP hS hL hV (VOKs.cons (VOKs.tail (VOKs.tail hT)) (VOK_lt (Nat.zero_lt_succ 99)))
  rw [List.map_cons, List.map_cons, cv_int, cv_ref ad sv (by omega : 100 ≤ t)]
  refine va_iald (D := D) hx hb hK0 hP k 0 hget rfl hin hd ?_
  rw [hcl, Int.toNat_of_nonneg h3]
  exact hk2
theorem s_iastore {M : MD} {pc n : Nat} (hd : decode M.2.2.2.1 pc = .ok (.iastore, 1)) (hn : n = pc + 1) : Sound M pc (iAS n) := by
  subst hn
  intro Q ls st μ K hK h
  obtain ⟨x, r, rfl, h0⟩ := sI_elim h
  obtain ⟨i, r1, rfl, h1⟩ := sI_elim h0
  obtain ⟨⟨t, c0⟩, r2, rfl, h2⟩ := s1_elim h1
  obtain ⟨ht, ⟨h3, h4⟩, h5⟩ := pA_elim h2
  intro l ad sv D cT p e s m args below meth c C H locs la hP hS hL hV hT
  obtain ⟨hx, hb, hml, hr, hlk, hown, hts, hnw, hK0, hAD, hst⟩ := id C
  dsimp only at ht h3 h4 h5
  obtain ⟨k, rfl, hk, hlay⟩ := vok (VOKs.head (VOKs.tail (VOKs.tail hT))) (by omega)
  have hlay : lay M.1 k = 1000 + (t - 1100) := by omega
  have hle := lay_le M.1 k
  have hget := wsW_get (w := M.1) (ad := ad) (cT := cT) (μ := μ) hk
  rw [cellE_arr hlay] at hget
  obtain ⟨hin, hcl⟩ := i32_in h3 h4 (by omega)
  have hset : (wsW M.1 ad cT μ).set k (ad k, .inl (cT 0, t - 1100, .inl (upd (fun j => Int32.ofInt (μ (k : Int) (j : Int))) (Int32.ofInt i).toNatClampNeg (Int32.ofInt x)))) = wsW M.1 ad cT (upm μ (k : Int) i x) := by
    refine wsW_set hk ?_ (fun q hq => cellE_other hq)
    rw [cellE_arr hlay]
    congr 4
    funext q
    rw [hcl]
    by_cases hq : q = i.toNat
    · subst hq
      simp [upd, upm, Int.toNat_of_nonneg h3]
    · have : ¬ (q : Int) = i := by omega
      simp [upd, upm, hq, this]
  have hD := hAD.toD cT μ
  rw [List.map_cons, List.map_cons, List.map_cons, cv_int, cv_int, cv_ref ad sv (by omega : 100 ≤ t)]
  exact va_iast (D := D) hx hb hK0 hP hD hS k 0 hget rfl hin hd (fun H1 locs1 hP1 _ hS1 => hK _ _ _ _ h5 l ad sv D cT p e s m args below meth c C H1 locs1 la (hset ▸ hP1) hS1 hL hV (VOKs.tail (VOKs.tail (VOKs.tail hT))))
theorem s_alen {M : MD} {pc n : Nat} (hd : decode M.2.2.2.1 pc = .ok (.arraylength, 1)) (hn : n = pc + 1) : Sound M pc (iLen n) := by
  subst hn
  intro Q ls st μ K hK h
  obtain ⟨⟨t, c0⟩, r2, rfl, h2⟩ := s1_elim h
  obtain ⟨ht, h5⟩ := pA_elim h2
  intro l ad sv D cT p e s m args below meth c C H locs la hP hS hL hV hT
  obtain ⟨hx, hb, hml, hr, hlk, hown, hts, hnw, hK0, hAD, hst⟩ := id C
  dsimp only at ht h5
  obtain ⟨k, rfl, hk, hlay⟩ := vok (VOKs.head hT) (by omega)
  have hlay : lay M.1 k = 1000 + (t - 1100) := by omega
  have hget := wsW_get (w := M.1) (ad := ad) (cT := cT) (μ := μ) hk
  rw [cellE_arr hlay] at hget
  rw [List.map_cons, cv_ref ad sv (by omega : 100 ≤ t)]
  exact va_alen (D := D) hx hb hK0 hP k 0 hget rfl (v := Int32.ofInt ((t - 1100 : Nat) : Int)) (by rw [Int32.ofInt_eq_ofNat]) hd (hK _ _ _ _ h5 l ad sv D cT p e s m args below meth c C H locs la hP hS hL hV (VOKs.cons (VOKs.tail hT) (VOK_lt (Nat.zero_lt_succ 99))))
theorem s_aaload {M : MD} {pc n t t' : Nat} {len str : Int} (ra : Nat) (ht : t = 100 + ra) (hra : ra = 10 ∨ ra = 11 ∨ ra = 12) (hlen : len = (rlen ra : Int)) (hstr : str = (rstr ra : Int)) (hcl : ∀ k, k < siz M.1 → lay M.1 k = ra → ∀ j, j < rlen ra → k + 1 + rstr ra * j < siz M.1 ∧ lay M.1 (k + 1 + rstr ra * j) + 100 = t') (hd : decode M.2.2.2.1 pc = .ok (.aaload, 1)) (hn : n = pc + 1) : Sound M pc (iAA t t' len str n) := by
  subst ht; subst hlen; subst hstr
  subst hn
  intro Q ls st μ K hK h
  obtain ⟨i, r, rfl, h1⟩ := sI_elim h
  obtain ⟨v, r2, rfl, h2⟩ := s1_elim h1
  obtain ⟨c0, rfl, ⟨h3, h4⟩, h5⟩ := pT_elim h2
  intro l ad sv D cT p e s m args below meth c C H locs la hP hS hL hV hT
  obtain ⟨hx, hb, hml, hr, hlk, hown, hts, hnw, hK0, hAD, hst⟩ := id C
  obtain ⟨k, rfl, hk, hlay⟩ := vok (VOKs.head (VOKs.tail hT)) (by omega)
  have hlay : lay M.1 k = ra := by omega
  obtain ⟨j, rfl⟩ := Int.eq_ofNat_of_zero_le h3
  have hj : j < rlen ra := by omega
  obtain ⟨hq1, hq2⟩ := hcl k hk hlay j hj
  have hget := wsW_get (w := M.1) (ad := ad) (cT := cT) (μ := μ) hk
  rw [cellE_ref hlay (by omega) (by omega)] at hget
  have hrl : rlen ra ≤ 10 := by rcases hra with rfl | rfl | rfl <;> decide
  obtain ⟨hin, hclm⟩ := i32_in h3 h4 (by omega)
  have hoff : (k : Int) + 1 + (rstr ra : Int) * (j : Int) = ((k + 1 + rstr ra * j : Nat) : Int) := by push_cast; rfl
  have hvk : VOK M.1 (t', (k : Int) + 1 + (rstr ra : Int) * (j : Int)) := fun _ => by
    rw [hoff]
    exact ⟨by omega, hq1, by rw [Int.toNat_natCast]; omega⟩
  have hk2 := hK _ _ _ _ h5 l ad sv D cT p e s m args below meth c C H locs la hP hS hL hV (VOKs.cons (VOKs.tail (VOKs.tail hT)) hvk)
  rw [List.map_cons, cv_ref ad sv (by omega : 100 ≤ t'), hoff, Int.toNat_natCast] at hk2
  have hty : ∃ Cn : String, (tysW cT)[ra - 9]? = some (cT (ra - 9), .object Cn) := by
    rcases hra with rfl | rfl | rfl
    · exact ⟨_, rfl⟩
    · exact ⟨_, rfl⟩
    · exact ⟨_, rfl⟩
  obtain ⟨Cn, hty⟩ := hty
  rw [List.map_cons, List.map_cons, cv_int, cv_ref ad sv (by omega : 100 ≤ 100 + ra)]
  refine va_aldq (D := D) hx hb hK0 hP k (ra - 9) hget hty hin hd ?_
  rw [hclm, Int.toNat_natCast]
  exact hk2
theorem s_getS {M : MD} {pc n index : Nat} (t : Nat) {z : Int} (hz : z = (t : Int)) (ht : t < 4) (hl : FL M.2.2.1.cls index RX4 (stN t) "[I") (hd : decode M.2.2.2.1 pc = .ok (.getstatic index, 3)) (hn : n = pc + 3) : Sound M pc (iGS z n) := by
  subst hz
  subst hn
  intro Q ls st μ K hK h
  intro l ad sv D cT p e s m args below meth c C H locs la hP hS hL hV hT
  obtain ⟨hx, hb, hml, hr, hlk, hown, hts, hnw, hK0, hAD, hst⟩ := id C
  have hk2 := hK _ _ _ _ h l ad sv D cT p e s m args below meth c C H locs la hP hS hL hV (VOKs.cons hT (VOK_lt (by show (3 : Nat) < 100; omega)))
  rw [List.map_cons, cv_tab, Int.toNat_natCast] at hk2
  rcases hl with hl | ⟨host, hl⟩
  · exact va_gets hx hb (hst t ht).1 hS hown (hts _ (List.mem_cons_of_mem _ hl)) (fun _ h9 => h9) hd hk2
  · exact va_getsN hx hb (hst t ht).1 hS hown (hnw.use hl) (fun _ h9 => h9) hd hk2
theorem s_tload {M : MD} {pc n : Nat} (t : Nat) {len : Int} (ht : t < 4) (hlen : len = ((stL t).length : Int)) (hd : decode M.2.2.2.1 pc = .ok (.iaload, 1)) (hn : n = pc + 1) : Sound M pc (iAT t len n) := by
  subst hlen
  subst hn
  intro Q ls st μ K hK h
  obtain ⟨i, r, rfl, h1⟩ := sI_elim h
  obtain ⟨v, r2, rfl, h2⟩ := s1_elim h1
  obtain ⟨c0, rfl, rfl, ⟨h3, h4⟩, h5⟩ := pT_elim h2
  intro l ad sv D cT p e s m args below meth c C H locs la hP hS hL hV hT
  obtain ⟨hx, hb, hml, hr, hlk, hown, hts, hnw, hK0, hAD, hst⟩ := id C
  have hlb : (stL t).length < 2147483648 := by
    unfold stL
    split <;> decide
  obtain ⟨hin, hcl⟩ := i32_in h3 h4 hlb
  have hk2 := hK _ _ _ _ h5 l ad sv D cT p e s m args below meth c C H locs la hP hS hL hV (VOKs.cons (VOKs.tail (VOKs.tail hT)) (VOK_lt (Nat.zero_lt_succ 99)))
  rw [List.map_cons, List.map_cons, cv_int, cv_tab, Int.toNat_natCast]
  exact va_ti hx hb (hst t ht).2 hS hin (by rw [hcl]; rfl) hd hk2
def wsum : List PV → Nat
  | [] => 0
  | v :: r => (match Nat.beq v.1 1 with | true => 2 | false => 1) + wsum r
theorem wsum_cat (ad sv : Nat → Nat) : ∀ r : List PV, ((r.map (cv ad sv)).map fun v => v.category).sum = wsum r
  | [] => rfl
  | v :: r => by
    rw [List.map_cons, List.map_cons, List.sum_cons, wsum_cat ad sv r]
    rw [show wsum (v :: r) = (match Nat.beq v.1 1 with | true => 2 | false => 1) + wsum r from rfl]
    cases hb : Nat.beq v.1 1 with
    | true =>
      obtain ⟨t, z⟩ := v
      have : t = 1 := Nat.eq_of_beq_eq_true hb
      subst this
      rfl
    | false => rw [cv_cat (Nat.ne_of_beq_eq_false hb)]
def w8 (r : List PV) (k : Prop) : Prop := match Nat.ble (wsum r) 8 with
  | true => k
  | false => False
theorem w8_elim {r : List PV} {k : Prop} (h : w8 r k) : wsum r ≤ 8 ∧ k := by
  unfold w8 at h
  cases hb : Nat.ble (wsum r) 8 with
  | true => rw [hb] at h; exact ⟨Nat.le_of_ble_eq_true hb, h⟩
  | false => rw [hb] at h; exact h.elim
def iMax (n : Nat) : PI := fun _ ls st μ K => sII st fun a b r => w8 r ((-2147483648 ≤ a ∧ a ≤ 2147483647) ∧ (-2147483648 ≤ b ∧ b ≤ 2147483647) ∧ K n ls ((0, max a b) :: r) μ)
def iMin (n : Nat) : PI := fun _ ls st μ K => sII st fun a b r => w8 r ((-2147483648 ≤ a ∧ a ≤ 2147483647) ∧ (-2147483648 ≤ b ∧ b ≤ 2147483647) ∧ K n ls ((0, min a b) :: r) μ)
def iAbs (n : Nat) : PI := fun _ ls st μ K => sI st fun a r => w8 r ((-2147483647 ≤ a ∧ a ≤ 2147483647) ∧ K n ls ((0, if 0 ≤ a then a else -a) :: r) μ)
def iCpy (n : Nat) : PI := fun _ ls st μ K => sI st fun ln r => sI r fun dp r => s1 r fun ud r => sI r fun sp r => s1 r fun us r => w8 r (pA us fun cs ns => pA ud fun cd nd => (sp = 0 ∧ dp = 0 ∧ 0 ≤ ln ∧ ln ≤ ns ∧ ln ≤ nd) ∧ K n ls r (fun a b => if a = cd ∧ 0 ≤ b ∧ b < ln then μ cs b else μ a b))
theorem s_max {M : MD} {pc n index : Nat} (hlv : 1 ≤ M.2.1) (hl : Cond.methodLink M.2.2.1.cls index Lib.Math.max.name ∈ gW) (hs2 : Cond.static Lib.Math.max.name ∈ gW) (hi2 : Cond.initialized "java/lang/Math" ∈ gW) (hc2 : Cond.code Lib.Math.max.name Lib.Math.max.code 2 (some .int) ∈ gW) (hd : decode M.2.2.2.1 pc = .ok (.invokestatic index, 3)) (hn : n = pc + 3) : Sound M pc (iMax n) := by
  subst hn
  intro Q ls st μ K hK h
  obtain ⟨a, b, r, rfl, h1⟩ := sII_elim h
  obtain ⟨hw, ha, hb0, h2⟩ := w8_elim h1
  intro l ad sv D cT p e s m args below meth c C H locs la hP hS hL hV hT
  obtain ⟨hx, hb, hml, hr, hlk, hown, hts, hnw, hK0, hAD, hst⟩ := id C
  have hk2 := hK _ _ _ _ h2 l ad sv D cT p e s m args below meth c C H locs la hP hS hL hV (VOKs.cons (VOKs.tail (VOKs.tail hT)) (VOK_lt (Nat.zero_lt_succ 99)))
  rw [List.map_cons, cv_int] at hk2
  rw [List.map_cons, List.map_cons, cv_int, cv_int]
  refine va_mmax hx hb (hml.trans hL.1.symm) hown (hts _ (List.mem_cons_of_mem _ hl)) (hts _ (List.mem_cons_of_mem _ hs2)) (hts _ (List.mem_cons_of_mem _ hi2)) (hts _ (List.mem_cons_of_mem _ hc2)) (show 1 ≤ M.2.1 from hlv) (show _ ≤ 40 * M.2.1 by rw [wsum_cat]; omega) (Nat.zero_le _) (Nat.zero_le _) hd ?_
  refine W.eq ?_ hk2
  congr 3
  have hz := i32_lt ha hb0
  split
  · rename_i q
    rw [hz] at q
    congr 1
    omega
  · rename_i q
    rw [hz] at q
    congr 1
    omega
theorem s_min {M : MD} {pc n index : Nat} (hlv : 1 ≤ M.2.1) (hl : Cond.methodLink M.2.2.1.cls index Lib.Math.min.name ∈ gW) (hs2 : Cond.static Lib.Math.min.name ∈ gW) (hi2 : Cond.initialized "java/lang/Math" ∈ gW) (hc2 : Cond.code Lib.Math.min.name Lib.Math.min.code 2 (some .int) ∈ gW) (hd : decode M.2.2.2.1 pc = .ok (.invokestatic index, 3)) (hn : n = pc + 3) : Sound M pc (iMin n) := by
  subst hn
  intro Q ls st μ K hK h
  obtain ⟨a, b, r, rfl, h1⟩ := sII_elim h
  obtain ⟨hw, ha, hb0, h2⟩ := w8_elim h1
  intro l ad sv D cT p e s m args below meth c C H locs la hP hS hL hV hT
  obtain ⟨hx, hb, hml, hr, hlk, hown, hts, hnw, hK0, hAD, hst⟩ := id C
  have hk2 := hK _ _ _ _ h2 l ad sv D cT p e s m args below meth c C H locs la hP hS hL hV (VOKs.cons (VOKs.tail (VOKs.tail hT)) (VOK_lt (Nat.zero_lt_succ 99)))
  rw [List.map_cons, cv_int] at hk2
  rw [List.map_cons, List.map_cons, cv_int, cv_int]
  refine va_mmin hx hb (hml.trans hL.1.symm) hown (hts _ (List.mem_cons_of_mem _ hl)) (hts _ (List.mem_cons_of_mem _ hs2)) (hts _ (List.mem_cons_of_mem _ hi2)) (hts _ (List.mem_cons_of_mem _ hc2)) (show 1 ≤ M.2.1 from hlv) (show _ ≤ 40 * M.2.1 by rw [wsum_cat]; omega) (Nat.zero_le _) (Nat.zero_le _) hd ?_
  refine W.eq ?_ hk2
  congr 3
  have hz := i32_lt hb0 ha
  split
  · rename_i q
    rw [hz] at q
    congr 1
    omega
  · rename_i q
    rw [hz] at q
    congr 1
    omega
theorem s_abs {M : MD} {pc n index : Nat} (hlv : 1 ≤ M.2.1) (hl : Cond.methodLink M.2.2.1.cls index Lib.Math.abs.name ∈ gW) (hs2 : Cond.static Lib.Math.abs.name ∈ gW) (hi2 : Cond.initialized "java/lang/Math" ∈ gW) (hc2 : Cond.code Lib.Math.abs.name Lib.Math.abs.code 1 (some .int) ∈ gW) (hd : decode M.2.2.2.1 pc = .ok (.invokestatic index, 3)) (hn : n = pc + 3) : Sound M pc (iAbs n) := by
  subst hn
  intro Q ls st μ K hK h
  obtain ⟨a, r, rfl, h1⟩ := sI_elim h
  obtain ⟨hw, ha, h2⟩ := w8_elim h1
  intro l ad sv D cT p e s m args below meth c C H locs la hP hS hL hV hT
  obtain ⟨hx, hb, hml, hr, hlk, hown, hts, hnw, hK0, hAD, hst⟩ := id C
  have hk2 := hK _ _ _ _ h2 l ad sv D cT p e s m args below meth c C H locs la hP hS hL hV (VOKs.cons (VOKs.tail hT) (VOK_lt (Nat.zero_lt_succ 99)))
  rw [List.map_cons, cv_int] at hk2
  rw [List.map_cons, cv_int]
  refine va_mabs hx hb (hml.trans hL.1.symm) hown (hts _ (List.mem_cons_of_mem _ hl)) (hts _ (List.mem_cons_of_mem _ hs2)) (hts _ (List.mem_cons_of_mem _ hi2)) (hts _ (List.mem_cons_of_mem _ hc2)) (show 1 ≤ M.2.1 from hlv) (show _ ≤ 40 * M.2.1 by rw [wsum_cat]; omega) (Nat.zero_le _) (Nat.zero_le _) hd ?_
  refine W.eq ?_ hk2
  congr 3
  have hz : (0 : Int32) ≤ Int32.ofInt a ↔ 0 ≤ a := by rw [i32_0]; exact i32_le (by omega) (by omega)
  by_cases q : 0 ≤ a
  · rw [if_pos (hz.mpr q), if_pos q]
  · rw [if_neg (fun u => q (hz.mp u)), if_neg q, i32_0, ← Int32.ofInt_sub]
    congr 1
    omega
theorem s_copy {M : MD} {pc n index : Nat} (hlv : 1 ≤ M.2.1) (hl : Cond.methodLink M.2.2.1.cls index arraycopyName ∈ gW) (hs0 : Cond.native arraycopyName ∈ gW) (hs2 : Cond.static arraycopyName ∈ gW) (hi2 : Cond.initialized "java/lang/System" ∈ gW) (hd : decode M.2.2.2.1 pc = .ok (.invokestatic index, 3)) (hn : n = pc + 3) : Sound M pc (iCpy n) := by
  subst hn
  intro Q ls st μ K hK h
  obtain ⟨ln, r, rfl, h1⟩ := sI_elim h
  obtain ⟨dp, r1, rfl, h2⟩ := sI_elim h1
  obtain ⟨⟨td, c1⟩, r2, rfl, h3⟩ := s1_elim h2
  obtain ⟨sp, r3, rfl, h4⟩ := sI_elim h3
  obtain ⟨⟨ts, c2⟩, r4, rfl, h5⟩ := s1_elim h4
  obtain ⟨hw, h6⟩ := w8_elim h5
  obtain ⟨hts1, h7⟩ := pA_elim h6
  obtain ⟨htd1, ⟨rfl, rfl, hl0, hl1, hl2⟩, h8⟩ := pA_elim h7
  intro l ad sv D cT p e s m args below meth c C H locs la hP hS hL hV hT
  obtain ⟨hx, hb, hml, hr, hlk, hown, hts, hnw, hK0, hAD, hst⟩ := id C
  dsimp only at hts1 htd1 hl0 hl1 hl2 h8
  obtain ⟨kd, rfl, hkd, hlayd⟩ := vok (VOKs.head (VOKs.tail (VOKs.tail hT))) (by omega)
  obtain ⟨ks, rfl, hks, hlays⟩ := vok (VOKs.head (VOKs.tail (VOKs.tail (VOKs.tail (VOKs.tail hT))))) (by omega)
  have hlayd : lay M.1 kd = 1000 + (td - 1100) := by omega
  have hlays : lay M.1 ks = 1000 + (ts - 1100) := by omega
  have hled := lay_le M.1 kd
  have hles := lay_le M.1 ks
  have hgd := wsW_get (w := M.1) (ad := ad) (cT := cT) (μ := μ) hkd
  rw [cellE_arr hlayd] at hgd
  have hgs := wsW_get (w := M.1) (ad := ad) (cT := cT) (μ := μ) hks
  rw [cellE_arr hlays] at hgs
  have e0 : (Int32.ofInt 0).toNatClampNeg = 0 := by decide
  have e1 : (Int32.ofInt ln).toNatClampNeg = ln.toNat := Int32.toNatClampNeg_ofInt_of_le (by omega) (by omega)
  have hset : (wsW M.1 ad cT μ).set kd (ad kd, .inl (cT 0, td - 1100, .inl (va_cpy (fun j => Int32.ofInt (μ (ks : Int) (j : Int))) (fun j => Int32.ofInt (μ (kd : Int) (j : Int))) (Int32.ofInt 0).toNatClampNeg (Int32.ofInt 0).toNatClampNeg (Int32.ofInt ln).toNatClampNeg))) = wsW M.1 ad cT (fun a b => if a = (kd : Int) ∧ 0 ≤ b ∧ b < ln then μ (ks : Int) b else μ a b) := by
    refine wsW_set hkd ?_ (fun q hq => ?_)
    · rw [cellE_arr hlayd]
      congr 4
      funext q
      rw [e0, e1]
      unfold va_cpy
      by_cases hq : q < ln.toNat
      · rw [if_pos (by omega), if_pos (by omega)]
        simp
      · rw [if_neg (by omega), if_neg (by omega)]
    · have hne : ¬ ((q : Int) = (kd : Int)) := by omega
      unfold cellE
      simp only [hne, false_and, if_false]
  have hD := hAD.toD cT μ
  have h3f : ∀ z : Int, 0 ≤ z → z ≤ 2147483647 → ¬ Int32.ofInt z < 0 := fun z hz1 hz2 => by
    rw [i32_0, i32_lt (by omega) (by omega)]; omega
  rw [List.map_cons, List.map_cons, List.map_cons, List.map_cons, List.map_cons, cv_int, cv_int, cv_ref ad sv (by omega : 100 ≤ td), cv_ref ad sv (by omega : 100 ≤ ts)]
  exact va_copyi (D := D) (ty := .int) hx hb (hml.trans hL.1.symm) hown (hts _ (List.mem_cons_of_mem _ hl)) (hts _ (List.mem_cons_of_mem _ hs0)) (hts _ (List.mem_cons_of_mem _ hs2)) (hts _ (List.mem_cons_of_mem _ hi2)) hK0 hP hD hS ks kd 0 0 hgs hgd rfl rfl rfl (h3f 0 (by omega) (by omega)) (h3f 0 (by omega) (by omega)) (h3f ln (by omega) (by omega)) (by rw [e0, e1]; omega) (by rw [e0, e1]; omega) (fun _ _ => rfl) (show 1 ≤ M.2.1 from hlv) (show _ ≤ 40 * M.2.1 by rw [wsum_cat, show nativeFrameWords "java/lang/System" "arraycopy" 5 = 7 from by decide]; omega) hd (fun H1 locs1 hP1 _ hS1 => hK _ _ _ _ h8 l ad sv D cT p e s m args below meth c C H1 locs1 la (hset ▸ hP1) hS1 hL hV (VOKs.tail (VOKs.tail (VOKs.tail (VOKs.tail (VOKs.tail hT))))))
end
section
/-! CALLS, RETURNS, ENTRY -/
def argsK : Nat → List PV → List PV → (List PV → List PV → Prop) → Prop
  | 0, acc, st, k => k acc st
  | n + 1, acc, v :: st, k => argsK n (v :: acc) st k
  | _ + 1, _, [], _ => False
theorem argsK_elim : ∀ {n : Nat} {acc st : List PV} {k : List PV → List PV → Prop}, argsK n acc st k → ∃ as r, as.length = n ∧ st = as.reverse ++ r ∧ k (as ++ acc) r
  | 0, acc, st, k, h => ⟨[], st, rfl, rfl, h⟩
  | n + 1, acc, [], k, h => h.elim
  | n + 1, acc, v :: st, k, h => by
    obtain ⟨as, r, h1, h2, h3⟩ := argsK_elim (n := n) (acc := v :: acc) (st := st) h
    refine ⟨as ++ [v], r, by simp [h1], by simp [h2], ?_⟩
    rw [List.append_assoc]
    exact h3
def iCI (t : Nat) (M' : MD) (na n : Nat) : PI := fun _ ls st μ K => argsK na [] st fun as r => s1 r fun u r => pT t u fun c => w8 r (MetP M' ((t, c) :: as) μ (fun x μ' => K n ls (x :: r) μ'))
def iCV (t : Nat) (M' : MD) (na n : Nat) : PI := fun _ ls st μ K => argsK na [] st fun as r => s1 r fun u r => pT t u fun c => w8 r (MetP M' ((t, c) :: as) μ (fun _ μ' => K n ls r μ'))
def iCS (M' : MD) (na n : Nat) : PI := fun _ ls st μ K => argsK na [] st fun as r => w8 r (MetP M' as μ (fun x μ' => K n ls (x :: r) μ'))
def iCSV (M' : MD) (na n : Nat) : PI := fun _ ls st μ K => argsK na [] st fun as r => w8 r (MetP M' as μ (fun _ μ' => K n ls r μ'))
def iRI : PI := fun Q _ st μ _ => s1 st fun v r => pI v fun z => match r with
  | [] => Q (0, z) μ
  | _ :: _ => False
def iRZ : PI := fun Q _ st μ _ => s1 st fun v r => pI v fun z => match r with
  | [] => (z = 0 ∨ z = 1) ∧ Q (0, z) μ
  | _ :: _ => False
def iRV : PI := fun Q _ st μ _ => match st with
  | [] => Q (9, 0) μ
  | _ :: _ => False
def iRA : PI := fun Q _ st μ _ => s1 st fun v r => pR v (match r with
  | [] => Q v μ
  | _ :: _ => False)
theorem AA.mono {w : Nat} {ad : Nat → Nat} {a b : Nat} (h : a ≤ b) : ∀ q, AA w ad b q → AA w ad a q := fun q hq => hq.elim Or.inl (fun h2 => Or.inr (Nat.le_trans h h2))
theorem call_go {p : Program} {l : Launch} {e : Env} {R : Room} {s : State} {m : MethodId} {args : Array Value} {below : List Frame} {meth : Method} {c : Code} {H : Heap} {locs : List Loc} {Q : State → Prop} {pc : Nat} {ls : Array Slot} {rest st0 : List Value} {a : Array Value} {w : Nat} {ad sv : Nat → Nat} {D : va_G} {cT : Nat → ClassId} {rt : Option FieldType} {P : PV → Mem → Prop}
    (hr : va_Run p l e R s m args below meth c H locs 0 0 0 0 (F0 m pc ls st0) rest (PostW w ad sv D cT H.size rt P a) (AA w ad H.size)) (hS : va_S (AA w ad s.heap.size) s.heap H locs)
    (kk : ∀ (r : PV) (μ' : Mem) (H1 : Heap) (locs1 : List Loc), TOK rt r → VOK w r → P r μ' → va_P D vwCl (wsW w ad cT μ') H1 → va_S (AA w ad s.heap.size) s.heap H1 locs1 → W p l e R s m args below meth c H1 locs1 0 0 Q (F0 m (pc + 3) ls ((rv ad sv r).toList ++ rest))) : W p l e R s m args below meth c H locs 0 0 Q (F0 m pc ls st0) := by
  intro T hT X
  obtain ⟨v, st₀, t, T', L, h0, X', hL, e1, e2, ⟨⟨r, μ', hv, htk, hvk, hp, hb⟩, hz, hk⟩, st⟩ := hr T hT X
  cases hv
  rw [h0] at hz hk
  have hmono := AA.mono (w := w) (ad := ad) hS.1
  obtain ⟨t2, a1, b1⟩ := kk r μ' T'.heap (locs ++ L) htk hvk hp (by rw [e1]; exact hb)
    ⟨Nat.le_trans hS.1 (by rw [e1]; exact hz), fun q h1 h2 => by rw [e1, hk q (Nat.lt_of_lt_of_le h1 hS.1) (fun z => h2 (hmono q z))]; exact hS.2.1 q h1 h2, fun q hq => by
      rcases List.mem_append.mp hq with h | h
      · exact hS.2.2 q h
      · exact hmono _ (hL q h)⟩ T' rfl X'
  exact ⟨t2, st t2 a1, b1⟩
theorem PreW.blind {w : Nat} {ad sv : Nat → Nat} {D : va_G} {cT : Nat → ClassId} {sz : Nat} {as : List PV} {μ : Mem} : FrameBlind (PreW w ad sv D cT sz as μ) := by
  intro a U g mk q
  obtain ⟨q0, q1, qP, qK, qD, qN, qS⟩ := q
  exact ⟨q0, q1, qP, va_K.moved (u := U) (U := U.calling g mk a) (Vm.Alike.refl U.vm) qK, qD, NW.same (u := U) rfl qN, Stt.moved (u := U) (U := U.calling g mk a) (Vm.Alike.refl U.vm) qS⟩
theorem PreW.at {M : MD} {ad sv : Nat → Nat} {D : va_G} {cT : Nat → ClassId} {p : Program} {s : State} {m : MethodId} {args : Array Value} {meth : Method} {c : Code} {H : Heap} {locs : List Loc} {as : List PV} {μ : Mem} (C : Cx M ad sv D cT p s m args meth c) (hP : va_P D vwCl (wsW M.1 ad cT μ) H) (hS : va_S (AA M.1 ad s.heap.size) s.heap H locs) : ∀ U : State, U.heap = H → s.WarmedH U.vm → PreW M.1 ad sv D cT H.size as μ (as.map (cv ad sv)).toArray U := by
  obtain ⟨hx, hb, hml, hr, hlk, hown, hts, hnw, hK0, hAD, hst⟩ := C
  intro U hU hW
  refine ⟨rfl, by rw [hU], by rw [hU]; exact hP, va_K.moved hW.alike hK0, ⟨hAD.1, fun _ _ => trivial⟩, hnw.warm hW, ?_⟩
  rw [hU]
  exact Stt.moved hW.alike ((hst.kept (fun a h1 h2 => hS.2.1 a h1 h2)).narrow (AA.mono hS.1))
/-- a method's link: its own, or a nest mate's -/
def ML (own : String) (index : Nat) (y : MethodName) : Prop := Cond.methodLink own index y ∈ gW ∨ ∃ host, Cond.methodLinkNest own index y host ∈ nWs
/-- what a call needs to know of the callee -/
def MK (M' : MD) (na : Nat) : Prop := mCode M' ∈ gW ∧ Cond.initialized M'.2.2.1.cls ∈ gW ∧ (M'.2.2.1.cls ≠ "java/lang/invoke/MethodHandle" ∧ M'.2.2.1.cls ≠ "java/lang/invoke/VarHandle" ∧ (parseMethodDescriptor M'.2.2.1.desc).map (fun d => d.parameters.length) = some na) ∧ M'.2.2.2.2.1 ≤ 21
theorem good_gW {M M' : MD} (h : mCode M' ∈ gW) : GoodIn (mCode M :: gW) (mCode M' :: gW) := by
  intro q hq
  have hq2 : q ∈ gW := by
    rcases List.mem_cons.mp hq with rfl | h2
    · exact h
    · exact h2
  exact ⟨List.mem_cons_of_mem _ hq2, good_of_word (gW_good q hq2)⟩
theorem VOKs.app {w : Nat} {as r : List PV} (h : ∀ u ∈ as.reverse ++ r, VOK w u) : (∀ u ∈ as, VOK w u) ∧ ∀ u ∈ r, VOK w u := ⟨fun u hu => h u (List.mem_append_left _ (List.mem_reverse.mpr hu)), fun u hu => h u (List.mem_append_right _ hu)⟩
theorem lv_room2 {m : MethodId} {pc : Nat} {la : Array Slot} {st : List Value} {ad sv : Nat → Nat} {r : List PV} (h : wsum r ≤ 8) : 2 * (F0 m pc la st).monitorRoom + ((r.map (cv ad sv)).map fun v => v.category).sum ≤ 8 := lv_room (by rw [wsum_cat]; exact h)
theorem TOK_rv {ad sv : Nat → Nat} {r : PV} {t : FieldType} (h : TOK (some t) r) : rv ad sv r = some (cv ad sv r) := by
  unfold rv
  rw [if_neg]
  intro h9
  cases t <;> simp [TOK] at h <;> omega
theorem TOK_rn {ad sv : Nat → Nat} {r : PV} (h : TOK none r) : rv ad sv r = none := by
  unfold rv
  rw [if_pos (show r.1 = 9 from h)]
theorem s_callI {M M' : MD} {pc n t na index N : Nat} {T : u_T} {ty0 : Nat → FieldType} (ci : Nat) (hC : CLS ci M'.2.2.1.cls T N ty0) (ht : t = 100 + ci) (hw : M'.1 = M.1) (hlv : M'.2.1 + 1 ≤ M.2.1) (hk : MK M' na) (hrt : ∃ ty, M'.2.2.2.2.2 = some ty) (hi : Cond.instanceMethod M'.2.2.1 ∈ gW) (hse : Cond.selects M'.2.2.1.cls M'.2.2.1 M'.2.2.1 ∈ gW) (hl : ML M.2.2.1.cls index M'.2.2.1) (hd : decode M.2.2.2.1 pc = .ok (.invokevirtual index, 3)) (hn : n = pc + 3) : Sound M pc (iCI t M' na n) := by
  subst ht
  subst hn
  intro Q ls st μ K hK h
  obtain ⟨as, r0, hlen, rfl, h1⟩ := argsK_elim h
  obtain ⟨u, r, rfl, h2⟩ := s1_elim h1
  obtain ⟨c0, rfl, h3⟩ := pT_elim h2
  obtain ⟨hw8, h4⟩ := w8_elim h3
  rw [List.append_nil] at h4
  intro l ad sv D cT p e s m args below meth c C H locs la hP hS hL hV hT
  obtain ⟨hx, hb, hml, hr, hlk, hown, hts, hnw, hK0, hAD, hst⟩ := id C
  obtain ⟨hva, hvr0⟩ := VOKs.app hT
  have hvc := VOKs.head hvr0
  have hvr := VOKs.tail hvr0
  have kk : ∀ (x : PV) (μ' : Mem) (H1 : Heap) (locs1 : List Loc), TOK M'.2.2.2.2.2 x → VOK M.1 x → K (pc + 3) ls (x :: r) μ' → va_P D vwCl (wsW M.1 ad cT μ') H1 → va_S (AA M.1 ad s.heap.size) s.heap H1 locs1 → W p l e (rmL M.2.1) s m args below meth c H1 locs1 0 0 (MQ below (PostW M.1 ad sv D cT s.heap.size M.2.2.2.2.2 Q) args s 0 0 (AA M.1 ad s.heap.size)) (F0 m (pc + 3) la ((rv ad sv x).toList ++ r.map (cv ad sv))) := by
    intro x μ' H1 locs1 hx1 hx2 hx3 hx4 hx5
    obtain ⟨ty, hty⟩ := hrt
    rw [hty] at hx1
    rw [TOK_rv hx1]
    exact hK _ _ _ _ hx3 l ad sv D cT p e s m args below meth c C H1 locs1 la hx4 hx5 hL hV (VOKs.cons hvr hx2)
  have hM := h4 (by rw [hw]; exact VOKs.cons hva hvc) l ad sv D cT H.size
  rw [hw] at hM
  obtain ⟨k, rfl, hkk, hlay⟩ := vok hvc (by omega)
  have hlay : lay M.1 k = ci := by omega
  have hget := wsW_get (w := M.1) (ad := ad) (cT := cT) (μ := μ) hkk
  rw [cellE_obj hlay hC.2.2.2.2] at hget
  have hrecv := va_recv hK0 hP hC.1 hget
  have hpre := PreW.at (as := (100 + ci, (k : Int)) :: as) C hP hS
  rw [List.map_cons, cv_ref ad sv (by omega : 100 ≤ 100 + ci), Int.toNat_natCast] at hpre
  have hroom : (rmL M'.2.1).frames + 1 ≤ (rmL M.2.1).frames ∧ 8 + (M'.2.2.2.2.1 + 11) + (rmL M'.2.1).locals ≤ (rmL M.2.1).locals := ⟨hlv, by show 8 + (M'.2.2.2.2.1 + 11) + 40 * M'.2.1 ≤ 40 * M.2.1; have := hk.2.2.2; omega⟩
  have hG := good_gW (M := M) hk.1
  have hstk : List.map (cv ad sv) (as.reverse ++ (100 + ci, (k : Int)) :: r) = (as.map (cv ad sv)).reverse ++ .ref (ad k) :: r.map (cv ad sv) := by
    rw [List.map_append, List.map_reverse, List.map_cons, cv_ref ad sv (by omega : 100 ≤ 100 + ci), Int.toNat_natCast]
  rcases hl with hl | ⟨host, hl⟩
  · have cw := callB_of (R := rmL M.2.1) na hts hG rfl rfl rfl (hts _ (List.mem_cons_of_mem _ hk.2.1)) (hts _ (List.mem_cons_of_mem _ hl)) hk.2.2.1 hroom
    exact call_go (va_runV (As := as.map (cv ad sv)) (rest := r.map (cv ad sv)) ⟨hx, hb, hml, hown, hts⟩ hM ⟨cw, hts _ (List.mem_cons_of_mem _ hi), hts _ (List.mem_cons_of_mem _ hse)⟩ ⟨PreW.blind, hrecv, hpre⟩ rfl (by rw [List.length_map]; exact hlen) hL.1 hstk (lv_room2 hw8) hd ⟨Nat.le_refl _, Nat.le_refl _⟩) hS kk
  · have cw := va_cnB (R := rmL M.2.1) (host := host) na hts hG rfl rfl rfl (hnw _ hl) (hts _ (List.mem_cons_of_mem _ hk.2.1)) hk.2.2.1 hroom
    exact call_go (va_runVN (As := as.map (cv ad sv)) (rest := r.map (cv ad sv)) ⟨hx, hb, hml, hown, hts⟩ hM ⟨cw, hts _ (List.mem_cons_of_mem _ hi), hts _ (List.mem_cons_of_mem _ hse)⟩ ⟨PreW.blind, hrecv, hpre⟩ rfl (by rw [List.length_map]; exact hlen) hL.1 hstk (lv_room2 hw8) hd ⟨Nat.le_refl _, Nat.le_refl _⟩) hS kk
theorem s_callV {M M' : MD} {pc n t na index N : Nat} {T : u_T} {ty0 : Nat → FieldType} (ci : Nat) (hC : CLS ci M'.2.2.1.cls T N ty0) (ht : t = 100 + ci) (hw : M'.1 = M.1) (hlv : M'.2.1 + 1 ≤ M.2.1) (hk : MK M' na) (hrt : M'.2.2.2.2.2 = none) (hi : Cond.instanceMethod M'.2.2.1 ∈ gW) (hse : Cond.selects M'.2.2.1.cls M'.2.2.1 M'.2.2.1 ∈ gW) (hl : ML M.2.2.1.cls index M'.2.2.1) (hd : decode M.2.2.2.1 pc = .ok (.invokevirtual index, 3)) (hn : n = pc + 3) : Sound M pc (iCV t M' na n) := by
  subst ht
  subst hn
  intro Q ls st μ K hK h
  obtain ⟨as, r0, hlen, rfl, h1⟩ := argsK_elim h
  obtain ⟨u, r, rfl, h2⟩ := s1_elim h1
  obtain ⟨c0, rfl, h3⟩ := pT_elim h2
  obtain ⟨hw8, h4⟩ := w8_elim h3
  rw [List.append_nil] at h4
  intro l ad sv D cT p e s m args below meth c C H locs la hP hS hL hV hT
  obtain ⟨hx, hb, hml, hr, hlk, hown, hts, hnw, hK0, hAD, hst⟩ := id C
  obtain ⟨hva, hvr0⟩ := VOKs.app hT
  have hvc := VOKs.head hvr0
  have hvr := VOKs.tail hvr0
  have kk : ∀ (x : PV) (μ' : Mem) (H1 : Heap) (locs1 : List Loc), TOK M'.2.2.2.2.2 x → VOK M.1 x → K (pc + 3) ls r μ' → va_P D vwCl (wsW M.1 ad cT μ') H1 → va_S (AA M.1 ad s.heap.size) s.heap H1 locs1 → W p l e (rmL M.2.1) s m args below meth c H1 locs1 0 0 (MQ below (PostW M.1 ad sv D cT s.heap.size M.2.2.2.2.2 Q) args s 0 0 (AA M.1 ad s.heap.size)) (F0 m (pc + 3) la ((rv ad sv x).toList ++ r.map (cv ad sv))) := by
    intro x μ' H1 locs1 hx1 hx2 hx3 hx4 hx5
    rw [hrt] at hx1
    rw [TOK_rn hx1]
    exact hK _ _ _ _ hx3 l ad sv D cT p e s m args below meth c C H1 locs1 la hx4 hx5 hL hV hvr
  have hM := h4 (by rw [hw]; exact VOKs.cons hva hvc) l ad sv D cT H.size
  rw [hw] at hM
  obtain ⟨k, rfl, hkk, hlay⟩ := vok hvc (by omega)
  have hlay : lay M.1 k = ci := by omega
  have hget := wsW_get (w := M.1) (ad := ad) (cT := cT) (μ := μ) hkk
  rw [cellE_obj hlay hC.2.2.2.2] at hget
  have hrecv := va_recv hK0 hP hC.1 hget
  have hpre := PreW.at (as := (100 + ci, (k : Int)) :: as) C hP hS
  rw [List.map_cons, cv_ref ad sv (by omega : 100 ≤ 100 + ci), Int.toNat_natCast] at hpre
  have hroom : (rmL M'.2.1).frames + 1 ≤ (rmL M.2.1).frames ∧ 8 + (M'.2.2.2.2.1 + 11) + (rmL M'.2.1).locals ≤ (rmL M.2.1).locals := ⟨hlv, by show 8 + (M'.2.2.2.2.1 + 11) + 40 * M'.2.1 ≤ 40 * M.2.1; have := hk.2.2.2; omega⟩
  have hG := good_gW (M := M) hk.1
  have hstk : List.map (cv ad sv) (as.reverse ++ (100 + ci, (k : Int)) :: r) = (as.map (cv ad sv)).reverse ++ .ref (ad k) :: r.map (cv ad sv) := by
    rw [List.map_append, List.map_reverse, List.map_cons, cv_ref ad sv (by omega : 100 ≤ 100 + ci), Int.toNat_natCast]
  rcases hl with hl | ⟨host, hl⟩
  · have cw := callB_of (R := rmL M.2.1) na hts hG rfl rfl rfl (hts _ (List.mem_cons_of_mem _ hk.2.1)) (hts _ (List.mem_cons_of_mem _ hl)) hk.2.2.1 hroom
    exact call_go (va_runV (As := as.map (cv ad sv)) (rest := r.map (cv ad sv)) ⟨hx, hb, hml, hown, hts⟩ hM ⟨cw, hts _ (List.mem_cons_of_mem _ hi), hts _ (List.mem_cons_of_mem _ hse)⟩ ⟨PreW.blind, hrecv, hpre⟩ rfl (by rw [List.length_map]; exact hlen) hL.1 hstk (lv_room2 hw8) hd ⟨Nat.le_refl _, Nat.le_refl _⟩) hS kk
  · have cw := va_cnB (R := rmL M.2.1) (host := host) na hts hG rfl rfl rfl (hnw _ hl) (hts _ (List.mem_cons_of_mem _ hk.2.1)) hk.2.2.1 hroom
    exact call_go (va_runVN (As := as.map (cv ad sv)) (rest := r.map (cv ad sv)) ⟨hx, hb, hml, hown, hts⟩ hM ⟨cw, hts _ (List.mem_cons_of_mem _ hi), hts _ (List.mem_cons_of_mem _ hse)⟩ ⟨PreW.blind, hrecv, hpre⟩ rfl (by rw [List.length_map]; exact hlen) hL.1 hstk (lv_room2 hw8) hd ⟨Nat.le_refl _, Nat.le_refl _⟩) hS kk
theorem s_callS {M M' : MD} {pc n na index : Nat} (hw : M'.1 = M.1) (hlv : M'.2.1 + 1 ≤ M.2.1) (hk : MK M' na) (hrt : ∃ ty, M'.2.2.2.2.2 = some ty) (hi : Cond.static M'.2.2.1 ∈ gW) (hl : ML M.2.2.1.cls index M'.2.2.1) (hd : decode M.2.2.2.1 pc = .ok (.invokestatic index, 3)) (hn : n = pc + 3) : Sound M pc (iCS M' na n) := by
  subst hn
  intro Q ls st μ K hK h
  obtain ⟨as, r, hlen, rfl, h1⟩ := argsK_elim h
  obtain ⟨hw8, h4⟩ := w8_elim h1
  rw [List.append_nil] at h4
  intro l ad sv D cT p e s m args below meth c C H locs la hP hS hL hV hT
  obtain ⟨hx, hb, hml, hr, hlk, hown, hts, hnw, hK0, hAD, hst⟩ := id C
  obtain ⟨hva, hvr⟩ := VOKs.app hT
  have kk : ∀ (x : PV) (μ' : Mem) (H1 : Heap) (locs1 : List Loc), TOK M'.2.2.2.2.2 x → VOK M.1 x → K (pc + 3) ls (x :: r) μ' → va_P D vwCl (wsW M.1 ad cT μ') H1 → va_S (AA M.1 ad s.heap.size) s.heap H1 locs1 → W p l e (rmL M.2.1) s m args below meth c H1 locs1 0 0 (MQ below (PostW M.1 ad sv D cT s.heap.size M.2.2.2.2.2 Q) args s 0 0 (AA M.1 ad s.heap.size)) (F0 m (pc + 3) la ((rv ad sv x).toList ++ r.map (cv ad sv))) := by
    intro x μ' H1 locs1 hx1 hx2 hx3 hx4 hx5
    obtain ⟨ty, hty⟩ := hrt
    rw [hty] at hx1
    rw [TOK_rv hx1]
    exact hK _ _ _ _ hx3 l ad sv D cT p e s m args below meth c C H1 locs1 la hx4 hx5 hL hV (VOKs.cons hvr hx2)
  have hM := h4 (by rw [hw]; exact hva) l ad sv D cT H.size
  rw [hw] at hM
  have hpre := PreW.at (as := as) C hP hS
  have hroom : (rmL M'.2.1).frames + 1 ≤ (rmL M.2.1).frames ∧ 8 + (M'.2.2.2.2.1 + 11) + (rmL M'.2.1).locals ≤ (rmL M.2.1).locals := ⟨hlv, by show 8 + (M'.2.2.2.2.1 + 11) + 40 * M'.2.1 ≤ 40 * M.2.1; have := hk.2.2.2; omega⟩
  have hG := good_gW (M := M) hk.1
  have hstk : List.map (cv ad sv) (as.reverse ++ r) = (as.map (cv ad sv)).reverse ++ r.map (cv ad sv) := by
    rw [List.map_append, List.map_reverse]
  rcases hl with hl | ⟨host, hl⟩
  · have cw := callB_of (R := rmL M.2.1) na hts hG rfl rfl rfl (hts _ (List.mem_cons_of_mem _ hk.2.1)) (hts _ (List.mem_cons_of_mem _ hl)) hk.2.2.1 hroom
    exact call_go (va_runS (As := as.map (cv ad sv)) (rest := r.map (cv ad sv)) ⟨hx, hb, hml, hown, hts⟩ hM ⟨cw, hts _ (List.mem_cons_of_mem _ hi)⟩ ⟨PreW.blind, hpre⟩ rfl (by rw [List.length_map]; exact hlen) hL.1 hstk (lv_room2 hw8) hd ⟨Nat.le_refl _, Nat.le_refl _⟩) hS kk
  · have cw := va_cnB (R := rmL M.2.1) (host := host) na hts hG rfl rfl rfl (hnw _ hl) (hts _ (List.mem_cons_of_mem _ hk.2.1)) hk.2.2.1 hroom
    exact call_go (va_runSN (As := as.map (cv ad sv)) (rest := r.map (cv ad sv)) ⟨hx, hb, hml, hown, hts⟩ hM ⟨cw, hts _ (List.mem_cons_of_mem _ hi), trivial⟩ ⟨PreW.blind, hpre⟩ rfl (by rw [List.length_map]; exact hlen) hL.1 hstk (lv_room2 hw8) hd ⟨Nat.le_refl _, Nat.le_refl _⟩) hS kk
theorem s_callSV {M M' : MD} {pc n na index : Nat} (hw : M'.1 = M.1) (hlv : M'.2.1 + 1 ≤ M.2.1) (hk : MK M' na) (hrt : M'.2.2.2.2.2 = none) (hi : Cond.static M'.2.2.1 ∈ gW) (hl : ML M.2.2.1.cls index M'.2.2.1) (hd : decode M.2.2.2.1 pc = .ok (.invokestatic index, 3)) (hn : n = pc + 3) : Sound M pc (iCSV M' na n) := by
  subst hn
  intro Q ls st μ K hK h
  obtain ⟨as, r, hlen, rfl, h1⟩ := argsK_elim h
  obtain ⟨hw8, h4⟩ := w8_elim h1
  rw [List.append_nil] at h4
  intro l ad sv D cT p e s m args below meth c C H locs la hP hS hL hV hT
  obtain ⟨hx, hb, hml, hr, hlk, hown, hts, hnw, hK0, hAD, hst⟩ := id C
  obtain ⟨hva, hvr⟩ := VOKs.app hT
  have kk : ∀ (x : PV) (μ' : Mem) (H1 : Heap) (locs1 : List Loc), TOK M'.2.2.2.2.2 x → VOK M.1 x → K (pc + 3) ls r μ' → va_P D vwCl (wsW M.1 ad cT μ') H1 → va_S (AA M.1 ad s.heap.size) s.heap H1 locs1 → W p l e (rmL M.2.1) s m args below meth c H1 locs1 0 0 (MQ below (PostW M.1 ad sv D cT s.heap.size M.2.2.2.2.2 Q) args s 0 0 (AA M.1 ad s.heap.size)) (F0 m (pc + 3) la ((rv ad sv x).toList ++ r.map (cv ad sv))) := by
    intro x μ' H1 locs1 hx1 hx2 hx3 hx4 hx5
    rw [hrt] at hx1
    rw [TOK_rn hx1]
    exact hK _ _ _ _ hx3 l ad sv D cT p e s m args below meth c C H1 locs1 la hx4 hx5 hL hV hvr
  have hM := h4 (by rw [hw]; exact hva) l ad sv D cT H.size
  rw [hw] at hM
  have hpre := PreW.at (as := as) C hP hS
  have hroom : (rmL M'.2.1).frames + 1 ≤ (rmL M.2.1).frames ∧ 8 + (M'.2.2.2.2.1 + 11) + (rmL M'.2.1).locals ≤ (rmL M.2.1).locals := ⟨hlv, by show 8 + (M'.2.2.2.2.1 + 11) + 40 * M'.2.1 ≤ 40 * M.2.1; have := hk.2.2.2; omega⟩
  have hG := good_gW (M := M) hk.1
  have hstk : List.map (cv ad sv) (as.reverse ++ r) = (as.map (cv ad sv)).reverse ++ r.map (cv ad sv) := by
    rw [List.map_append, List.map_reverse]
  rcases hl with hl | ⟨host, hl⟩
  · have cw := callB_of (R := rmL M.2.1) na hts hG rfl rfl rfl (hts _ (List.mem_cons_of_mem _ hk.2.1)) (hts _ (List.mem_cons_of_mem _ hl)) hk.2.2.1 hroom
    exact call_go (va_runS (As := as.map (cv ad sv)) (rest := r.map (cv ad sv)) ⟨hx, hb, hml, hown, hts⟩ hM ⟨cw, hts _ (List.mem_cons_of_mem _ hi)⟩ ⟨PreW.blind, hpre⟩ rfl (by rw [List.length_map]; exact hlen) hL.1 hstk (lv_room2 hw8) hd ⟨Nat.le_refl _, Nat.le_refl _⟩) hS kk
  · have cw := va_cnB (R := rmL M.2.1) (host := host) na hts hG rfl rfl rfl (hnw _ hl) (hts _ (List.mem_cons_of_mem _ hk.2.1)) hk.2.2.1 hroom
    exact call_go (va_runSN (As := as.map (cv ad sv)) (rest := r.map (cv ad sv)) ⟨hx, hb, hml, hown, hts⟩ hM ⟨cw, hts _ (List.mem_cons_of_mem _ hi), trivial⟩ ⟨PreW.blind, hpre⟩ rfl (by rw [List.length_map]; exact hlen) hL.1 hstk (lv_room2 hw8) hd ⟨Nat.le_refl _, Nat.le_refl _⟩) hS kk
theorem s_ireturn {M : MD} {pc : Nat} (hrt : M.2.2.2.2.2 = some .int) (hd : decode M.2.2.2.1 pc = .ok (.ireturn, 1)) : Sound M pc iRI := by
  intro Q ls st μ K hK h
  obtain ⟨v, r, rfl, h1⟩ := s1_elim h
  obtain ⟨z, rfl, h2⟩ := pI_elim h1
  intro l ad sv D cT p e s m args below meth c C H locs la hP hS hL hV hT
  obtain ⟨hx, hb, hml, hr, hlk, hown, hts, hnw, hK0, hAD, hst⟩ := id C
  cases r with
  | cons q r => exact h2.elim
  | nil =>
    rw [hrt] at hr
    rw [hrt]
    exact W.iret (v := Int32.ofInt z) hx hb hr (fun t ht hW => ⟨⟨(0, z), μ, rfl, rfl, VOK_lt (Nat.zero_lt_succ 99), h2, by rw [ht]; exact hP⟩, hS.F ht⟩) hS.2.2 hd hlk
theorem s_zreturn {M : MD} {pc : Nat} (hrt : M.2.2.2.2.2 = some .boolean) (hd : decode M.2.2.2.1 pc = .ok (.ireturn, 1)) : Sound M pc iRZ := by
  intro Q ls st μ K hK h
  obtain ⟨v, r, rfl, h1⟩ := s1_elim h
  obtain ⟨z, rfl, h2⟩ := pI_elim h1
  intro l ad sv D cT p e s m args below meth c C H locs la hP hS hL hV hT
  obtain ⟨hx, hb, hml, hr, hlk, hown, hts, hnw, hK0, hAD, hst⟩ := id C
  cases r with
  | cons q r => exact h2.elim
  | nil =>
    obtain ⟨hz, h2⟩ := h2
    rw [hrt] at hr
    rw [hrt]
    exact W.zret (v := Int32.ofInt z) hx hb hr (by rcases hz with rfl | rfl <;> rfl) (fun t ht hW => ⟨⟨(0, z), μ, rfl, rfl, VOK_lt (Nat.zero_lt_succ 99), h2, by rw [ht]; exact hP⟩, hS.F ht⟩) hS.2.2 hd hlk
theorem s_return {M : MD} {pc : Nat} (hrt : M.2.2.2.2.2 = none) (hd : decode M.2.2.2.1 pc = .ok (.return_, 1)) : Sound M pc iRV := by
  intro Q ls st μ K hK h
  intro l ad sv D cT p e s m args below meth c C H locs la hP hS hL hV hT
  obtain ⟨hx, hb, hml, hr, hlk, hown, hts, hnw, hK0, hAD, hst⟩ := id C
  cases st with
  | cons q r => exact h.elim
  | nil =>
    rw [hrt] at hr
    rw [hrt]
    exact W.vret hx hb hr (fun t ht hW => ⟨⟨(9, 0), μ, rfl, rfl, VOK_lt (by show (9 : Nat) < 100; omega), h, by rw [ht]; exact hP⟩, hS.F ht⟩) hS.2.2 hd hlk
theorem s_areturn {M : MD} {pc : Nat} {Cn : String} (hrt : M.2.2.2.2.2 = some (.object Cn)) (hd : decode M.2.2.2.1 pc = .ok (.areturn, 1)) : Sound M pc iRA := by
  intro Q ls st μ K hK h
  obtain ⟨⟨t0, z⟩, r, rfl, h1⟩ := s1_elim h
  obtain ⟨ht0, h2⟩ := pR_elim h1
  intro l ad sv D cT p e s m args below meth c C H locs la hP hS hL hV hT
  obtain ⟨hx, hb, hml, hr, hlk, hown, hts, hnw, hK0, hAD, hst⟩ := id C
  cases r with
  | cons q r => exact h2.elim
  | nil =>
    rw [hrt] at hr
    rw [hrt]
    have hvk := VOKs.head hT
    rw [List.map_cons, List.map_nil, cv_ref ad sv ht0]
    exact W.aret (v := .ref (ad z.toNat)) hx hb hr (Or.inl ⟨Cn, rfl⟩) (Or.inr ⟨_, rfl⟩) (fun t ht hW => ⟨⟨(t0, z), μ, by dsimp only at ht0; unfold rv; rw [if_neg (by dsimp only; omega), cv_ref ad sv ht0], ht0, hvk, h2, by rw [ht]; exact hP⟩, hS.F ht⟩) hS.2.2 hd hlk
theorem lv_args_mem (ad sv : Nat → Nat) : ∀ (as : List PV) (b : Nat), (∀ v ∈ as, v.1 ≠ 1) → ∀ (i : Nat) (v : PV), as[i]? = some v → (b + i, cv ad sv v) ∈ lv_args b (as.map (cv ad sv))
  | [], b, _, i, v, h => by simp at h
  | u :: as, b, hn, 0, v, h => by
    cases h
    exact List.mem_cons_self
  | u :: as, b, hn, i + 1, v, h => by
    rw [List.getElem?_cons_succ] at h
    have h1 := lv_args_mem ad sv as (b + 1) (fun q hq => hn q (List.mem_cons_of_mem _ hq)) i v h
    rw [List.map_cons]
    unfold lv_args
    rw [if_neg (by rw [cv_cat (hn u List.mem_cons_self)]; decide), show b + (i + 1) = b + 1 + i by omega]
    exact List.mem_cons_of_mem _ h1
theorem lg_sl_len (ad sv : Nat → Nat) : ∀ (as : List PV), (∀ v ∈ as, v.1 ≠ 1) → (lg_sl (as.map (cv ad sv))).length = as.length
  | [], _ => rfl
  | u :: as, hn => by
    have h1 := lg_sl_len ad sv as (fun q hq => hn q (List.mem_cons_of_mem _ hq))
    unfold lg_sl at h1 ⊢
    rw [List.map_cons, List.flatMap_cons, List.length_append, h1, if_neg (by rw [cv_cat (hn u List.mem_cons_self)]; decide)]
    simp; omega
def noL : List PV → Bool
  | [] => true
  | v :: r => match Nat.beq v.1 1 with
    | true => false
    | false => noL r
theorem noL_spec : ∀ {as : List PV}, noL as = true → ∀ v ∈ as, v.1 ≠ 1
  | [], _, v, hv => by cases hv
  | u :: as, h, v, hv => by
    unfold noL at h
    cases hb : Nat.beq u.1 1 with
    | true => rw [hb] at h; cases h
    | false =>
      rw [hb] at h
      rcases List.mem_cons.mp hv with rfl | hv
      · exact Nat.ne_of_beq_eq_false hb
      · exact noL_spec h v hv
def pads (n : Nat) : List PV := List.replicate n (9, 0)
theorem MetP.of {M : MD} {as ls : List PV} {μ : Mem} {P : PV → Mem → Prop} (hy : plainName M.2.2.1.cls = true) (hno : noL as = true) (hle : as.length ≤ M.2.2.2.2.1) (hls : ls = as ++ pads (M.2.2.2.2.1 - as.length)) (h : (∀ v ∈ as, VOK M.1 v) → OkE M 0 ls [] μ P) : MetP M as μ P := by
  subst hls
  intro hv l ad sv D cT sz
  have hno2 := noL_spec hno
  refine Met.ofW (cc := M.2.2.2.1) (maxL := M.2.2.2.2.1) (ret := M.2.2.2.2.2) hy rfl ?_
  intro p e s m args below meth c s₁ B hml hpre
  obtain ⟨rfl, rfl, hP, hK, hD0, hN, hSt⟩ := hpre
  have hlen := lg_sl_len ad sv as hno2
  have hl := lv_entry (as.map (cv ad sv)) (n := M.2.2.2.2.1) (by rw [hlen]; exact hle)
  rw [lg_entry_eq]
  generalize (lg_sl (as.map (cv ad sv)) ++ List.replicate (M.2.2.2.2.1 - (lg_sl (as.map (cv ad sv))).length) Slot.unset).toArray = la at hl ⊢
  have hLH : LH ad sv la M.2.2.2.2.1 (as ++ pads (M.2.2.2.2.1 - as.length)) := by
    refine ⟨hl.1, hl.2.1, by simp [pads]; omega, fun i v hi h9 h1 => ?_⟩
    by_cases hil : i < as.length
    · rw [List.getElem?_append_left hil] at hi
      have h2 := lv_args_mem ad sv as 0 hno2 i v hi
      rw [Nat.zero_add] at h2
      exact hl.2.2 _ h2
    · rw [List.getElem?_append_right (by omega)] at hi
      have h2 := List.mem_of_getElem? hi
      exact absurd (congrArg Prod.fst (List.eq_of_mem_replicate h2)) h9
  have hvl : ∀ v ∈ as ++ pads (M.2.2.2.2.1 - as.length), VOK M.1 v := by
    intro v hv2
    rcases List.mem_append.mp hv2 with h2 | h2
    · exact hv v h2
    · rw [List.eq_of_mem_replicate h2]
      exact VOK_lt (by show (9 : Nat) < 100; omega)
  exact h hv l ad sv D cT p e s m _ below meth c ⟨B.exec, B.bytes, hml, B.returns, B.notSynchronized, findClass_of_methodNamed B.named, atoms_spec (ws := mCode M :: gW) B.pre, hN, hK, hD0.self _, hSt⟩ s.heap [] la hP va_S.rf hLH hvl (fun v hv2 => by cases hv2)
end
