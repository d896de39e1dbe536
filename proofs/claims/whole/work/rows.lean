section
-- ===== PART A: goes FIRST, ahead of the names: the tables' words, and 'selects' of the private methods out of them =====
/-- a private method of a class that the tables say can be made, by its rows of tables_1 -/
def lw_okq (q : MethodName × Nat) : Prop := (q.1.cls ≠ "java/lang/invoke/MethodHandle" ∧ q.1.cls ≠ "java/lang/invoke/VarHandle") ∧ Cond.instantiable q.1.cls q.2 ∈ tables_1 ∧ Cond.privateMethod q.1 ∈ tables_1 ∧ Cond.instanceMethod q.1 ∈ tables_1
theorem lw_p0 : lw_okq (⟨"NapVoyage", "planOf", "(I)LNapVoyage$Plan;"⟩, 6) := ⟨⟨by decide +kernel, by decide +kernel⟩, List.mem_of_getElem? (i := 15) (by decide +kernel), List.mem_of_getElem? (i := 217) (by decide +kernel), List.mem_of_getElem? (i := 218) (by decide +kernel)⟩
theorem lw_p1 : lw_okq (⟨"NapVoyage$Way", "hasRoom", "(I)Z"⟩, 7) := ⟨⟨by decide +kernel, by decide +kernel⟩, List.mem_of_getElem? (i := 30) (by decide +kernel), List.mem_of_getElem? (i := 224) (by decide +kernel), List.mem_of_getElem? (i := 225) (by decide +kernel)⟩
theorem lw_p2 : lw_okq (⟨"NapVoyage$Way", "lengthen", "(III)V"⟩, 7) := ⟨⟨by decide +kernel, by decide +kernel⟩, List.mem_of_getElem? (i := 30) (by decide +kernel), List.mem_of_getElem? (i := 228) (by decide +kernel), List.mem_of_getElem? (i := 229) (by decide +kernel)⟩
theorem lw_p3 : lw_okq (⟨"NapVoyage$Plan", "forget", "()V"⟩, 4) := ⟨⟨by decide +kernel, by decide +kernel⟩, List.mem_of_getElem? (i := 109) (by decide +kernel), List.mem_of_getElem? (i := 233) (by decide +kernel), List.mem_of_getElem? (i := 234) (by decide +kernel)⟩
theorem lw_p4 : lw_okq (⟨"NapVoyage$Way", "shorten", "()V"⟩, 7) := ⟨⟨by decide +kernel, by decide +kernel⟩, List.mem_of_getElem? (i := 30) (by decide +kernel), List.mem_of_getElem? (i := 241) (by decide +kernel), List.mem_of_getElem? (i := 242) (by decide +kernel)⟩
theorem lw_p5 : lw_okq (⟨"NapVoyage", "wayOf", "(I)LNapVoyage$Way;"⟩, 6) := ⟨⟨by decide +kernel, by decide +kernel⟩, List.mem_of_getElem? (i := 15) (by decide +kernel), List.mem_of_getElem? (i := 249) (by decide +kernel), List.mem_of_getElem? (i := 250) (by decide +kernel)⟩
theorem lw_p6 : lw_okq (⟨"NapVoyage$Way", "hasLeg", "(I)Z"⟩, 7) := ⟨⟨by decide +kernel, by decide +kernel⟩, List.mem_of_getElem? (i := 30) (by decide +kernel), List.mem_of_getElem? (i := 253) (by decide +kernel), List.mem_of_getElem? (i := 254) (by decide +kernel)⟩
theorem lw_p7 : lw_okq (⟨"NapVoyage$Way", "firstHourOf", "(I)I"⟩, 7) := ⟨⟨by decide +kernel, by decide +kernel⟩, List.mem_of_getElem? (i := 30) (by decide +kernel), List.mem_of_getElem? (i := 258) (by decide +kernel), List.mem_of_getElem? (i := 259) (by decide +kernel)⟩
theorem lw_p8 : lw_okq (⟨"NapVoyage$Naps", "changeGive", "(II)I"⟩, 2) := ⟨⟨by decide +kernel, by decide +kernel⟩, List.mem_of_getElem? (i := 66) (by decide +kernel), List.mem_of_getElem? (i := 266) (by decide +kernel), List.mem_of_getElem? (i := 267) (by decide +kernel)⟩
theorem lw_p9 : lw_okq (⟨"NapVoyage$Naps", "changeDeep", "(II)I"⟩, 2) := ⟨⟨by decide +kernel, by decide +kernel⟩, List.mem_of_getElem? (i := 66) (by decide +kernel), List.mem_of_getElem? (i := 271) (by decide +kernel), List.mem_of_getElem? (i := 272) (by decide +kernel)⟩
theorem lw_p10 : lw_okq (⟨"NapVoyage", "forgetPlans", "()V"⟩, 6) := ⟨⟨by decide +kernel, by decide +kernel⟩, List.mem_of_getElem? (i := 15) (by decide +kernel), List.mem_of_getElem? (i := 275) (by decide +kernel), List.mem_of_getElem? (i := 276) (by decide +kernel)⟩
theorem lw_p11 : lw_okq (⟨"NapVoyage$Way", "hasHour", "(I)Z"⟩, 7) := ⟨⟨by decide +kernel, by decide +kernel⟩, List.mem_of_getElem? (i := 30) (by decide +kernel), List.mem_of_getElem? (i := 283) (by decide +kernel), List.mem_of_getElem? (i := 284) (by decide +kernel)⟩
theorem lw_p12 : lw_okq (⟨"NapVoyage$Way", "lets", "(II)Z"⟩, 7) := ⟨⟨by decide +kernel, by decide +kernel⟩, List.mem_of_getElem? (i := 30) (by decide +kernel), List.mem_of_getElem? (i := 293) (by decide +kernel), List.mem_of_getElem? (i := 294) (by decide +kernel)⟩
theorem lw_p13 : lw_okq (⟨"NapVoyage$Way", "squallAt", "(I)Z"⟩, 7) := ⟨⟨by decide +kernel, by decide +kernel⟩, List.mem_of_getElem? (i := 30) (by decide +kernel), List.mem_of_getElem? (i := 298) (by decide +kernel), List.mem_of_getElem? (i := 299) (by decide +kernel)⟩
theorem lw_p14 : lw_okq (⟨"NapVoyage$Naps", "owedBehind", "(LNapVoyage$Way;III)I"⟩, 2) := ⟨⟨by decide +kernel, by decide +kernel⟩, List.mem_of_getElem? (i := 66) (by decide +kernel), List.mem_of_getElem? (i := 302) (by decide +kernel), List.mem_of_getElem? (i := 303) (by decide +kernel)⟩
theorem lw_p15 : lw_okq (⟨"NapVoyage$Way", "shipsAt", "(I)I"⟩, 7) := ⟨⟨by decide +kernel, by decide +kernel⟩, List.mem_of_getElem? (i := 30) (by decide +kernel), List.mem_of_getElem? (i := 320) (by decide +kernel), List.mem_of_getElem? (i := 321) (by decide +kernel)⟩
def lw_privs_1 : List (MethodName × Nat) := [(⟨"NapVoyage", "planOf", "(I)LNapVoyage$Plan;"⟩, 6), (⟨"NapVoyage$Way", "hasRoom", "(I)Z"⟩, 7), (⟨"NapVoyage$Way", "lengthen", "(III)V"⟩, 7), (⟨"NapVoyage$Plan", "forget", "()V"⟩, 4), (⟨"NapVoyage$Way", "shorten", "()V"⟩, 7), (⟨"NapVoyage", "wayOf", "(I)LNapVoyage$Way;"⟩, 6), (⟨"NapVoyage$Way", "hasLeg", "(I)Z"⟩, 7), (⟨"NapVoyage$Way", "firstHourOf", "(I)I"⟩, 7), (⟨"NapVoyage$Naps", "changeGive", "(II)I"⟩, 2), (⟨"NapVoyage$Naps", "changeDeep", "(II)I"⟩, 2), (⟨"NapVoyage", "forgetPlans", "()V"⟩, 6), (⟨"NapVoyage$Way", "hasHour", "(I)Z"⟩, 7), (⟨"NapVoyage$Way", "lets", "(II)Z"⟩, 7), (⟨"NapVoyage$Way", "squallAt", "(I)Z"⟩, 7), (⟨"NapVoyage$Naps", "owedBehind", "(LNapVoyage$Way;III)I"⟩, 2), (⟨"NapVoyage$Way", "shipsAt", "(I)I"⟩, 7)]
theorem lw_r1 : ∀ q ∈ lw_privs_1, lw_okq q := List.forall_mem_cons.mpr ⟨lw_p0, List.forall_mem_cons.mpr ⟨lw_p1, List.forall_mem_cons.mpr ⟨lw_p2, List.forall_mem_cons.mpr ⟨lw_p3, List.forall_mem_cons.mpr ⟨lw_p4, List.forall_mem_cons.mpr ⟨lw_p5, List.forall_mem_cons.mpr ⟨lw_p6, List.forall_mem_cons.mpr ⟨lw_p7, List.forall_mem_cons.mpr ⟨lw_p8, List.forall_mem_cons.mpr ⟨lw_p9, List.forall_mem_cons.mpr ⟨lw_p10, List.forall_mem_cons.mpr ⟨lw_p11, List.forall_mem_cons.mpr ⟨lw_p12, List.forall_mem_cons.mpr ⟨lw_p13, List.forall_mem_cons.mpr ⟨lw_p14, List.forall_mem_cons.mpr ⟨lw_p15, fun _ h => absurd h List.not_mem_nil⟩⟩⟩⟩⟩⟩⟩⟩⟩⟩⟩⟩⟩⟩⟩⟩
theorem lw_p16 : lw_okq (⟨"NapVoyage$Naps", "blindOf", "(II)I"⟩, 2) := ⟨⟨by decide +kernel, by decide +kernel⟩, List.mem_of_getElem? (i := 66) (by decide +kernel), List.mem_of_getElem? (i := 324) (by decide +kernel), List.mem_of_getElem? (i := 325) (by decide +kernel)⟩
theorem lw_p17 : lw_okq (⟨"NapVoyage$Naps", "blindAlone", "(II)I"⟩, 2) := ⟨⟨by decide +kernel, by decide +kernel⟩, List.mem_of_getElem? (i := 66) (by decide +kernel), List.mem_of_getElem? (i := 328) (by decide +kernel), List.mem_of_getElem? (i := 329) (by decide +kernel)⟩
theorem lw_p18 : lw_okq (⟨"NapVoyage$Pad", "write", "(I)Z"⟩, 2) := ⟨⟨by decide +kernel, by decide +kernel⟩, List.mem_of_getElem? (i := 131) (by decide +kernel), List.mem_of_getElem? (i := 336) (by decide +kernel), List.mem_of_getElem? (i := 337) (by decide +kernel)⟩
theorem lw_p19 : lw_okq (⟨"NapVoyage$Pad", "faultPlace", "()I"⟩, 2) := ⟨⟨by decide +kernel, by decide +kernel⟩, List.mem_of_getElem? (i := 131) (by decide +kernel), List.mem_of_getElem? (i := 348) (by decide +kernel), List.mem_of_getElem? (i := 349) (by decide +kernel)⟩
theorem lw_p20 : lw_okq (⟨"NapVoyage$Boat", "setOut", "(LNapVoyage$Way;II)V"⟩, 6) := ⟨⟨by decide +kernel, by decide +kernel⟩, List.mem_of_getElem? (i := 147) (by decide +kernel), List.mem_of_getElem? (i := 365) (by decide +kernel), List.mem_of_getElem? (i := 366) (by decide +kernel)⟩
theorem lw_p21 : lw_okq (⟨"NapVoyage$Boat", "sailBy", "(LNapVoyage$Pad;)I"⟩, 6) := ⟨⟨by decide +kernel, by decide +kernel⟩, List.mem_of_getElem? (i := 147) (by decide +kernel), List.mem_of_getElem? (i := 369) (by decide +kernel), List.mem_of_getElem? (i := 370) (by decide +kernel)⟩
theorem lw_p22 : lw_okq (⟨"NapVoyage$Boat", "doDeed", "(I)Z"⟩, 6) := ⟨⟨by decide +kernel, by decide +kernel⟩, List.mem_of_getElem? (i := 147) (by decide +kernel), List.mem_of_getElem? (i := 374) (by decide +kernel), List.mem_of_getElem? (i := 375) (by decide +kernel)⟩
theorem lw_p23 : lw_okq (⟨"NapVoyage$Track", "pass", "(II)V"⟩, 3) := ⟨⟨by decide +kernel, by decide +kernel⟩, List.mem_of_getElem? (i := 153) (by decide +kernel), List.mem_of_getElem? (i := 384) (by decide +kernel), List.mem_of_getElem? (i := 385) (by decide +kernel)⟩
theorem lw_p24 : lw_okq (⟨"NapVoyage$Track", "safe", "()I"⟩, 3) := ⟨⟨by decide +kernel, by decide +kernel⟩, List.mem_of_getElem? (i := 153) (by decide +kernel), List.mem_of_getElem? (i := 392) (by decide +kernel), List.mem_of_getElem? (i := 393) (by decide +kernel)⟩
theorem lw_p25 : lw_okq (⟨"NapVoyage$Track", "riskiest", "()I"⟩, 3) := ⟨⟨by decide +kernel, by decide +kernel⟩, List.mem_of_getElem? (i := 153) (by decide +kernel), List.mem_of_getElem? (i := 402) (by decide +kernel), List.mem_of_getElem? (i := 403) (by decide +kernel)⟩
theorem lw_p26 : lw_okq (⟨"NapVoyage$Plan", "reaches", "(II)Z"⟩, 4) := ⟨⟨by decide +kernel, by decide +kernel⟩, List.mem_of_getElem? (i := 109) (by decide +kernel), List.mem_of_getElem? (i := 410) (by decide +kernel), List.mem_of_getElem? (i := 411) (by decide +kernel)⟩
theorem lw_p27 : lw_okq (⟨"NapVoyage$Plan", "bestFrom", "(IIII)I"⟩, 4) := ⟨⟨by decide +kernel, by decide +kernel⟩, List.mem_of_getElem? (i := 109) (by decide +kernel), List.mem_of_getElem? (i := 415) (by decide +kernel), List.mem_of_getElem? (i := 416) (by decide +kernel)⟩
theorem lw_p28 : lw_okq (⟨"NapVoyage$Plan", "fill", "(III)V"⟩, 4) := ⟨⟨by decide +kernel, by decide +kernel⟩, List.mem_of_getElem? (i := 109) (by decide +kernel), List.mem_of_getElem? (i := 419) (by decide +kernel), List.mem_of_getElem? (i := 420) (by decide +kernel)⟩
theorem lw_p29 : lw_okq (⟨"NapVoyage$Plan", "planeOf", "(III)LNapVoyage$Plane;"⟩, 4) := ⟨⟨by decide +kernel, by decide +kernel⟩, List.mem_of_getElem? (i := 109) (by decide +kernel), List.mem_of_getElem? (i := 423) (by decide +kernel), List.mem_of_getElem? (i := 424) (by decide +kernel)⟩
theorem lw_p30 : lw_okq (⟨"NapVoyage$Plan", "spendable", "(III)I"⟩, 4) := ⟨⟨by decide +kernel, by decide +kernel⟩, List.mem_of_getElem? (i := 109) (by decide +kernel), List.mem_of_getElem? (i := 427) (by decide +kernel), List.mem_of_getElem? (i := 428) (by decide +kernel)⟩
theorem lw_p31 : lw_okq (⟨"NapVoyage$Step", "ready", "(LNapVoyage$Way;LNapVoyage$Naps;I)V"⟩, 3) := ⟨⟨by decide +kernel, by decide +kernel⟩, List.mem_of_getElem? (i := 93) (by decide +kernel), List.mem_of_getElem? (i := 444) (by decide +kernel), List.mem_of_getElem? (i := 445) (by decide +kernel)⟩
def lw_privs_2 : List (MethodName × Nat) := [(⟨"NapVoyage$Naps", "blindOf", "(II)I"⟩, 2), (⟨"NapVoyage$Naps", "blindAlone", "(II)I"⟩, 2), (⟨"NapVoyage$Pad", "write", "(I)Z"⟩, 2), (⟨"NapVoyage$Pad", "faultPlace", "()I"⟩, 2), (⟨"NapVoyage$Boat", "setOut", "(LNapVoyage$Way;II)V"⟩, 6), (⟨"NapVoyage$Boat", "sailBy", "(LNapVoyage$Pad;)I"⟩, 6), (⟨"NapVoyage$Boat", "doDeed", "(I)Z"⟩, 6), (⟨"NapVoyage$Track", "pass", "(II)V"⟩, 3), (⟨"NapVoyage$Track", "safe", "()I"⟩, 3), (⟨"NapVoyage$Track", "riskiest", "()I"⟩, 3), (⟨"NapVoyage$Plan", "reaches", "(II)Z"⟩, 4), (⟨"NapVoyage$Plan", "bestFrom", "(IIII)I"⟩, 4), (⟨"NapVoyage$Plan", "fill", "(III)V"⟩, 4), (⟨"NapVoyage$Plan", "planeOf", "(III)LNapVoyage$Plane;"⟩, 4), (⟨"NapVoyage$Plan", "spendable", "(III)I"⟩, 4), (⟨"NapVoyage$Step", "ready", "(LNapVoyage$Way;LNapVoyage$Naps;I)V"⟩, 3)]
theorem lw_r2 : ∀ q ∈ lw_privs_2, lw_okq q := List.forall_mem_cons.mpr ⟨lw_p16, List.forall_mem_cons.mpr ⟨lw_p17, List.forall_mem_cons.mpr ⟨lw_p18, List.forall_mem_cons.mpr ⟨lw_p19, List.forall_mem_cons.mpr ⟨lw_p20, List.forall_mem_cons.mpr ⟨lw_p21, List.forall_mem_cons.mpr ⟨lw_p22, List.forall_mem_cons.mpr ⟨lw_p23, List.forall_mem_cons.mpr ⟨lw_p24, List.forall_mem_cons.mpr ⟨lw_p25, List.forall_mem_cons.mpr ⟨lw_p26, List.forall_mem_cons.mpr ⟨lw_p27, List.forall_mem_cons.mpr ⟨lw_p28, List.forall_mem_cons.mpr ⟨lw_p29, List.forall_mem_cons.mpr ⟨lw_p30, List.forall_mem_cons.mpr ⟨lw_p31, fun _ h => absurd h List.not_mem_nil⟩⟩⟩⟩⟩⟩⟩⟩⟩⟩⟩⟩⟩⟩⟩⟩
theorem lw_p32 : lw_okq (⟨"NapVoyage$Step", "readyFor", "(LNapVoyage$Way;LNapVoyage$Naps;II)V"⟩, 3) := ⟨⟨by decide +kernel, by decide +kernel⟩, List.mem_of_getElem? (i := 93) (by decide +kernel), List.mem_of_getElem? (i := 448) (by decide +kernel), List.mem_of_getElem? (i := 449) (by decide +kernel)⟩
theorem lw_p33 : lw_okq (⟨"NapVoyage$Plan", "fillHour", "(III)V"⟩, 4) := ⟨⟨by decide +kernel, by decide +kernel⟩, List.mem_of_getElem? (i := 109) (by decide +kernel), List.mem_of_getElem? (i := 458) (by decide +kernel), List.mem_of_getElem? (i := 459) (by decide +kernel)⟩
theorem lw_p34 : lw_okq (⟨"NapVoyage$Plane", "put", "(II)V"⟩, 2) := ⟨⟨by decide +kernel, by decide +kernel⟩, List.mem_of_getElem? (i := 430) (by decide +kernel), List.mem_of_getElem? (i := 463) (by decide +kernel), List.mem_of_getElem? (i := 464) (by decide +kernel)⟩
theorem lw_p35 : lw_okq (⟨"NapVoyage$Plan", "planeBehind", "(IIII)LNapVoyage$Plane;"⟩, 4) := ⟨⟨by decide +kernel, by decide +kernel⟩, List.mem_of_getElem? (i := 109) (by decide +kernel), List.mem_of_getElem? (i := 467) (by decide +kernel), List.mem_of_getElem? (i := 468) (by decide +kernel)⟩
theorem lw_p36 : lw_okq (⟨"NapVoyage$Plan", "weigh", "(LNapVoyage$Plane;IILNapVoyage$Plane;)V"⟩, 4) := ⟨⟨by decide +kernel, by decide +kernel⟩, List.mem_of_getElem? (i := 109) (by decide +kernel), List.mem_of_getElem? (i := 474) (by decide +kernel), List.mem_of_getElem? (i := 475) (by decide +kernel)⟩
theorem lw_p37 : lw_okq (⟨"NapVoyage$Step", "safeBy", "(IILNapVoyage$Plane;)I"⟩, 3) := ⟨⟨by decide +kernel, by decide +kernel⟩, List.mem_of_getElem? (i := 93) (by decide +kernel), List.mem_of_getElem? (i := 478) (by decide +kernel), List.mem_of_getElem? (i := 479) (by decide +kernel)⟩
theorem lw_p38 : lw_okq (⟨"NapVoyage$Plane", "at", "(I)I"⟩, 2) := ⟨⟨by decide +kernel, by decide +kernel⟩, List.mem_of_getElem? (i := 430) (by decide +kernel), List.mem_of_getElem? (i := 482) (by decide +kernel), List.mem_of_getElem? (i := 483) (by decide +kernel)⟩
theorem lw_p39 : lw_okq (⟨"NapVoyage$Plan", "firstDeed", "(IIII)I"⟩, 4) := ⟨⟨by decide +kernel, by decide +kernel⟩, List.mem_of_getElem? (i := 109) (by decide +kernel), List.mem_of_getElem? (i := 492) (by decide +kernel), List.mem_of_getElem? (i := 493) (by decide +kernel)⟩
theorem lw_p40 : lw_okq (⟨"NapVoyage$Plan", "deedThere", "(IIII)I"⟩, 4) := ⟨⟨by decide +kernel, by decide +kernel⟩, List.mem_of_getElem? (i := 109) (by decide +kernel), List.mem_of_getElem? (i := 496) (by decide +kernel), List.mem_of_getElem? (i := 497) (by decide +kernel)⟩
theorem lw_p41 : lw_okq (⟨"NapVoyage$Plan", "follow", "(III)I"⟩, 4) := ⟨⟨by decide +kernel, by decide +kernel⟩, List.mem_of_getElem? (i := 109) (by decide +kernel), List.mem_of_getElem? (i := 508) (by decide +kernel), List.mem_of_getElem? (i := 509) (by decide +kernel)⟩
theorem lw_p42 : lw_okq (⟨"NapVoyage$Boat", "sailByThumb", "(I)V"⟩, 6) := ⟨⟨by decide +kernel, by decide +kernel⟩, List.mem_of_getElem? (i := 147) (by decide +kernel), List.mem_of_getElem? (i := 518) (by decide +kernel), List.mem_of_getElem? (i := 519) (by decide +kernel)⟩
theorem lw_p43 : lw_okq (⟨"NapVoyage$Boat", "thingByThumb", "(I)I"⟩, 6) := ⟨⟨by decide +kernel, by decide +kernel⟩, List.mem_of_getElem? (i := 147) (by decide +kernel), List.mem_of_getElem? (i := 522) (by decide +kernel), List.mem_of_getElem? (i := 523) (by decide +kernel)⟩
theorem lw_p44 : lw_okq (⟨"NapVoyage$Boat", "saidByThumb", "(I)Z"⟩, 6) := ⟨⟨by decide +kernel, by decide +kernel⟩, List.mem_of_getElem? (i := 147) (by decide +kernel), List.mem_of_getElem? (i := 526) (by decide +kernel), List.mem_of_getElem? (i := 527) (by decide +kernel)⟩
theorem lw_p45 : lw_okq (⟨"NapVoyage$Boat", "safeByTurns", "(LNapVoyage$Way;II)I"⟩, 6) := ⟨⟨by decide +kernel, by decide +kernel⟩, List.mem_of_getElem? (i := 147) (by decide +kernel), List.mem_of_getElem? (i := 547) (by decide +kernel), List.mem_of_getElem? (i := 548) (by decide +kernel)⟩
theorem lw_p46 : lw_okq (⟨"NapVoyage$Track", "struckBy", "(I)I"⟩, 3) := ⟨⟨by decide +kernel, by decide +kernel⟩, List.mem_of_getElem? (i := 153) (by decide +kernel), List.mem_of_getElem? (i := 574) (by decide +kernel), List.mem_of_getElem? (i := 575) (by decide +kernel)⟩
theorem lw_p47 : lw_okq (⟨"NapVoyage$Chart", "copy", "(LNapVoyage$Chart;)V"⟩, 2) := ⟨⟨by decide +kernel, by decide +kernel⟩, List.mem_of_getElem? (i := 23) (by decide +kernel), List.mem_of_getElem? (i := 586) (by decide +kernel), List.mem_of_getElem? (i := 587) (by decide +kernel)⟩
def lw_privs_3 : List (MethodName × Nat) := [(⟨"NapVoyage$Step", "readyFor", "(LNapVoyage$Way;LNapVoyage$Naps;II)V"⟩, 3), (⟨"NapVoyage$Plan", "fillHour", "(III)V"⟩, 4), (⟨"NapVoyage$Plane", "put", "(II)V"⟩, 2), (⟨"NapVoyage$Plan", "planeBehind", "(IIII)LNapVoyage$Plane;"⟩, 4), (⟨"NapVoyage$Plan", "weigh", "(LNapVoyage$Plane;IILNapVoyage$Plane;)V"⟩, 4), (⟨"NapVoyage$Step", "safeBy", "(IILNapVoyage$Plane;)I"⟩, 3), (⟨"NapVoyage$Plane", "at", "(I)I"⟩, 2), (⟨"NapVoyage$Plan", "firstDeed", "(IIII)I"⟩, 4), (⟨"NapVoyage$Plan", "deedThere", "(IIII)I"⟩, 4), (⟨"NapVoyage$Plan", "follow", "(III)I"⟩, 4), (⟨"NapVoyage$Boat", "sailByThumb", "(I)V"⟩, 6), (⟨"NapVoyage$Boat", "thingByThumb", "(I)I"⟩, 6), (⟨"NapVoyage$Boat", "saidByThumb", "(I)Z"⟩, 6), (⟨"NapVoyage$Boat", "safeByTurns", "(LNapVoyage$Way;II)I"⟩, 6), (⟨"NapVoyage$Track", "struckBy", "(I)I"⟩, 3), (⟨"NapVoyage$Chart", "copy", "(LNapVoyage$Chart;)V"⟩, 2)]
theorem lw_r3 : ∀ q ∈ lw_privs_3, lw_okq q := List.forall_mem_cons.mpr ⟨lw_p32, List.forall_mem_cons.mpr ⟨lw_p33, List.forall_mem_cons.mpr ⟨lw_p34, List.forall_mem_cons.mpr ⟨lw_p35, List.forall_mem_cons.mpr ⟨lw_p36, List.forall_mem_cons.mpr ⟨lw_p37, List.forall_mem_cons.mpr ⟨lw_p38, List.forall_mem_cons.mpr ⟨lw_p39, List.forall_mem_cons.mpr ⟨lw_p40, List.forall_mem_cons.mpr ⟨lw_p41, List.forall_mem_cons.mpr ⟨lw_p42, List.forall_mem_cons.mpr ⟨lw_p43, List.forall_mem_cons.mpr ⟨lw_p44, List.forall_mem_cons.mpr ⟨lw_p45, List.forall_mem_cons.mpr ⟨lw_p46, List.forall_mem_cons.mpr ⟨lw_p47, fun _ h => absurd h List.not_mem_nil⟩⟩⟩⟩⟩⟩⟩⟩⟩⟩⟩⟩⟩⟩⟩⟩
theorem lw_p48 : lw_okq (⟨"NapVoyage$Way", "copy", "(LNapVoyage$Way;)V"⟩, 7) := ⟨⟨by decide +kernel, by decide +kernel⟩, List.mem_of_getElem? (i := 30) (by decide +kernel), List.mem_of_getElem? (i := 590) (by decide +kernel), List.mem_of_getElem? (i := 591) (by decide +kernel)⟩
theorem lw_p49 : lw_okq (⟨"NapVoyage$Naps", "copy", "(LNapVoyage$Naps;)V"⟩, 2) := ⟨⟨by decide +kernel, by decide +kernel⟩, List.mem_of_getElem? (i := 66) (by decide +kernel), List.mem_of_getElem? (i := 597) (by decide +kernel), List.mem_of_getElem? (i := 598) (by decide +kernel)⟩
theorem lw_p50 : lw_okq (⟨"NapVoyageModel", "layHours", "(I)V"⟩, 27) := ⟨⟨by decide +kernel, by decide +kernel⟩, List.mem_of_getElem? (i := 610) (by decide +kernel), List.mem_of_getElem? (i := 714) (by decide +kernel), List.mem_of_getElem? (i := 715) (by decide +kernel)⟩
theorem lw_p51 : lw_okq (⟨"NapVoyageModel", "isHour", "(II)Z"⟩, 27) := ⟨⟨by decide +kernel, by decide +kernel⟩, List.mem_of_getElem? (i := 610) (by decide +kernel), List.mem_of_getElem? (i := 737) (by decide +kernel), List.mem_of_getElem? (i := 738) (by decide +kernel)⟩
theorem lw_p52 : lw_okq (⟨"NapVoyageModel", "canBe", "(III)Z"⟩, 27) := ⟨⟨by decide +kernel, by decide +kernel⟩, List.mem_of_getElem? (i := 610) (by decide +kernel), List.mem_of_getElem? (i := 746) (by decide +kernel), List.mem_of_getElem? (i := 747) (by decide +kernel)⟩
theorem lw_p53 : lw_okq (⟨"NapVoyageModel", "isSquall", "(II)Z"⟩, 27) := ⟨⟨by decide +kernel, by decide +kernel⟩, List.mem_of_getElem? (i := 610) (by decide +kernel), List.mem_of_getElem? (i := 750) (by decide +kernel), List.mem_of_getElem? (i := 751) (by decide +kernel)⟩
theorem lw_p54 : lw_okq (⟨"NapVoyageModel", "owedBehind", "(IIII)I"⟩, 27) := ⟨⟨by decide +kernel, by decide +kernel⟩, List.mem_of_getElem? (i := 610) (by decide +kernel), List.mem_of_getElem? (i := 754) (by decide +kernel), List.mem_of_getElem? (i := 755) (by decide +kernel)⟩
theorem lw_p55 : lw_okq (⟨"NapVoyageModel", "riskOf", "(IIIII)I"⟩, 27) := ⟨⟨by decide +kernel, by decide +kernel⟩, List.mem_of_getElem? (i := 610) (by decide +kernel), List.mem_of_getElem? (i := 765) (by decide +kernel), List.mem_of_getElem? (i := 766) (by decide +kernel)⟩
theorem lw_p56 : lw_okq (⟨"NapVoyageModel", "blindOf", "(III)I"⟩, 27) := ⟨⟨by decide +kernel, by decide +kernel⟩, List.mem_of_getElem? (i := 610) (by decide +kernel), List.mem_of_getElem? (i := 769) (by decide +kernel), List.mem_of_getElem? (i := 770) (by decide +kernel)⟩
theorem lw_p57 : lw_okq (⟨"NapVoyageModel", "judgeAll", "(III)V"⟩, 27) := ⟨⟨by decide +kernel, by decide +kernel⟩, List.mem_of_getElem? (i := 610) (by decide +kernel), List.mem_of_getElem? (i := 796) (by decide +kernel), List.mem_of_getElem? (i := 797) (by decide +kernel)⟩
theorem lw_p58 : lw_okq (⟨"NapVoyageModel", "doThing", "(III)Z"⟩, 27) := ⟨⟨by decide +kernel, by decide +kernel⟩, List.mem_of_getElem? (i := 610) (by decide +kernel), List.mem_of_getElem? (i := 800) (by decide +kernel), List.mem_of_getElem? (i := 801) (by decide +kernel)⟩
theorem lw_p59 : lw_okq (⟨"NapVoyageModel", "passHour", "(III)V"⟩, 27) := ⟨⟨by decide +kernel, by decide +kernel⟩, List.mem_of_getElem? (i := 610) (by decide +kernel), List.mem_of_getElem? (i := 804) (by decide +kernel), List.mem_of_getElem? (i := 805) (by decide +kernel)⟩
theorem lw_p60 : lw_okq (⟨"NapVoyageModel", "safeOfTimes", "()I"⟩, 27) := ⟨⟨by decide +kernel, by decide +kernel⟩, List.mem_of_getElem? (i := 610) (by decide +kernel), List.mem_of_getElem? (i := 808) (by decide +kernel), List.mem_of_getElem? (i := 809) (by decide +kernel)⟩
theorem lw_p61 : lw_okq (⟨"NapVoyageModel", "mostRisk", "()I"⟩, 27) := ⟨⟨by decide +kernel, by decide +kernel⟩, List.mem_of_getElem? (i := 610) (by decide +kernel), List.mem_of_getElem? (i := 817) (by decide +kernel), List.mem_of_getElem? (i := 818) (by decide +kernel)⟩
theorem lw_p62 : lw_okq (⟨"NapVoyageModel", "isPlace", "(IIIII)Z"⟩, 27) := ⟨⟨by decide +kernel, by decide +kernel⟩, List.mem_of_getElem? (i := 610) (by decide +kernel), List.mem_of_getElem? (i := 825) (by decide +kernel), List.mem_of_getElem? (i := 826) (by decide +kernel)⟩
theorem lw_p63 : lw_okq (⟨"NapVoyageModel", "bestOf", "(IIIII)I"⟩, 27) := ⟨⟨by decide +kernel, by decide +kernel⟩, List.mem_of_getElem? (i := 610) (by decide +kernel), List.mem_of_getElem? (i := 829) (by decide +kernel), List.mem_of_getElem? (i := 830) (by decide +kernel)⟩
def lw_privs_4 : List (MethodName × Nat) := [(⟨"NapVoyage$Way", "copy", "(LNapVoyage$Way;)V"⟩, 7), (⟨"NapVoyage$Naps", "copy", "(LNapVoyage$Naps;)V"⟩, 2), (⟨"NapVoyageModel", "layHours", "(I)V"⟩, 27), (⟨"NapVoyageModel", "isHour", "(II)Z"⟩, 27), (⟨"NapVoyageModel", "canBe", "(III)Z"⟩, 27), (⟨"NapVoyageModel", "isSquall", "(II)Z"⟩, 27), (⟨"NapVoyageModel", "owedBehind", "(IIII)I"⟩, 27), (⟨"NapVoyageModel", "riskOf", "(IIIII)I"⟩, 27), (⟨"NapVoyageModel", "blindOf", "(III)I"⟩, 27), (⟨"NapVoyageModel", "judgeAll", "(III)V"⟩, 27), (⟨"NapVoyageModel", "doThing", "(III)Z"⟩, 27), (⟨"NapVoyageModel", "passHour", "(III)V"⟩, 27), (⟨"NapVoyageModel", "safeOfTimes", "()I"⟩, 27), (⟨"NapVoyageModel", "mostRisk", "()I"⟩, 27), (⟨"NapVoyageModel", "isPlace", "(IIIII)Z"⟩, 27), (⟨"NapVoyageModel", "bestOf", "(IIIII)I"⟩, 27)]
theorem lw_r4 : ∀ q ∈ lw_privs_4, lw_okq q := List.forall_mem_cons.mpr ⟨lw_p48, List.forall_mem_cons.mpr ⟨lw_p49, List.forall_mem_cons.mpr ⟨lw_p50, List.forall_mem_cons.mpr ⟨lw_p51, List.forall_mem_cons.mpr ⟨lw_p52, List.forall_mem_cons.mpr ⟨lw_p53, List.forall_mem_cons.mpr ⟨lw_p54, List.forall_mem_cons.mpr ⟨lw_p55, List.forall_mem_cons.mpr ⟨lw_p56, List.forall_mem_cons.mpr ⟨lw_p57, List.forall_mem_cons.mpr ⟨lw_p58, List.forall_mem_cons.mpr ⟨lw_p59, List.forall_mem_cons.mpr ⟨lw_p60, List.forall_mem_cons.mpr ⟨lw_p61, List.forall_mem_cons.mpr ⟨lw_p62, List.forall_mem_cons.mpr ⟨lw_p63, fun _ h => absurd h List.not_mem_nil⟩⟩⟩⟩⟩⟩⟩⟩⟩⟩⟩⟩⟩⟩⟩⟩
theorem lw_p64 : lw_okq (⟨"NapVoyageModel", "lay", "(I)V"⟩, 27) := ⟨⟨by decide +kernel, by decide +kernel⟩, List.mem_of_getElem? (i := 610) (by decide +kernel), List.mem_of_getElem? (i := 833) (by decide +kernel), List.mem_of_getElem? (i := 834) (by decide +kernel)⟩
theorem lw_p65 : lw_okq (⟨"NapVoyageModel", "valueOf", "(IIIIIII)I"⟩, 27) := ⟨⟨by decide +kernel, by decide +kernel⟩, List.mem_of_getElem? (i := 610) (by decide +kernel), List.mem_of_getElem? (i := 840) (by decide +kernel), List.mem_of_getElem? (i := 841) (by decide +kernel)⟩
theorem lw_p66 : lw_okq (⟨"NapVoyageModel", "doesOf", "(IIIII)I"⟩, 27) := ⟨⟨by decide +kernel, by decide +kernel⟩, List.mem_of_getElem? (i := 610) (by decide +kernel), List.mem_of_getElem? (i := 851) (by decide +kernel), List.mem_of_getElem? (i := 852) (by decide +kernel)⟩
theorem lw_p67 : lw_okq (⟨"NapVoyageModel", "thumbAll", "(III)V"⟩, 27) := ⟨⟨by decide +kernel, by decide +kernel⟩, List.mem_of_getElem? (i := 610) (by decide +kernel), List.mem_of_getElem? (i := 864) (by decide +kernel), List.mem_of_getElem? (i := 865) (by decide +kernel)⟩
theorem lw_p68 : lw_okq (⟨"NapVoyageModel", "thumbDoes", "(IIII)I"⟩, 27) := ⟨⟨by decide +kernel, by decide +kernel⟩, List.mem_of_getElem? (i := 610) (by decide +kernel), List.mem_of_getElem? (i := 868) (by decide +kernel), List.mem_of_getElem? (i := 869) (by decide +kernel)⟩
theorem lw_p69 : lw_okq (⟨"NapVoyageModel", "twoOf", "(III)I"⟩, 27) := ⟨⟨by decide +kernel, by decide +kernel⟩, List.mem_of_getElem? (i := 610) (by decide +kernel), List.mem_of_getElem? (i := 888) (by decide +kernel), List.mem_of_getElem? (i := 889) (by decide +kernel)⟩
theorem lw_p70 : lw_okq (⟨"NapVoyageModel", "thousandth", "()I"⟩, 27) := ⟨⟨by decide +kernel, by decide +kernel⟩, List.mem_of_getElem? (i := 610) (by decide +kernel), List.mem_of_getElem? (i := 913) (by decide +kernel), List.mem_of_getElem? (i := 914) (by decide +kernel)⟩
theorem lw_p71 : lw_okq (⟨"NapVoyageModel", "passAll", "()V"⟩, 27) := ⟨⟨by decide +kernel, by decide +kernel⟩, List.mem_of_getElem? (i := 610) (by decide +kernel), List.mem_of_getElem? (i := 922) (by decide +kernel), List.mem_of_getElem? (i := 923) (by decide +kernel)⟩
theorem lw_p72 : lw_okq (⟨"NapVoyageModel", "pass", "(I)I"⟩, 27) := ⟨⟨by decide +kernel, by decide +kernel⟩, List.mem_of_getElem? (i := 610) (by decide +kernel), List.mem_of_getElem? (i := 926) (by decide +kernel), List.mem_of_getElem? (i := 927) (by decide +kernel)⟩
def lw_privs_5 : List (MethodName × Nat) := [(⟨"NapVoyageModel", "lay", "(I)V"⟩, 27), (⟨"NapVoyageModel", "valueOf", "(IIIIIII)I"⟩, 27), (⟨"NapVoyageModel", "doesOf", "(IIIII)I"⟩, 27), (⟨"NapVoyageModel", "thumbAll", "(III)V"⟩, 27), (⟨"NapVoyageModel", "thumbDoes", "(IIII)I"⟩, 27), (⟨"NapVoyageModel", "twoOf", "(III)I"⟩, 27), (⟨"NapVoyageModel", "thousandth", "()I"⟩, 27), (⟨"NapVoyageModel", "passAll", "()V"⟩, 27), (⟨"NapVoyageModel", "pass", "(I)I"⟩, 27)]
theorem lw_r5 : ∀ q ∈ lw_privs_5, lw_okq q := List.forall_mem_cons.mpr ⟨lw_p64, List.forall_mem_cons.mpr ⟨lw_p65, List.forall_mem_cons.mpr ⟨lw_p66, List.forall_mem_cons.mpr ⟨lw_p67, List.forall_mem_cons.mpr ⟨lw_p68, List.forall_mem_cons.mpr ⟨lw_p69, List.forall_mem_cons.mpr ⟨lw_p70, List.forall_mem_cons.mpr ⟨lw_p71, List.forall_mem_cons.mpr ⟨lw_p72, fun _ h => absurd h List.not_mem_nil⟩⟩⟩⟩⟩⟩⟩⟩⟩
def lw_privs : List (MethodName × Nat) := lw_privs_1 ++ (lw_privs_2 ++ (lw_privs_3 ++ (lw_privs_4 ++ (lw_privs_5))))
def lw_tbl : List Cond := k2_sels lw_privs ++ tables_1
theorem lw_privs_ok : ∀ q ∈ lw_privs, lw_okq q := by
  show ∀ q ∈ lw_privs_1 ++ (lw_privs_2 ++ (lw_privs_3 ++ (lw_privs_4 ++ (lw_privs_5)))), lw_okq q
  exact List.forall_mem_append.mpr ⟨lw_r1, List.forall_mem_append.mpr ⟨lw_r2, List.forall_mem_append.mpr ⟨lw_r3, List.forall_mem_append.mpr ⟨lw_r4, lw_r5⟩⟩⟩⟩
def RX0 : String := "NapVoyage$Boat"
def TX0 : u_T := fun k => match k with
  | 0 => ("NapVoyage$Boat", "naps", "LNapVoyage$Naps;", true)
  | 1 => ("NapVoyage$Boat", "track", "LNapVoyage$Track;", true)
  | 2 => ("NapVoyage$Boat", "way", "LNapVoyage$Way;", false)
  | 3 => ("NapVoyage$Boat", "hour", "I", false)
  | 4 => ("NapVoyage$Boat", "owes", "I", false)
  | _ => ("NapVoyage$Boat", "charge", "I", false)
def tyX0 : Nat → FieldType := fun k => match k with
  | 0 => .object "NapVoyage$Naps"
  | 1 => .object "NapVoyage$Track"
  | 2 => .object "NapVoyage$Way"
  | 3 => .int
  | 4 => .int
  | _ => .int
theorem nmX0 : ∀ a, a < 6 → ∀ b, b < 6 → a ≠ b → (TX0 a).2.1 ≠ (TX0 b).2.1 := by decide +kernel
theorem tyX0_ok : ∀ k, k < 6 → parseFieldDescriptor (TX0 k).2.2.1 = some (tyX0 k) := by decide +kernel
abbrev cX0_init : ByteArray := prog_2_method_1_code
def yX0_init : MethodName := ⟨RX0, "<init>", "(LNapVoyage$Naps;)V"⟩
abbrev cX0_setOut : ByteArray := prog_2_method_2_code
def yX0_setOut : MethodName := ⟨RX0, "setOut", "(LNapVoyage$Way;II)V"⟩
abbrev cX0_sailBy : ByteArray := prog_2_method_3_code
def yX0_sailBy : MethodName := ⟨RX0, "sailBy", "(LNapVoyage$Pad;)I"⟩
abbrev cX0_sailByThumb : ByteArray := prog_2_method_4_code
def yX0_sailByThumb : MethodName := ⟨RX0, "sailByThumb", "(I)V"⟩
abbrev cX0_thingByThumb : ByteArray := prog_2_method_5_code
def yX0_thingByThumb : MethodName := ⟨RX0, "thingByThumb", "(I)I"⟩
abbrev cX0_saidByThumb : ByteArray := prog_2_method_6_code
def yX0_saidByThumb : MethodName := ⟨RX0, "saidByThumb", "(I)Z"⟩
abbrev cX0_doDeed : ByteArray := prog_2_method_7_code
def yX0_doDeed : MethodName := ⟨RX0, "doDeed", "(I)Z"⟩
abbrev cX0_safeByTurns : ByteArray := prog_2_method_8_code
def yX0_safeByTurns : MethodName := ⟨RX0, "safeByTurns", "(LNapVoyage$Way;II)I"⟩
def RX1 : String := "NapVoyage$Chart"
def TX1 : u_T := fun k => match k with
  | 0 => ("NapVoyage$Chart", "ways", "[LNapVoyage$Way;", true)
  | _ => ("NapVoyage$Chart", "naps", "LNapVoyage$Naps;", true)
def tyX1 : Nat → FieldType := fun k => match k with
  | 0 => .array (.object "NapVoyage$Way")
  | _ => .object "NapVoyage$Naps"
theorem nmX1 : ∀ a, a < 2 → ∀ b, b < 2 → a ≠ b → (TX1 a).2.1 ≠ (TX1 b).2.1 := by decide +kernel
theorem tyX1_ok : ∀ k, k < 2 → parseFieldDescriptor (TX1 k).2.2.1 = some (tyX1 k) := by decide +kernel
abbrev cX1_init : ByteArray := prog_3_method_1_code
def yX1_init : MethodName := ⟨RX1, "<init>", "()V"⟩
abbrev cX1_copy : ByteArray := prog_3_method_2_code
def yX1_copy : MethodName := ⟨RX1, "copy", "(LNapVoyage$Chart;)V"⟩
def RX2 : String := "NapVoyage$Naps"
def TX2 : u_T := fun k => match k with
  | 0 => ("NapVoyage$Naps", "give", "[I", true)
  | _ => ("NapVoyage$Naps", "deep", "[I", true)
def tyX2 : Nat → FieldType := fun k => match k with
  | 0 => .array .int
  | _ => .array .int
theorem nmX2 : ∀ a, a < 2 → ∀ b, b < 2 → a ≠ b → (TX2 a).2.1 ≠ (TX2 b).2.1 := by decide +kernel
theorem tyX2_ok : ∀ k, k < 2 → parseFieldDescriptor (TX2 k).2.2.1 = some (tyX2 k) := by decide +kernel
abbrev cX2_init : ByteArray := prog_4_method_1_code
def yX2_init : MethodName := ⟨RX2, "<init>", "()V"⟩
abbrev cX2_changeGive : ByteArray := prog_4_method_2_code
def yX2_changeGive : MethodName := ⟨RX2, "changeGive", "(II)I"⟩
abbrev cX2_changeDeep : ByteArray := prog_4_method_3_code
def yX2_changeDeep : MethodName := ⟨RX2, "changeDeep", "(II)I"⟩
abbrev cX2_owedBehind : ByteArray := prog_4_method_4_code
def yX2_owedBehind : MethodName := ⟨RX2, "owedBehind", "(LNapVoyage$Way;III)I"⟩
abbrev cX2_blindOf : ByteArray := prog_4_method_5_code
def yX2_blindOf : MethodName := ⟨RX2, "blindOf", "(II)I"⟩
abbrev cX2_blindAlone : ByteArray := prog_4_method_6_code
def yX2_blindAlone : MethodName := ⟨RX2, "blindAlone", "(II)I"⟩
abbrev cX2_copy : ByteArray := prog_4_method_7_code
def yX2_copy : MethodName := ⟨RX2, "copy", "(LNapVoyage$Naps;)V"⟩
def RX3 : String := "NapVoyage$Pad"
def TX3 : u_T := fun k => match k with
  | 0 => ("NapVoyage$Pad", "count", "I", false)
  | _ => ("NapVoyage$Pad", "signs", "[I", true)
def tyX3 : Nat → FieldType := fun k => match k with
  | 0 => .int
  | _ => .array .int
theorem nmX3 : ∀ a, a < 2 → ∀ b, b < 2 → a ≠ b → (TX3 a).2.1 ≠ (TX3 b).2.1 := by decide +kernel
theorem tyX3_ok : ∀ k, k < 2 → parseFieldDescriptor (TX3 k).2.2.1 = some (tyX3 k) := by decide +kernel
abbrev cX3_init : ByteArray := prog_5_method_1_code
def yX3_init : MethodName := ⟨RX3, "<init>", "()V"⟩
abbrev cX3_write : ByteArray := prog_5_method_2_code
def yX3_write : MethodName := ⟨RX3, "write", "(I)Z"⟩
abbrev cX3_faultPlace : ByteArray := prog_5_method_3_code
def yX3_faultPlace : MethodName := ⟨RX3, "faultPlace", "()I"⟩
abbrev cX3_wantedBehind : ByteArray := prog_5_method_4_code
def yX3_wantedBehind : MethodName := ⟨RX3, "wantedBehind", "(II)I"⟩
abbrev cX3_thingOf : ByteArray := prog_5_method_5_code
def yX3_thingOf : MethodName := ⟨RX3, "thingOf", "(I)I"⟩
def RX4 : String := "NapVoyage$Plan"
def TX4 : u_T := fun k => match k with
  | 0 => ("NapVoyage$Plan", "way", "LNapVoyage$Way;", true)
  | 1 => ("NapVoyage$Plan", "naps", "LNapVoyage$Naps;", true)
  | 2 => ("NapVoyage$Plan", "step", "LNapVoyage$Step;", true)
  | _ => ("NapVoyage$Plan", "planes", "[LNapVoyage$Plane;", true)
def tyX4 : Nat → FieldType := fun k => match k with
  | 0 => .object "NapVoyage$Way"
  | 1 => .object "NapVoyage$Naps"
  | 2 => .object "NapVoyage$Step"
  | _ => .array (.object "NapVoyage$Plane")
theorem nmX4 : ∀ a, a < 4 → ∀ b, b < 4 → a ≠ b → (TX4 a).2.1 ≠ (TX4 b).2.1 := by decide +kernel
theorem tyX4_ok : ∀ k, k < 4 → parseFieldDescriptor (TX4 k).2.2.1 = some (tyX4 k) := by decide +kernel
abbrev cX4_init : ByteArray := prog_6_method_1_code
def yX4_init : MethodName := ⟨RX4, "<init>", "(LNapVoyage$Way;LNapVoyage$Naps;LNapVoyage$Step;)V"⟩
abbrev cX4_forget : ByteArray := prog_6_method_2_code
def yX4_forget : MethodName := ⟨RX4, "forget", "()V"⟩
abbrev cX4_reaches : ByteArray := prog_6_method_3_code
def yX4_reaches : MethodName := ⟨RX4, "reaches", "(II)Z"⟩
abbrev cX4_bestFrom : ByteArray := prog_6_method_4_code
def yX4_bestFrom : MethodName := ⟨RX4, "bestFrom", "(IIII)I"⟩
abbrev cX4_firstDeed : ByteArray := prog_6_method_5_code
def yX4_firstDeed : MethodName := ⟨RX4, "firstDeed", "(IIII)I"⟩
abbrev cX4_follow : ByteArray := prog_6_method_6_code
def yX4_follow : MethodName := ⟨RX4, "follow", "(III)I"⟩
abbrev cX4_fill : ByteArray := prog_6_method_7_code
def yX4_fill : MethodName := ⟨RX4, "fill", "(III)V"⟩
abbrev cX4_fillHour : ByteArray := prog_6_method_8_code
def yX4_fillHour : MethodName := ⟨RX4, "fillHour", "(III)V"⟩
abbrev cX4_weigh : ByteArray := prog_6_method_9_code
def yX4_weigh : MethodName := ⟨RX4, "weigh", "(LNapVoyage$Plane;IILNapVoyage$Plane;)V"⟩
abbrev cX4_deedThere : ByteArray := prog_6_method_10_code
def yX4_deedThere : MethodName := ⟨RX4, "deedThere", "(IIII)I"⟩
abbrev cX4_planeBehind : ByteArray := prog_6_method_11_code
def yX4_planeBehind : MethodName := ⟨RX4, "planeBehind", "(IIII)LNapVoyage$Plane;"⟩
abbrev cX4_planeOf : ByteArray := prog_6_method_12_code
def yX4_planeOf : MethodName := ⟨RX4, "planeOf", "(III)LNapVoyage$Plane;"⟩
abbrev cX4_spendable : ByteArray := prog_6_method_13_code
def yX4_spendable : MethodName := ⟨RX4, "spendable", "(III)I"⟩
def RX5 : String := "NapVoyage$Plane"
def TX5 : u_T := fun k => match k with
  | 0 => ("NapVoyage$Plane", "from", "I", false)
  | _ => ("NapVoyage$Plane", "safe", "[I", true)
def tyX5 : Nat → FieldType := fun k => match k with
  | 0 => .int
  | _ => .array .int
theorem nmX5 : ∀ a, a < 2 → ∀ b, b < 2 → a ≠ b → (TX5 a).2.1 ≠ (TX5 b).2.1 := by decide +kernel
theorem tyX5_ok : ∀ k, k < 2 → parseFieldDescriptor (TX5 k).2.2.1 = some (tyX5 k) := by decide +kernel
abbrev cX5_init : ByteArray := prog_7_method_1_code
def yX5_init : MethodName := ⟨RX5, "<init>", "()V"⟩
abbrev cX5_at : ByteArray := prog_7_method_2_code
def yX5_at : MethodName := ⟨RX5, "at", "(I)I"⟩
abbrev cX5_put : ByteArray := prog_7_method_3_code
def yX5_put : MethodName := ⟨RX5, "put", "(II)V"⟩
def RX6 : String := "NapVoyage$Step"
def TX6 : u_T := fun k => match k with
  | 0 => ("NapVoyage$Step", "next", "[I", true)
  | 1 => ("NapVoyage$Step", "passed", "[I", true)
  | _ => ("NapVoyage$Step", "passedSecond", "[I", true)
def tyX6 : Nat → FieldType := fun k => match k with
  | 0 => .array .int
  | 1 => .array .int
  | _ => .array .int
theorem nmX6 : ∀ a, a < 3 → ∀ b, b < 3 → a ≠ b → (TX6 a).2.1 ≠ (TX6 b).2.1 := by decide +kernel
theorem tyX6_ok : ∀ k, k < 3 → parseFieldDescriptor (TX6 k).2.2.1 = some (tyX6 k) := by decide +kernel
abbrev cX6_init : ByteArray := prog_8_method_1_code
def yX6_init : MethodName := ⟨RX6, "<init>", "()V"⟩
abbrev cX6_ready : ByteArray := prog_8_method_2_code
def yX6_ready : MethodName := ⟨RX6, "ready", "(LNapVoyage$Way;LNapVoyage$Naps;I)V"⟩
abbrev cX6_readyFor : ByteArray := prog_8_method_3_code
def yX6_readyFor : MethodName := ⟨RX6, "readyFor", "(LNapVoyage$Way;LNapVoyage$Naps;II)V"⟩
abbrev cX6_safeBy : ByteArray := prog_8_method_4_code
def yX6_safeBy : MethodName := ⟨RX6, "safeBy", "(IILNapVoyage$Plane;)I"⟩
def RX7 : String := "NapVoyage$Track"
def TX7 : u_T := fun k => match k with
  | 0 => ("NapVoyage$Track", "times", "I", false)
  | 1 => ("NapVoyage$Track", "ships", "[I", true)
  | _ => ("NapVoyage$Track", "blind", "[I", true)
def tyX7 : Nat → FieldType := fun k => match k with
  | 0 => .int
  | 1 => .array .int
  | _ => .array .int
theorem nmX7 : ∀ a, a < 3 → ∀ b, b < 3 → a ≠ b → (TX7 a).2.1 ≠ (TX7 b).2.1 := by decide +kernel
theorem tyX7_ok : ∀ k, k < 3 → parseFieldDescriptor (TX7 k).2.2.1 = some (tyX7 k) := by decide +kernel
abbrev cX7_init : ByteArray := prog_9_method_1_code
def yX7_init : MethodName := ⟨RX7, "<init>", "()V"⟩
abbrev cX7_pass : ByteArray := prog_9_method_2_code
def yX7_pass : MethodName := ⟨RX7, "pass", "(II)V"⟩
abbrev cX7_safe : ByteArray := prog_9_method_3_code
def yX7_safe : MethodName := ⟨RX7, "safe", "()I"⟩
abbrev cX7_riskiest : ByteArray := prog_9_method_4_code
def yX7_riskiest : MethodName := ⟨RX7, "riskiest", "()I"⟩
abbrev cX7_struckBy : ByteArray := prog_9_method_5_code
def yX7_struckBy : MethodName := ⟨RX7, "struckBy", "(I)I"⟩
abbrev cX7_drawBehind : ByteArray := prog_9_method_6_code
def yX7_drawBehind : MethodName := ⟨RX7, "drawBehind", "(I)I"⟩
def RX8 : String := "NapVoyage$Way"
def TX8 : u_T := fun k => match k with
  | 0 => ("NapVoyage$Way", "legs", "I", false)
  | 1 => ("NapVoyage$Way", "hours", "I", false)
  | 2 => ("NapVoyage$Way", "legHours", "[I", true)
  | 3 => ("NapVoyage$Way", "legShips", "[I", true)
  | 4 => ("NapVoyage$Way", "legSquall", "[I", true)
  | 5 => ("NapVoyage$Way", "hourShips", "[I", true)
  | _ => ("NapVoyage$Way", "hourSquall", "[I", true)
def tyX8 : Nat → FieldType := fun k => match k with
  | 0 => .int
  | 1 => .int
  | 2 => .array .int
  | 3 => .array .int
  | 4 => .array .int
  | 5 => .array .int
  | _ => .array .int
theorem nmX8 : ∀ a, a < 7 → ∀ b, b < 7 → a ≠ b → (TX8 a).2.1 ≠ (TX8 b).2.1 := by decide +kernel
theorem tyX8_ok : ∀ k, k < 7 → parseFieldDescriptor (TX8 k).2.2.1 = some (tyX8 k) := by decide +kernel
abbrev cX8_init : ByteArray := prog_10_method_1_code
def yX8_init : MethodName := ⟨RX8, "<init>", "()V"⟩
abbrev cX8_hasRoom : ByteArray := prog_10_method_2_code
def yX8_hasRoom : MethodName := ⟨RX8, "hasRoom", "(I)Z"⟩
abbrev cX8_hasLeg : ByteArray := prog_10_method_3_code
def yX8_hasLeg : MethodName := ⟨RX8, "hasLeg", "(I)Z"⟩
abbrev cX8_hasHour : ByteArray := prog_10_method_4_code
def yX8_hasHour : MethodName := ⟨RX8, "hasHour", "(I)Z"⟩
abbrev cX8_lengthen : ByteArray := prog_10_method_5_code
def yX8_lengthen : MethodName := ⟨RX8, "lengthen", "(III)V"⟩
abbrev cX8_shorten : ByteArray := prog_10_method_6_code
def yX8_shorten : MethodName := ⟨RX8, "shorten", "()V"⟩
abbrev cX8_firstHourOf : ByteArray := prog_10_method_7_code
def yX8_firstHourOf : MethodName := ⟨RX8, "firstHourOf", "(I)I"⟩
abbrev cX8_shipsAt : ByteArray := prog_10_method_8_code
def yX8_shipsAt : MethodName := ⟨RX8, "shipsAt", "(I)I"⟩
abbrev cX8_squallAt : ByteArray := prog_10_method_9_code
def yX8_squallAt : MethodName := ⟨RX8, "squallAt", "(I)Z"⟩
abbrev cX8_lets : ByteArray := prog_10_method_10_code
def yX8_lets : MethodName := ⟨RX8, "lets", "(II)Z"⟩
abbrev cX8_copy : ByteArray := prog_10_method_11_code
def yX8_copy : MethodName := ⟨RX8, "copy", "(LNapVoyage$Way;)V"⟩
def RX9 : String := "NapVoyage"
def TX9 : u_T := fun k => match k with
  | 0 => ("NapVoyage", "chart", "LNapVoyage$Chart;", true)
  | 1 => ("NapVoyage", "images", "[LNapVoyage$Chart;", true)
  | 2 => ("NapVoyage", "kept", "[Z", true)
  | 3 => ("NapVoyage", "plans", "[LNapVoyage$Plan;", true)
  | 4 => ("NapVoyage", "pad", "LNapVoyage$Pad;", true)
  | _ => ("NapVoyage", "boat", "LNapVoyage$Boat;", true)
def tyX9 : Nat → FieldType := fun k => match k with
  | 0 => .object "NapVoyage$Chart"
  | 1 => .array (.object "NapVoyage$Chart")
  | 2 => .array .boolean
  | 3 => .array (.object "NapVoyage$Plan")
  | 4 => .object "NapVoyage$Pad"
  | _ => .object "NapVoyage$Boat"
theorem nmX9 : ∀ a, a < 6 → ∀ b, b < 6 → a ≠ b → (TX9 a).2.1 ≠ (TX9 b).2.1 := by decide +kernel
theorem tyX9_ok : ∀ k, k < 6 → parseFieldDescriptor (TX9 k).2.2.1 = some (tyX9 k) := by decide +kernel
abbrev cX9_init : ByteArray := prog_1_method_1_code
def yX9_init : MethodName := ⟨RX9, "<init>", "()V"⟩
abbrev cX9_leg : ByteArray := prog_1_method_2_code
def yX9_leg : MethodName := ⟨RX9, "leg", "(IIII)I"⟩
abbrev cX9_cut : ByteArray := prog_1_method_3_code
def yX9_cut : MethodName := ⟨RX9, "cut", "(I)I"⟩
abbrev cX9_about : ByteArray := prog_1_method_4_code
def yX9_about : MethodName := ⟨RX9, "about", "(III)I"⟩
abbrev cX9_nap : ByteArray := prog_1_method_5_code
def yX9_nap : MethodName := ⟨RX9, "nap", "(III)I"⟩
abbrev cX9_owed : ByteArray := prog_1_method_6_code
def yX9_owed : MethodName := ⟨RX9, "owed", "(IIII)I"⟩
abbrev cX9_risk : ByteArray := prog_1_method_7_code
def yX9_risk : MethodName := ⟨RX9, "risk", "(IIIII)I"⟩
abbrev cX9_say : ByteArray := prog_1_method_8_code
def yX9_say : MethodName := ⟨RX9, "say", "(I)I"⟩
abbrev cX9_wipe : ByteArray := prog_1_method_9_code
def yX9_wipe : MethodName := ⟨RX9, "wipe", "()I"⟩
abbrev cX9_fault : ByteArray := prog_1_method_10_code
def yX9_fault : MethodName := ⟨RX9, "fault", "()I"⟩
abbrev cX9_judge : ByteArray := prog_1_method_11_code
def yX9_judge : MethodName := ⟨RX9, "judge", "(IIII)I"⟩
abbrev cX9_best : ByteArray := prog_1_method_12_code
def yX9_best : MethodName := ⟨RX9, "best", "(IIIII)I"⟩
abbrev cX9_does : ByteArray := prog_1_method_13_code
def yX9_does : MethodName := ⟨RX9, "does", "(IIIII)I"⟩
abbrev cX9_logged : ByteArray := prog_1_method_14_code
def yX9_logged : MethodName := ⟨RX9, "logged", "(IIII)I"⟩
abbrev cX9_thumb : ByteArray := prog_1_method_15_code
def yX9_thumb : MethodName := ⟨RX9, "thumb", "(IIII)I"⟩
abbrev cX9_worth : ByteArray := prog_1_method_16_code
def yX9_worth : MethodName := ⟨RX9, "worth", "(IIII)I"⟩
abbrev cX9_round : ByteArray := prog_1_method_17_code
def yX9_round : MethodName := ⟨RX9, "round", "(II)I"⟩
abbrev cX9_soonest : ByteArray := prog_1_method_18_code
def yX9_soonest : MethodName := ⟨RX9, "soonest", "(IIII)I"⟩
abbrev cX9_two : ByteArray := prog_1_method_19_code
def yX9_two : MethodName := ⟨RX9, "two", "(III)I"⟩
abbrev cX9_share : ByteArray := prog_1_method_20_code
def yX9_share : MethodName := ⟨RX9, "share", "(II)I"⟩
abbrev cX9_up : ByteArray := prog_1_method_21_code
def yX9_up : MethodName := ⟨RX9, "up", "(III)I"⟩
abbrev cX9_trust : ByteArray := prog_1_method_22_code
def yX9_trust : MethodName := ⟨RX9, "trust", "(II)I"⟩
abbrev cX9_draw : ByteArray := prog_1_method_23_code
def yX9_draw : MethodName := ⟨RX9, "draw", "(IIII)I"⟩
abbrev cX9_image : ByteArray := prog_1_method_24_code
def yX9_image : MethodName := ⟨RX9, "image", "(I)I"⟩
abbrev cX9_restore : ByteArray := prog_1_method_25_code
def yX9_restore : MethodName := ⟨RX9, "restore", "(I)I"⟩
abbrev cX9_told : ByteArray := prog_1_method_26_code
def yX9_told : MethodName := ⟨RX9, "told", "(I)I"⟩
abbrev cX9_within : ByteArray := prog_1_method_27_code
def yX9_within : MethodName := ⟨RX9, "within", "(III)Z"⟩
abbrev cX9_isOwed : ByteArray := prog_1_method_28_code
def yX9_isOwed : MethodName := ⟨RX9, "isOwed", "(I)Z"⟩
abbrev cX9_isBattery : ByteArray := prog_1_method_29_code
def yX9_isBattery : MethodName := ⟨RX9, "isBattery", "(I)Z"⟩
abbrev cX9_isThing : ByteArray := prog_1_method_30_code
def yX9_isThing : MethodName := ⟨RX9, "isThing", "(I)Z"⟩
abbrev cX9_wayOf : ByteArray := prog_1_method_31_code
def yX9_wayOf : MethodName := ⟨RX9, "wayOf", "(I)LNapVoyage$Way;"⟩
abbrev cX9_planOf : ByteArray := prog_1_method_32_code
def yX9_planOf : MethodName := ⟨RX9, "planOf", "(I)LNapVoyage$Plan;"⟩
abbrev cX9_forgetPlans : ByteArray := prog_1_method_33_code
def yX9_forgetPlans : MethodName := ⟨RX9, "forgetPlans", "()V"⟩
abbrev cX9_getsUp : ByteArray := prog_1_method_34_code
def yX9_getsUp : MethodName := ⟨RX9, "getsUp", "(III)Z"⟩
abbrev cX9_isNight : ByteArray := prog_1_method_35_code
def yX9_isNight : MethodName := ⟨RX9, "isNight", "(I)Z"⟩
abbrev cX9_hoursOf : ByteArray := prog_1_method_36_code
def yX9_hoursOf : MethodName := ⟨RX9, "hoursOf", "(I)I"⟩
abbrev cX9_batteryOf : ByteArray := prog_1_method_37_code
def yX9_batteryOf : MethodName := ⟨RX9, "batteryOf", "(I)I"⟩
abbrev cX9_codeOf : ByteArray := prog_1_method_38_code
def yX9_codeOf : MethodName := ⟨RX9, "codeOf", "(I)I"⟩
abbrev cX9_lessened : ByteArray := prog_1_method_39_code
def yX9_lessened : MethodName := ⟨RX9, "lessened", "(II)I"⟩
def RX10 : String := "NapVoyageModel"
def TX10 : u_T := fun k => match k with
  | 0 => ("NapVoyageModel", "legHours", "[I", true)
  | 1 => ("NapVoyageModel", "legShips", "[I", true)
  | 2 => ("NapVoyageModel", "legSqualls", "[I", true)
  | 3 => ("NapVoyageModel", "legs", "[I", true)
  | 4 => ("NapVoyageModel", "hours", "[I", true)
  | 5 => ("NapVoyageModel", "ships", "[I", true)
  | 6 => ("NapVoyageModel", "squalls", "[I", true)
  | 7 => ("NapVoyageModel", "gives", "[I", true)
  | 8 => ("NapVoyageModel", "deep", "[I", true)
  | 9 => ("NapVoyageModel", "signs", "[I", true)
  | 10 => ("NapVoyageModel", "signMany", "I", false)
  | 11 => ("NapVoyageModel", "timeRisk", "[I", true)
  | 12 => ("NapVoyageModel", "timeShips", "[I", true)
  | 13 => ("NapVoyageModel", "timeBlind", "[I", true)
  | 14 => ("NapVoyageModel", "times", "I", false)
  | 15 => ("NapVoyageModel", "judgedBad", "I", false)
  | 16 => ("NapVoyageModel", "judgedOwed", "I", false)
  | 17 => ("NapVoyageModel", "judgedHour", "I", false)
  | 18 => ("NapVoyageModel", "judgedBattery", "I", false)
  | 19 => ("NapVoyageModel", "bestAt", "[I", true)
  | 20 => ("NapVoyageModel", "isLaid", "[Z", true)
  | 21 => ("NapVoyageModel", "both", "[I", true)
  | 22 => ("NapVoyageModel", "seed", "I", false)
  | 23 => ("NapVoyageModel", "kept", "[I", true)
  | 24 => ("NapVoyageModel", "isKept", "[Z", true)
  | 25 => ("NapVoyageModel", "keptAt", "I", false)
  | _ => ("NapVoyageModel", "isWriting", "Z", false)
def tyX10 : Nat → FieldType := fun k => match k with
  | 0 => .array .int
  | 1 => .array .int
  | 2 => .array .int
  | 3 => .array .int
  | 4 => .array .int
  | 5 => .array .int
  | 6 => .array .int
  | 7 => .array .int
  | 8 => .array .int
  | 9 => .array .int
  | 10 => .int
  | 11 => .array .int
  | 12 => .array .int
  | 13 => .array .int
  | 14 => .int
  | 15 => .int
  | 16 => .int
  | 17 => .int
  | 18 => .int
  | 19 => .array .int
  | 20 => .array .boolean
  | 21 => .array .int
  | 22 => .int
  | 23 => .array .int
  | 24 => .array .boolean
  | 25 => .int
  | _ => .boolean
theorem nmX10 : ∀ a, a < 27 → ∀ b, b < 27 → a ≠ b → (TX10 a).2.1 ≠ (TX10 b).2.1 := by decide +kernel
theorem tyX10_ok : ∀ k, k < 27 → parseFieldDescriptor (TX10 k).2.2.1 = some (tyX10 k) := by decide +kernel
abbrev cX10_init : ByteArray := prog_12_method_1_code
def yX10_init : MethodName := ⟨RX10, "<init>", "()V"⟩
abbrev cX10_in : ByteArray := prog_12_method_3_code
def yX10_in : MethodName := ⟨RX10, "in", "(JJJ)Z"⟩
abbrev cX10_isWay : ByteArray := prog_12_method_4_code
def yX10_isWay : MethodName := ⟨RX10, "isWay", "(I)Z"⟩
abbrev cX10_isOwed : ByteArray := prog_12_method_5_code
def yX10_isOwed : MethodName := ⟨RX10, "isOwed", "(I)Z"⟩
abbrev cX10_isBattery : ByteArray := prog_12_method_6_code
def yX10_isBattery : MethodName := ⟨RX10, "isBattery", "(I)Z"⟩
abbrev cX10_isEnd : ByteArray := prog_12_method_7_code
def yX10_isEnd : MethodName := ⟨RX10, "isEnd", "(I)Z"⟩
abbrev cX10_layHours : ByteArray := prog_12_method_8_code
def yX10_layHours : MethodName := ⟨RX10, "layHours", "(I)V"⟩
abbrev cX10_leg : ByteArray := prog_12_method_9_code
def yX10_leg : MethodName := ⟨RX10, "leg", "(IIII)I"⟩
abbrev cX10_cut : ByteArray := prog_12_method_10_code
def yX10_cut : MethodName := ⟨RX10, "cut", "(I)I"⟩
abbrev cX10_about : ByteArray := prog_12_method_11_code
def yX10_about : MethodName := ⟨RX10, "about", "(III)I"⟩
abbrev cX10_nap : ByteArray := prog_12_method_12_code
def yX10_nap : MethodName := ⟨RX10, "nap", "(III)I"⟩
abbrev cX10_isSquall : ByteArray := prog_12_method_13_code
def yX10_isSquall : MethodName := ⟨RX10, "isSquall", "(II)Z"⟩
abbrev cX10_canBe : ByteArray := prog_12_method_14_code
def yX10_canBe : MethodName := ⟨RX10, "canBe", "(III)Z"⟩
abbrev cX10_isNight : ByteArray := prog_12_method_15_code
def yX10_isNight : MethodName := ⟨RX10, "isNight", "(I)Z"⟩
abbrev cX10_owedBehind : ByteArray := prog_12_method_16_code
def yX10_owedBehind : MethodName := ⟨RX10, "owedBehind", "(IIII)I"⟩
abbrev cX10_blindOf : ByteArray := prog_12_method_17_code
def yX10_blindOf : MethodName := ⟨RX10, "blindOf", "(III)I"⟩
abbrev cX10_riskOf : ByteArray := prog_12_method_18_code
def yX10_riskOf : MethodName := ⟨RX10, "riskOf", "(IIIII)I"⟩
abbrev cX10_lessened : ByteArray := prog_12_method_19_code
def yX10_lessened : MethodName := ⟨RX10, "lessened", "(II)I"⟩
abbrev cX10_isHour : ByteArray := prog_12_method_20_code
def yX10_isHour : MethodName := ⟨RX10, "isHour", "(II)Z"⟩
abbrev cX10_owed : ByteArray := prog_12_method_21_code
def yX10_owed : MethodName := ⟨RX10, "owed", "(IIII)I"⟩
abbrev cX10_risk : ByteArray := prog_12_method_22_code
def yX10_risk : MethodName := ⟨RX10, "risk", "(IIIII)I"⟩
abbrev cX10_say : ByteArray := prog_12_method_23_code
def yX10_say : MethodName := ⟨RX10, "say", "(I)I"⟩
abbrev cX10_wipe : ByteArray := prog_12_method_24_code
def yX10_wipe : MethodName := ⟨RX10, "wipe", "()I"⟩
abbrev cX10_fault : ByteArray := prog_12_method_25_code
def yX10_fault : MethodName := ⟨RX10, "fault", "()I"⟩
abbrev cX10_passHour : ByteArray := prog_12_method_26_code
def yX10_passHour : MethodName := ⟨RX10, "passHour", "(III)V"⟩
abbrev cX10_doThing : ByteArray := prog_12_method_27_code
def yX10_doThing : MethodName := ⟨RX10, "doThing", "(III)Z"⟩
abbrev cX10_judgeAll : ByteArray := prog_12_method_28_code
def yX10_judgeAll : MethodName := ⟨RX10, "judgeAll", "(III)V"⟩
abbrev cX10_safeOfTimes : ByteArray := prog_12_method_29_code
def yX10_safeOfTimes : MethodName := ⟨RX10, "safeOfTimes", "()I"⟩
abbrev cX10_mostRisk : ByteArray := prog_12_method_30_code
def yX10_mostRisk : MethodName := ⟨RX10, "mostRisk", "()I"⟩
abbrev cX10_judge : ByteArray := prog_12_method_31_code
def yX10_judge : MethodName := ⟨RX10, "judge", "(IIII)I"⟩
abbrev cX10_at : ByteArray := prog_12_method_32_code
def yX10_at : MethodName := ⟨RX10, "at", "(IIIII)I"⟩
abbrev cX10_valueOf : ByteArray := prog_12_method_33_code
def yX10_valueOf : MethodName := ⟨RX10, "valueOf", "(IIIIIII)I"⟩
abbrev cX10_triedAt : ByteArray := prog_12_method_34_code
def yX10_triedAt : MethodName := ⟨RX10, "triedAt", "(I)I"⟩
abbrev cX10_lay : ByteArray := prog_12_method_35_code
def yX10_lay : MethodName := ⟨RX10, "lay", "(I)V"⟩
abbrev cX10_bestOf : ByteArray := prog_12_method_36_code
def yX10_bestOf : MethodName := ⟨RX10, "bestOf", "(IIIII)I"⟩
abbrev cX10_doesOf : ByteArray := prog_12_method_37_code
def yX10_doesOf : MethodName := ⟨RX10, "doesOf", "(IIIII)I"⟩
abbrev cX10_isPlace : ByteArray := prog_12_method_38_code
def yX10_isPlace : MethodName := ⟨RX10, "isPlace", "(IIIII)Z"⟩
abbrev cX10_best : ByteArray := prog_12_method_39_code
def yX10_best : MethodName := ⟨RX10, "best", "(IIIII)I"⟩
abbrev cX10_does : ByteArray := prog_12_method_40_code
def yX10_does : MethodName := ⟨RX10, "does", "(IIIII)I"⟩
abbrev cX10_logged : ByteArray := prog_12_method_41_code
def yX10_logged : MethodName := ⟨RX10, "logged", "(IIII)I"⟩
abbrev cX10_thumbDoes : ByteArray := prog_12_method_42_code
def yX10_thumbDoes : MethodName := ⟨RX10, "thumbDoes", "(IIII)I"⟩
abbrev cX10_thumbAll : ByteArray := prog_12_method_43_code
def yX10_thumbAll : MethodName := ⟨RX10, "thumbAll", "(III)V"⟩
abbrev cX10_thumb : ByteArray := prog_12_method_44_code
def yX10_thumb : MethodName := ⟨RX10, "thumb", "(IIII)I"⟩
abbrev cX10_worth : ByteArray := prog_12_method_45_code
def yX10_worth : MethodName := ⟨RX10, "worth", "(IIII)I"⟩
abbrev cX10_round : ByteArray := prog_12_method_46_code
def yX10_round : MethodName := ⟨RX10, "round", "(II)I"⟩
abbrev cX10_soonest : ByteArray := prog_12_method_47_code
def yX10_soonest : MethodName := ⟨RX10, "soonest", "(IIII)I"⟩
abbrev cX10_twoOf : ByteArray := prog_12_method_48_code
def yX10_twoOf : MethodName := ⟨RX10, "twoOf", "(III)I"⟩
abbrev cX10_two : ByteArray := prog_12_method_49_code
def yX10_two : MethodName := ⟨RX10, "two", "(III)I"⟩
abbrev cX10_share : ByteArray := prog_12_method_50_code
def yX10_share : MethodName := ⟨RX10, "share", "(II)I"⟩
abbrev cX10_getsUp : ByteArray := prog_12_method_51_code
def yX10_getsUp : MethodName := ⟨RX10, "getsUp", "(III)Z"⟩
abbrev cX10_up : ByteArray := prog_12_method_52_code
def yX10_up : MethodName := ⟨RX10, "up", "(III)I"⟩
abbrev cX10_trust : ByteArray := prog_12_method_53_code
def yX10_trust : MethodName := ⟨RX10, "trust", "(II)I"⟩
abbrev cX10_thousandth : ByteArray := prog_12_method_54_code
def yX10_thousandth : MethodName := ⟨RX10, "thousandth", "()I"⟩
abbrev cX10_draw : ByteArray := prog_12_method_55_code
def yX10_draw : MethodName := ⟨RX10, "draw", "(IIII)I"⟩
abbrev cX10_pass : ByteArray := prog_12_method_56_code
def yX10_pass : MethodName := ⟨RX10, "pass", "(I)I"⟩
abbrev cX10_passAll : ByteArray := prog_12_method_57_code
def yX10_passAll : MethodName := ⟨RX10, "passAll", "()V"⟩
abbrev cX10_image : ByteArray := prog_12_method_58_code
def yX10_image : MethodName := ⟨RX10, "image", "(I)I"⟩
abbrev cX10_restore : ByteArray := prog_12_method_59_code
def yX10_restore : MethodName := ⟨RX10, "restore", "(I)I"⟩
abbrev cX10_told : ByteArray := prog_12_method_60_code
def yX10_told : MethodName := ⟨RX10, "told", "(I)I"⟩
def RJ9 : String := "java/lang/Math"
abbrev cJ9_max_7cf53 : ByteArray := prog_13_method_65_code
def yJ9_max_7cf53 : MethodName := ⟨RJ9, "max", "(II)I"⟩
abbrev cJ9_min_7cf53 : ByteArray := prog_13_method_69_code
def yJ9_min_7cf53 : MethodName := ⟨RJ9, "min", "(II)I"⟩
def RJ10 : String := "java/lang/System"
def RL : String := "NapVoyageLaw"
abbrev cL_law : ByteArray := code
abbrev vwCl : List vw_C := [(RX0, TX0, 6), (RX1, TX1, 2), (RX2, TX2, 2), (RX3, TX3, 2), (RX4, TX4, 4), (RX5, TX5, 2), (RX6, TX6, 3), (RX7, TX7, 3), (RX8, TX8, 7), (RX9, TX9, 6), (RX10, TX10, 27)]
end
