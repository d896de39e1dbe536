section
-- ===== PART A: goes FIRST, ahead of the names: the tables' words, and 'selects' of the private methods out of them =====
/-- a private method of a class that the tables say can be made, by its rows of tables_1 -/
def lw_okq (q : MethodName × Nat) : Prop := (q.1.cls ≠ "java/lang/invoke/MethodHandle" ∧ q.1.cls ≠ "java/lang/invoke/VarHandle") ∧ Cond.instantiable q.1.cls q.2 ∈ tables_1 ∧ Cond.privateMethod q.1 ∈ tables_1 ∧ Cond.instanceMethod q.1 ∈ tables_1
theorem lw_p0 : lw_okq (⟨"NapVoyage", "planOf", "(I)LNapVoyage$Plan;"⟩, 6) := ⟨⟨by decide +kernel, by decide +kernel⟩, List.mem_of_getElem? (i := 15) (by decide +kernel), List.mem_of_getElem? (i := 217) (by decide +kernel), List.mem_of_getElem? (i := 218) (by decide +kernel)⟩
theorem lw_p1 : lw_okq (⟨"NapVoyage$Way", "hasRoom", "(I)Z"⟩, 7) := ⟨⟨by decide +kernel, by decide +kernel⟩, List.mem_of_getElem? (i := 30) (by decide +kernel), List.mem_of_getElem? (i := 224) (by decide +kernel), List.mem_of_getElem? (i := 225) (by decide +kernel)⟩
theorem lw_p2 : lw_okq (⟨"NapVoyage$Way", "lengthen", "(III)V"⟩, 7) := ⟨⟨by decide +kernel, by decide +kernel⟩, List.mem_of_getElem? (i := 30) (by decide +kernel), List.mem_of_getElem? (i := 228) (by decide +kernel), List.mem_of_getElem? (i := 229) (by decide +kernel)⟩
theorem lw_p3 : lw_okq (⟨"NapVoyage$Plan", "forget", "()V"⟩, 4) := ⟨⟨by decide +kernel, by decide +kernel⟩, List.mem_of_getElem? (i := 109) (by decide +kernel), List.mem_of_getElem? (i := 233) (by decide +kernel), List.mem_of_getElem? (i := 234) (by decide +kernel)⟩
theorem lw_p4 : lw_okq (⟨"NapVoyage$Way", "shorten", "()V"⟩, 7) := ⟨⟨by decide +kernel, by decide +kernel⟩, List.mem_of_getElem? (i := 30) (by decide +kernel), List.mem_of_getElem? (i := 241) (by decide +kernel), List.mem_of_getElem? (i := 242) (by decide +kernel)⟩
theorem lw_p5 : lw_okq (⟨"NapVoyage", "wayOf", "(I)LNapVoyage$Way;"⟩, 6) := ⟨⟨by decide +kernel, by decide +kernel⟩, List.mem_of_getElem? (i := 15) (by decide +kernel), List.mem_of_getElem? (i := 249) (by decide +kernel), List.mem_of_getElem? (i := 250) (by decide +kernel)⟩
theorem lw_p6 : lw_okq (⟨"NapVoyage$Way", "hasLeg", "(I)Z"⟩, 7) := ⟨⟨by decide +kernel, by decide +kernel⟩, List.mem_of_getElem? (i := 30) (by decide +kernel), List.mem_of_getElem? (i := 253) (by decide +kernel), List.mem_of_getElem? (i := 254) (by decide +kernel)⟩
theorem lw_p7 : lw_okq (⟨"NapVoyage$Way", "firstHourOf", "(I)I"⟩, 7) := ⟨⟨by decide +kernel, by decide +kernel⟩, List.mem_of_getElem? (i := 30) (by decide +kernel), List.mem_of_getElem? (i := 258) (by decide +kernel), List.mem_of_getElem? (i := 259) (by decide +kernel)⟩
theorem lw_p8 : lw_okq (⟨"NapVoyage$Naps", "changeGive", "(II)I"⟩, 2) := ⟨⟨by decide +kernel, by decide +kernel⟩, List.mem_of_getElem? (i := 66) (by decide +kernel), List.mem_of_getElem? (i := 266) (by decide +kernel), List.mem_of_getElem? (i := 267) (by decide +kernel)⟩
theorem lw_p9 : lw_okq (⟨"NapVoyage$Naps", "changeDeep", "(II)I"⟩, 2) := ⟨⟨by decide +kernel, by decide +kernel⟩, List.mem_of_getElem? (i := 66) (by decide +kernel), List.mem_of_getElem? (i := 271) (by decide +kernel), List.mem_of_getElem? (i := 272) (by decide +kernel)⟩
theorem lw_p10 : lw_okq (⟨"NapVoyage", "forgetPlans", "()V"⟩, 6) := ⟨⟨by decide +kernel, by decide +kernel⟩, List.mem_of_getElem? (i := 15) (by decide +kernel), List.mem_of_getElem? (i := 275) (by decide +kernel), List.mem_of_getElem? (i := 276) (by decide +kernel)⟩
theorem lw_p11 : lw_okq (⟨"NapVoyage$Way", "hasHour", "(I)Z"⟩, 7) := ⟨⟨by decide +kernel, by decide +kernel⟩, List.mem_of_getElem? (i := 30) (by decide +kernel), List.mem_of_getElem? (i := 283) (by decide +kernel), List.mem_of_getElem? (i := 284) (by decide +kernel)⟩
theorem lw_p12 : lw_okq (⟨"NapVoyage$Way", "lets", "(II)Z"⟩, 7) := ⟨⟨by decide +kernel, by decide +kernel⟩, List.mem_of_getElem? (i := 30) (by decide +kernel), List.mem_of_getElem? (i := 293) (by decide +kernel), List.mem_of_getElem? (i := 294) (by decide +kernel)⟩
theorem lw_p13 : lw_okq (⟨"NapVoyage$Way", "squallAt", "(I)Z"⟩, 7) := ⟨⟨by decide +kernel, by decide +kernel⟩, List.mem_of_getElem? (i := 30) (by decide +kernel), List.mem_of_getElem? (i := 298) (by decide +kernel), List.mem_of_getElem? (i := 299) (by decide +kernel)⟩
theorem lw_p14 : lw_okq (⟨"NapVoyage$Naps", "owedBehind", "(LNapVoyage$Way;III)I"⟩, 2) := ⟨⟨by decide +kernel, by decide +kernel⟩, List.mem_of_getElem? (i := 66) (by decide +kernel), List.mem_of_getElem? (i := 302) (by decide +kernel), List.mem_of_getElem? (i := 303) (by decide +kernel)⟩
theorem lw_p15 : lw_okq (⟨"NapVoyage$Way", "shipsAt", "(I)I"⟩, 7) := ⟨⟨by decide +kernel, by decide +kernel⟩, List.mem_of_getElem? (i := 30) (by decide +kernel), List.mem_of_getElem? (i := 320) (by decide +kernel), List.mem_of_getElem? (i := 321) (by decide +kernel)⟩
def lw_privs_1 : List (MethodName × Nat) := [(⟨"NapVoyage", "planOf", "(I)LNapVoyage$Plan;"⟩, 6), (⟨"NapVoyage$Way", "hasRoom", "(I)Z"⟩, 7), (⟨"NapVoyage$Way", "lengthen", "(III)V"⟩, 7), (⟨"NapVoyage$Plan", "forget", "()V"⟩, 4), (⟨"NapVoyage$Way", "shorten", "()V"⟩, 7), (⟨"NapVoyage", "wayOf", "(I)LNapVoyage$Way;"⟩, 6), (⟨"NapVoyage$Way", "hasLeg", "(I)Z"⟩, 7), (⟨"NapVoyage$Way", "firstHourOf", "(I)I"⟩, 7), (⟨"NapVoyage$Naps", "changeGive", "(II)I"⟩, 2), (⟨"NapVoyage$Naps", "changeDeep", "(II)I"⟩, 2), (⟨"NapVoyage", "forgetPlans", "()V"⟩, 6), (⟨"NapVoyage$Way", "hasHour", "(I)Z"⟩, 7), (⟨"NapVoyage$Way", "lets", "(II)Z"⟩, 7), (⟨"NapVoyage$Way", "squallAt", "(I)Z"⟩, 7), (⟨"NapVoyage$Naps", "owedBehind", "(LNapVoyage$Way;III)I"⟩, 2), (⟨"NapVoyage$Way", "shipsAt", "(I)I"⟩, 7)]
theorem lw_r1 : ∀ q ∈ lw_privs_1, lw_okq q := List.forall_mem_cons.mpr ⟨lw_p0, List.forall_mem_cons.mpr ⟨lw_p1, List.forall_mem_cons.mpr ⟨lw_p2, List.forall_mem_cons.mpr ⟨lw_p3, List.forall_mem_cons.mpr ⟨lw_p4, List.forall_mem_cons.mpr ⟨lw_p5, List.forall_mem_cons.mpr ⟨lw_p6, List.forall_mem_cons.mpr ⟨lw_p7, List.forall_mem_cons.mpr ⟨lw_p8, List.forall_mem_cons.mpr ⟨lw_p9, List.forall_mem_cons.mpr ⟨lw_p10, List.forall_mem_cons.mpr ⟨lw_p11, List.forall_mem_cons.mpr ⟨lw_p12, List.forall_mem_cons.mpr ⟨lw_p13, List.forall_mem_cons.mpr ⟨lw_p14, List.forall_mem_cons.mpr ⟨lw_p15, fun _ h => absurd h List.not_mem_nil⟩⟩⟩⟩⟩⟩⟩⟩⟩⟩⟩⟩⟩⟩⟩⟩
theorem lw_p16 : lw_okq (⟨"NapVoyage$Naps", "blindOf", "(II)I"⟩, 2) := ⟨⟨by decide +kernel, by decide +kernel⟩, List.mem_of_getElem? (i := 66) (by decide +kernel), List.mem_of_getElem? (i := 324) (by decide +kernel), List.mem_of_getElem? (i := 325) (by decide +kernel)⟩
theorem lw_p17 : lw_okq (⟨"NapVoyage$Naps", "blindAlone", "(II)I"⟩, 2) := ⟨⟨by decide +kernel, by decide +kernel⟩, List.mem_of_getElem? (i := 66) (by decide +kernel), List.mem_of_getElem? (i := 328) (by decide +kernel), List.mem_of_getElem? (i := 329) (by decide +kernel)⟩
theorem lw_p18 : lw_okq (⟨"NapVoyage$Pad", "write", "(I)Z"⟩, 2) := ⟨⟨by decide +kernel, by decide +kernel⟩, List.mem_of_getElem? (i := 131) (by decide +kernel), List.mem_of_getElem? (i := 336) (by decide +kernel), List.mem_of_getElem? (i := 337) (by decide +kernel)⟩
theorem lw_p19 : lw_okq (⟨"NapVoyage$Pad", "faultPlace", "()I"⟩, 2) := ⟨⟨by decide +kernel, by decide +kernel⟩, List.mem_of_getElem? (i := 131) (by decide +kernel), List.mem_of_getElem? (i := 348) (by decide +kernel), List.mem_of_getElem? (i := 349) (by decide +kernel)⟩
theorem lw_p20 : lw_okq (⟨"NapVoyage$Boat", "setOut", "(LNapVoyage$Way;II)V"⟩, 6) := ⟨⟨by decide +kernel, by decide +kernel⟩, List.mem_of_getElem? (i := 147) (by decide +kernel), List.mem_of_getElem? (i := 365) (by decide +kernel), List.mem_of_getElem? (i := 366) (by decide +kernel)⟩
theorem lw_p21 : lw_okq (⟨"NapVoyage$Boat", "sailBy", "(LNapVoyage$Pad;)I"⟩, 6) := ⟨⟨by decide +kernel, by decide +kernel⟩, List.mem_of_getElem? (i := 147) (by decide +kernel), List.mem_of_getElem? (i := 369) (by decide +kernel), List.mem_of_getElem? (i := 370) (by decide +kernel)⟩
theorem lw_p22 : lw_okq (⟨"NapVoyage$Boat", "doDeed", "(I)Z"⟩, 6) := ⟨⟨by decide +kernel, by decide +kernel⟩, List.mem_of_getElem? (i := 147) (by decide +kernel), List.mem_of_getElem? (i := 374) (by decide +kernel), List.mem_of_getElem? (i := 375) (by decide +kernel)⟩
theorem lw_p23 : lw_okq (⟨"NapVoyage$Track", "pass", "(II)V"⟩, 3) := ⟨⟨by decide +kernel, by decide +kernel⟩, List.mem_of_getElem? (i := 153) (by decide +kernel), List.mem_of_getElem? (i := 384) (by decide +kernel), List.mem_of_getElem? (i := 385) (by decide +kernel)⟩
theorem lw_p24 : lw_okq (⟨"NapVoyage$Track", "safe", "()I"⟩, 3) := ⟨⟨by decide +kernel, by decide +kernel⟩, List.mem_of_getElem? (i := 153) (by decide +kernel), List.mem_of_getElem? (i := 392) (by decide +kernel), List.mem_of_getElem? (i := 393) (by decide +kernel)⟩
theorem lw_p25 : lw_okq (⟨"NapVoyage$Track", "riskiest", "()I"⟩, 3) := ⟨⟨by decide +kernel, by decide +kernel⟩, List.mem_of_getElem? (i := 153) (by decide +kernel), List.mem_of_getElem? (i := 402) (by decide +kernel), List.mem_of_getElem? (i := 403) (by decide +kernel)⟩
theorem lw_p26 : lw_okq (⟨"NapVoyage$Plan", "reaches", "(II)Z"⟩, 4) := ⟨⟨by decide +kernel, by decide +kernel⟩, List.mem_of_getElem? (i := 109) (by decide +kernel), List.mem_of_getElem? (i := 410) (by decide +kernel), List.mem_of_getElem? (i := 411) (by decide +kernel)⟩
theorem lw_p27 : lw_okq (⟨"NapVoyage$Plan", "bestFrom", "(IIII)I"⟩, 4) := ⟨⟨by decide +kernel, by decide +kernel⟩, List.mem_of_getElem? (i := 109) (by decide +kernel), List.mem_of_getElem? (i := 415) (by decide +kernel), List.mem_of_getElem? (i := 416) (by decide +kernel)⟩
theorem lw_p28 : lw_okq (⟨"NapVoyage$Plan", "fill", "(III)V"⟩, 4) := ⟨⟨by decide +kernel, by decide +kernel⟩, List.mem_of_getElem? (i := 109) (by decide +kernel), List.mem_of_getElem? (i := 419) (by decide +kernel), List.mem_of_getElem? (i := 420) (by decide +kernel)⟩
theorem lw_p29 : lw_okq (⟨"NapVoyage$Plan", "planeOf", "(III)LNapVoyage$Plane;"⟩, 4) := ⟨⟨by decide +kernel, by decide +kernel⟩, List.mem_of_getElem? (i := 109) (by decide +kernel), List.mem_of_getElem? (i := 423) (by decide +kernel), List.mem_of_getElem? (i := 424) (by decide +kernel)⟩
theorem lw_p30 : lw_okq (⟨"NapVoyage$Plan", "spendable", "(III)I"⟩, 4) := ⟨⟨by decide +kernel, by decide +kernel⟩, List.mem_of_getElem? (i := 109) (by decide +kernel), List.mem_of_getElem? (i := 427) (by decide +kernel), List.mem_of_getElem? (i := 428) (by decide +kernel)⟩
theorem lw_p31 : lw_okq (⟨"NapVoyage$Step", "ready", "(LNapVoyage$Way;LNapVoyage$Naps;I)V"⟩, 3) := ⟨⟨by decide +kernel, by decide +kernel⟩, List.mem_of_getElem? (i := 93) (by decide +kernel), List.mem_of_getElem? (i := 444) (by decide +kernel), List.mem_of_getElem? (i := 445) (by decide +kernel)⟩
def lw_privs_2 : List (MethodName × Nat) := [(⟨"NapVoyage$Naps", "blindOf", "(II)I"⟩, 2), (⟨"NapVoyage$Naps", "blindAlone", "(II)I"⟩, 2), (⟨"NapVoyage$Pad", "write", "(I)Z"⟩, 2), (⟨"NapVoyage$Pad", "faultPlace", "()I"⟩, 2), (⟨"NapVoyage$Boat", "setOut", "(LNapVoyage$Way;II)V"⟩, 6), (⟨"NapVoyage$Boat", "sailBy", "(LNapVoyage$Pad;)I"⟩, 6), (⟨"NapVoyage$Boat", "doDeed", "(I)Z"⟩, 6), (⟨"NapVoyage$Track", "pass", "(II)V"⟩, 3), (⟨"NapVoyage$Track", "safe", "()I"⟩, 3), (⟨"NapVoyage$Track", "riskiest", "()I"⟩, 3), (⟨"NapVoyage$Plan", "reaches", "(II)Z"⟩, 4), (⟨"NapVoyage$Plan", "bestFrom", "(IIII)I"⟩, 4), (⟨"NapVoyage$Plan", "fill", "(III)V"⟩, 4), (⟨"NapVoyage$Plan", "planeOf", "(III)LNapVoyage$Plane;"⟩, 4), (⟨"NapVoyage$Plan", "spendable", "(III)I"⟩, 4), (⟨"NapVoyage$Step", "ready", "(LNapVoyage$Way;LNapVoyage$Naps;I)V"⟩, 3)]
theorem lw_r2 : ∀ q ∈ lw_privs_2, lw_okq q := List.forall_mem_cons.mpr ⟨lw_p16, List.forall_mem_cons.mpr ⟨lw_p17, List.forall_mem_cons.mpr ⟨lw_p18, List.forall_mem_cons.mpr ⟨lw_p19, List.forall_mem_cons.mpr ⟨lw_p20, List.forall_mem_cons.mpr ⟨lw_p21, List.forall_mem_cons.mpr ⟨lw_p22, List.forall_mem_cons.mpr ⟨lw_p23, List.forall_mem_cons.mpr ⟨lw_p24, List.forall_mem_cons.mpr ⟨lw_p25, List.forall_mem_cons.mpr ⟨lw_p26, List.forall_mem_cons.mpr ⟨lw_p27, List.forall_mem_cons.mpr ⟨lw_p28, List.forall_mem_cons.mpr ⟨lw_p29, List.forall_mem_cons.mpr ⟨lw_p30, List.forall_mem_cons.mpr ⟨lw_p31, fun _ h => absurd h List.not_mem_nil⟩⟩⟩⟩⟩⟩⟩⟩⟩⟩⟩⟩⟩⟩⟩⟩
theorem lw_p32 : lw_okq (⟨"NapVoyage$Step", "readyFor", "(LNapVoyage$Way;LNapVoyage$Naps;II)V"⟩, 3) := ⟨⟨by decide +kernel, by decide +kernel⟩, List.mem_of_getElem? (i := 93) (by decide +kernel), List.mem_of_getElem? (i := 448) (by decide +kernel), List.mem_of_getElem? (i := 449) (by decide +kernel)⟩
theorem lw_p33 : lw_okq (⟨"NapVoyage$Plan", "fillHour", "(III)V"⟩, 4) := ⟨⟨by decide +kernel, by decide +kernel⟩, List.mem_of_getElem? (i := 109) (by decide +kernel), List.mem_of_getElem? (i := 458) (by decide +kernel), List.mem_of_getElem? (i := 459) (by decide +kernel)⟩
theorem lw_p34 : lw_okq (⟨"NapVoyage$Plane", "put", "(II)V"⟩, 2) := ⟨⟨by decide +kernel, by decide +kernel⟩, List.mem_of_getElem? (i := 430) (by decide +kernel), List.mem_of_getElem? (i := 463) (by decide +kernel), List.mem_of_getElem? (i := 464) (by decide +kernel)⟩
theorem lw_p35 : lw_okq (⟨"NapVoyage$Plan", "planeBehind", "(IIII)LNapVoyage$Plane;"⟩, 4) := ⟨⟨by decide +kernel, by decide +kernel⟩, List.mem_of_getElem? (i := 109) (by decide +kernel), List.mem_of_getElem? (i := 467) (by decide +kernel), List.mem_of_getElem? (i := 468) (by decide +kernel)⟩
theorem lw_p36 : lw_okq (⟨"NapVoyage$Plan", "weigh", "(LNapVoyage$Plane;IILNapVoyage$Plane;)V"⟩, 4) := ⟨⟨by decide +kernel, by decide +kernel⟩, List.mem_of_getElem? (i := 109) (by decide +kernel), List.mem_of_getElem? (i := 474) (by decide +kernel), List.mem_of_getElem? (i := 475) (by decide +kernel)⟩
theorem lw_p37 : lw_okq (⟨"NapVoyage$Step", "safeBy", "(IILNapVoyage$Plane;)I"⟩, 3) := ⟨⟨by decide +kernel, by decide +kernel⟩, List.mem_of_getElem? (i := 93) (by decide +kernel), List.mem_of_getElem? (i := 478) (by decide +kernel), List.mem_of_getElem? (i := 479) (by decide +kernel)⟩
theorem lw_p38 : lw_okq (⟨"NapVoyage$Plane", "at", "(I)I"⟩, 2) := ⟨⟨by decide +kernel, by decide +kernel⟩, List.mem_of_getElem? (i := 430) (by decide +kernel), List.mem_of_getElem? (i := 482) (by decide +kernel), List.mem_of_getElem? (i := 483) (by decide +kernel)⟩
theorem lw_p39 : lw_okq (⟨"NapVoyage$Plan", "firstDeed", "(IIII)I"⟩, 4) := ⟨⟨by decide +kernel, by decide +kernel⟩, List.mem_of_getElem? (i := 109) (by decide +kernel), List.mem_of_getElem? (i := 492) (by decide +kernel), List.mem_of_getElem? (i := 493) (by decide +kernel)⟩
theorem lw_p40 : lw_okq (⟨"NapVoyage$Plan", "deedThere", "(IIII)I"⟩, 4) := ⟨⟨by decide +kernel, by decide +kernel⟩, List.mem_of_getElem? (i := 109) (by decide +kernel), List.mem_of_getElem? (i := 496) (by decide +kernel), List.mem_of_getElem? (i := 497) (by decide +kernel)⟩
theorem lw_p41 : lw_okq (⟨"NapVoyage$Plan", "follow", "(III)I"⟩, 4) := ⟨⟨by decide +kernel, by decide +kernel⟩, List.mem_of_getElem? (i := 109) (by decide +kernel), List.mem_of_getElem? (i := 508) (by decide +kernel), List.mem_of_getElem? (i := 509) (by decide +kernel)⟩
theorem lw_p42 : lw_okq (⟨"NapVoyage$Boat", "sailByThumb", "(I)V"⟩, 6) := ⟨⟨by decide +kernel, by decide +kernel⟩, List.mem_of_getElem? (i := 147) (by decide +kernel), List.mem_of_getElem? (i := 518) (by decide +kernel), List.mem_of_getElem? (i := 519) (by decide +kernel)⟩
theorem lw_p43 : lw_okq (⟨"NapVoyage$Boat", "thingByThumb", "(I)I"⟩, 6) := ⟨⟨by decide +kernel, by decide +kernel⟩, List.mem_of_getElem? (i := 147) (by decide +kernel), List.mem_of_getElem? (i := 522) (by decide +kernel), List.mem_of_getElem? (i := 523) (by decide +kernel)⟩
theorem lw_p44 : lw_okq (⟨"NapVoyage$Boat", "saidByThumb", "(I)Z"⟩, 6) := ⟨⟨by decide +kernel, by decide +kernel⟩, List.mem_of_getElem? (i := 147) (by decide +kernel), List.mem_of_getElem? (i := 526) (by decide +kernel), List.mem_of_getElem? (i := 527) (by decide +kernel)⟩
theorem lw_p45 : lw_okq (⟨"NapVoyage$Boat", "safeByTurns", "(LNapVoyage$Way;II)I"⟩, 6) := ⟨⟨by decide +kernel, by decide +kernel⟩, List.mem_of_getElem? (i := 147) (by decide +kernel), List.mem_of_getElem? (i := 547) (by decide +kernel), List.mem_of_getElem? (i := 548) (by decide +kernel)⟩
theorem lw_p46 : lw_okq (⟨"NapVoyage$Track", "struckBy", "(I)I"⟩, 3) := ⟨⟨by decide +kernel, by decide +kernel⟩, List.mem_of_getElem? (i := 153) (by decide +kernel), List.mem_of_getElem? (i := 574) (by decide +kernel), List.mem_of_getElem? (i := 575) (by decide +kernel)⟩
theorem lw_p47 : lw_okq (⟨"NapVoyage$Chart", "copy", "(LNapVoyage$Chart;)V"⟩, 2) := ⟨⟨by decide +kernel, by decide +kernel⟩, List.mem_of_getElem? (i := 23) (by decide +kernel), List.mem_of_getElem? (i := 586) (by decide +kernel), List.mem_of_getElem? (i := 587) (by decide +kernel)⟩
def lw_privs_3 : List (MethodName × Nat) := [(⟨"NapVoyage$Step", "readyFor", "(LNapVoyage$Way;LNapVoyage$Naps;II)V"⟩, 3), (⟨"NapVoyage$Plan", "fillHour", "(III)V"⟩, 4), (⟨"NapVoyage$Plane", "put", "(II)V"⟩, 2), (⟨"NapVoyage$Plan", "planeBehind", "(IIII)LNapVoyage$Plane;"⟩, 4), (⟨"NapVoyage$Plan", "weigh", "(LNapVoyage$Plane;IILNapVoyage$Plane;)V"⟩, 4), (⟨"NapVoyage$Step", "safeBy", "(IILNapVoyage$Plane;)I"⟩, 3), (⟨"NapVoyage$Plane", "at", "(I)I"⟩, 2), (⟨"NapVoyage$Plan", "firstDeed", "(IIII)I"⟩, 4), (⟨"NapVoyage$Plan", "deedThere", "(IIII)I"⟩, 4), (⟨"NapVoyage$Plan", "follow", "(III)I"⟩, 4), (⟨"NapVoyage$Boat", "sailByThumb", "(I)V"⟩, 6), (⟨"NapVoyage$Boat", "thingByThumb", "(I)I"⟩, 6), (⟨"NapVoyage$Boat", "saidByThumb", "(I)Z"⟩, 6), (⟨"NapVoyage$Boat", "safeByTurns", "(LNapVoyage$Way;II)I"⟩, 6), (⟨"NapVoyage$Track", "struckBy", "(I)I"⟩, 3), (⟨"NapVoyage$Chart", "copy", "(LNapVoyage$Chart;)V"⟩, 2)]
theorem lw_r3 : ∀ q ∈ lw_privs_3, lw_okq q := List.forall_mem_cons.mpr ⟨lw_p32, List.forall_mem_cons.mpr ⟨lw_p33, List.forall_mem_cons.mpr ⟨lw_p34, List.forall_mem_cons.mpr ⟨lw_p35, List.forall_mem_cons.mpr ⟨lw_p36, List.forall_mem_cons.mpr ⟨lw_p37, List.forall_mem_cons.mpr ⟨lw_p38, List.forall_mem_cons.mpr ⟨lw_p39, List.forall_mem_cons.mpr ⟨lw_p40, List.forall_mem_cons.mpr ⟨lw_p41, List.forall_mem_cons.mpr ⟨lw_p42, List.forall_mem_cons.mpr ⟨lw_p43, List.forall_mem_cons.mpr ⟨lw_p44, List.forall_mem_cons.mpr ⟨lw_p45, List.forall_mem_cons.mpr ⟨lw_p46, List.forall_mem_cons.mpr ⟨lw_p47, fun _ h => absurd h List.not_mem_nil⟩⟩⟩⟩⟩⟩⟩⟩⟩⟩⟩⟩⟩⟩⟩⟩
theorem lw_p48 : lw_okq (⟨"NapVoyage$Way", "copy", "(LNapVoyage$Way;)V"⟩, 7) := ⟨⟨by decide +kernel, by decide +kernel⟩, List.mem_of_getElem? (i := 30) (by decide +kernel), List.mem_of_getElem? (i := 590) (by decide +kernel), List.mem_of_getElem? (i := 591) (by decide +kernel)⟩
theorem lw_p49 : lw_okq (⟨"NapVoyage$Naps", "copy", "(LNapVoyage$Naps;)V"⟩, 2) := ⟨⟨by decide +kernel, by decide +kernel⟩, List.mem_of_getElem? (i := 66) (by decide +kernel), List.mem_of_getElem? (i := 597) (by decide +kernel), List.mem_of_getElem? (i := 598) (by decide +kernel)⟩
theorem lw_p50 : lw_okq (⟨"NapVoyageModel", "layHours", "(I)V"⟩, 27) := ⟨⟨by decide +kernel, by decide +kernel⟩, List.mem_of_getElem? (i := 610) (by decide +kernel), List.mem_of_getElem? (i := 714) (by decide +kernel), List.mem_of_getElem? (i := 715) (by decide +kernel)⟩
theorem lw_p51 : lw_okq (⟨"NapVoyageModel", "isHour", "(II)Z"⟩, 27) := ⟨⟨by decide +kernel, by decide +kernel⟩, List.mem_of_getElem? (i := 610) (by decide +kernel), List.mem_of_getElem? (i := 737) (by decide +kernel), List.mem_of_getElem? (i := 738) (by decide +kernel)⟩
theorem lw_p52 : lw_okq (⟨"NapVoyageModel", "canBe", "(III)Z"⟩, 27) := ⟨⟨by decide +kernel, by decide +kernel⟩, List.mem_of_getElem? (i := 610) (by decide +kernel), List.mem_of_getElem? (i := 746) (by decide +kernel), List.mem_of_getElem? (i := 747) (by decide +kernel)⟩
theorem lw_p53 : lw_okq (⟨"NapVoyageModel", "isSquall", "(II)Z"⟩, 27) := ⟨⟨by decide +kernel, by decide +kernel⟩, List.mem_of_getElem? (i := 610) (by decide +kernel), List.mem_of_getElem? (i := 750) (by decide +kernel), List.mem_of_getElem? (i := 751) (by decide +kernel)⟩
theorem lw_p54 : lw_okq (⟨"NapVoyageModel", "owedBehind", "(IIII)I"⟩, 27) := ⟨⟨by decide +kernel, by decide +kernel⟩, List.mem_of_getElem? (i := 610) (by decide +kernel), List.mem_of_getElem? (i := 754) (by decide +kernel), List.mem_of_getElem? (i := 755) (by decide +kernel)⟩
theorem lw_p55 : lw_okq (⟨"NapVoyageModel", "riskOf", "(IIIII)I"⟩, 27) := ⟨⟨by decide +kernel, by decide +kernel⟩, List.mem_of_getElem? (i := 610) (by decide +kernel), List.mem_of_getElem? (i := 765) (by decide +kernel), List.mem_of_getElem? (i := 766) (by decide +kernel)⟩
theorem lw_p56 : lw_okq (⟨"NapVoyageModel", "blindOf", "(III)I"⟩, 27) := ⟨⟨by decide +kernel, by decide +kernel⟩, List.mem_of_getElem? (i := 610) (by decide +kernel), List.mem_of_getElem? (i := 769) (by decide +kernel), List.mem_of_getElem? (i := 770) (by decide +kernel)⟩
theorem lw_p57 : lw_okq (⟨"NapVoyageModel", "judgeAll", "(III)V"⟩, 27) := ⟨⟨by decide +kernel, by decide +kernel⟩, List.mem_of_getElem? (i := 610) (by decide +kernel), List.mem_of_getElem? (i := 796) (by decide +kernel), List.mem_of_getElem? (i := 797) (by decide +kernel)⟩
theorem lw_p58 : lw_okq (⟨"NapVoyageModel", "doThing", "(III)Z"⟩, 27) := ⟨⟨by decide +kernel, by decide +kernel⟩, List.mem_of_getElem? (i := 610) (by decide +kernel), List.mem_of_getElem? (i := 800) (by decide +kernel), List.mem_of_getElem? (i := 801) (by decide +kernel)⟩
theorem lw_p59 : lw_okq (⟨"NapVoyageModel", "passHour", "(III)V"⟩, 27) := ⟨⟨by decide +kernel, by decide +kernel⟩, List.mem_of_getElem? (i := 610) (by decide +kernel), List.mem_of_getElem? (i := 804) (by decide +kernel), List.mem_of_getElem? (i := 805) (by decide +kernel)⟩
theorem lw_p60 : lw_okq (⟨"NapVoyageModel", "safeOfTimes", "()I"⟩, 27) := ⟨⟨by decide +kernel, by decide +kernel⟩, List.mem_of_getElem? (i := 610) (by decide +kernel), List.mem_of_getElem? (i := 808) (by decide +kernel), List.mem_of_getElem? (i := 809) (by decide +kernel)⟩
theorem lw_p61 : lw_okq (⟨"NapVoyageModel", "mostRisk", "()I"⟩, 27) := ⟨⟨by decide +kernel, by decide +kernel⟩, List.mem_of_getElem? (i := 610) (by decide +kernel), List.mem_of_getElem? (i := 817) (by decide +kernel), List.mem_of_getElem? (i := 818) (by decide +kernel)⟩
theorem lw_p62 : lw_okq (⟨"NapVoyageModel", "isPlace", "(IIIII)Z"⟩, 27) := ⟨⟨by decide +kernel, by decide +kernel⟩, List.mem_of_getElem? (i := 610) (by decide +kernel), List.mem_of_getElem? (i := 825) (by decide +kernel), List.mem_of_getElem? (i := 826) (by decide +kernel)⟩
theorem lw_p63 : lw_okq (⟨"NapVoyageModel", "bestOf", "(IIIII)I"⟩, 27) := ⟨⟨by decide +kernel, by decide +kernel⟩, List.mem_of_getElem? (i := 610) (by decide +kernel), List.mem_of_getElem? (i := 829) (by decide +kernel), List.mem_of_getElem? (i := 830) (by decide +kernel)⟩
def lw_privs_4 : List (MethodName × Nat) := [(⟨"NapVoyage$Way", "copy", "(LNapVoyage$Way;)V"⟩, 7), (⟨"NapVoyage$Naps", "copy", "(LNapVoyage$Naps;)V"⟩, 2), (⟨"NapVoyageModel", "layHours", "(I)V"⟩, 27), (⟨"NapVoyageModel", "isHour", "(II)Z"⟩, 27), (⟨"NapVoyageModel", "canBe", "(III)Z"⟩, 27), (⟨"NapVoyageModel", "isSquall", "(II)Z"⟩, 27), (⟨"NapVoyageModel", "owedBehind", "(IIII)I"⟩, 27), (⟨"NapVoyageModel", "riskOf", "(IIIII)I"⟩, 27), (⟨"NapVoyageModel", "blindOf", "(III)I"⟩, 27), (⟨"NapVoyageModel", "judgeAll", "(III)V"⟩, 27), (⟨"NapVoyageModel", "doThing", "(III)Z"⟩, 27), (⟨"NapVoyageModel", "passHour", "(III)V"⟩, 27), (⟨"NapVoyageModel", "safeOfTimes", "()I"⟩, 27), (⟨"NapVoyageModel", "mostRisk", "()I"⟩, 27), (⟨"NapVoyageModel", "isPlace", "(IIIII)Z"⟩, 27), (⟨"NapVoyageModel", "bestOf", "(IIIII)I"⟩, 27)]
theorem lw_r4 : ∀ q ∈ lw_privs_4, lw_okq q := List.forall_mem_cons.mpr ⟨lw_p48, List.forall_mem_cons.mpr ⟨lw_p49, List.forall_mem_cons.mpr ⟨lw_p50, List.forall_mem_cons.mpr ⟨lw_p51, List.forall_mem_cons.mpr ⟨lw_p52, List.forall_mem_cons.mpr ⟨lw_p53, List.forall_mem_cons.mpr ⟨lw_p54, List.forall_mem_cons.mpr ⟨lw_p55, List.forall_mem_cons.mpr ⟨lw_p56, List.forall_mem_cons.mpr ⟨lw_p57, List.forall_mem_cons.mpr ⟨lw_p58, List.forall_mem_cons.mpr ⟨lw_p59, List.forall_mem_cons.mpr ⟨lw_p60, List.forall_mem_cons.mpr ⟨lw_p61, List.forall_mem_cons.mpr ⟨lw_p62, List.forall_mem_cons.mpr ⟨lw_p63, fun _ h => absurd h List.not_mem_nil⟩⟩⟩⟩⟩⟩⟩⟩⟩⟩⟩⟩⟩⟩⟩⟩
theorem lw_p64 : lw_okq (⟨"NapVoyageModel", "lay", "(I)V"⟩, 27) := ⟨⟨by decide +kernel, by decide +kernel⟩, List.mem_of_getElem? (i := 610) (by decide +kernel), List.mem_of_getElem? (i := 833) (by decide +kernel), List.mem_of_getElem? (i := 834) (by decide +kernel)⟩
theorem lw_p65 : lw_okq (⟨"NapVoyageModel", "valueOf", "(IIIIIII)I"⟩, 27) := ⟨⟨by decide +kernel, by decide +kernel⟩, List.mem_of_getElem? (i := 610) (by decide +kernel), List.mem_of_getElem? (i := 840) (by decide +kernel), List.mem_of_getElem? (i := 841) (by decide +kernel)⟩
theorem lw_p66 : lw_okq (⟨"NapVoyageModel", "doesOf", "(IIIII)I"⟩, 27) := ⟨⟨by decide +kernel, by decide +kernel⟩, List.mem_of_getElem? (i := 610) (by decide +kernel), List.mem_of_getElem? (i := 851) (by decide +kernel), List.mem_of_getElem? (i := 852) (by decide +kernel)⟩
theorem lw_p67 : lw_okq (⟨"NapVoyageModel", "thumbAll", "(III)V"⟩, 27) := ⟨⟨by decide +kernel, by decide +kernel⟩, List.mem_of_getElem? (i := 610) (by decide +kernel), List.mem_of_getElem? (i := 864) (by decide +kernel), List.mem_of_getElem? (i := 865) (by decide +kernel)⟩
theorem lw_p68 : lw_okq (⟨"NapVoyageModel", "thumbDoes", "(IIII)I"⟩, 27) := ⟨⟨by decide +kernel, by decide +kernel⟩, List.mem_of_getElem? (i := 610) (by decide +kernel), List.mem_of_getElem? (i := 868) (by decide +kernel), List.mem_of_getElem? (i := 869) (by decide +kernel)⟩
theorem lw_p69 : lw_okq (⟨"NapVoyageModel", "twoOf", "(III)I"⟩, 27) := ⟨⟨by decide +kernel, by decide +kernel⟩, List.mem_of_getElem? (i := 610) (by decide +kernel), List.mem_of_getElem? (i := 888) (by decide +kernel), List.mem_of_getElem? (i := 889) (by decide +kernel)⟩
theorem lw_p70 : lw_okq (⟨"NapVoyageModel", "thousandth", "()I"⟩, 27) := ⟨⟨by decide +kernel, by decide +kernel⟩, List.mem_of_getElem? (i := 610) (by decide +kernel), List.mem_of_getElem? (i := 913) (by decide +kernel), List.mem_of_getElem? (i := 914) (by decide +kernel)⟩
theorem lw_p71 : lw_okq (⟨"NapVoyageModel", "passAll", "()V"⟩, 27) := ⟨⟨by decide +kernel, by decide +kernel⟩, List.mem_of_getElem? (i := 610) (by decide +kernel), List.mem_of_getElem? (i := 922) (by decide +kernel), List.mem_of_getElem? (i := 923) (by decide +kernel)⟩
theorem lw_p72 : lw_okq (⟨"NapVoyageModel", "pass", "(I)I"⟩, 27) := ⟨⟨by decide +kernel, by decide +kernel⟩, List.mem_of_getElem? (i := 610) (by decide +kernel), List.mem_of_getElem? (i := 926) (by decide +kernel), List.mem_of_getElem? (i := 927) (by decide +kernel)⟩
def lw_privs_5 : List (MethodName × Nat) := [(⟨"NapVoyageModel", "lay", "(I)V"⟩, 27), (⟨"NapVoyageModel", "valueOf", "(IIIIIII)I"⟩, 27), (⟨"NapVoyageModel", "doesOf", "(IIIII)I"⟩, 27), (⟨"NapVoyageModel", "thumbAll", "(III)V"⟩, 27), (⟨"NapVoyageModel", "thumbDoes", "(IIII)I"⟩, 27), (⟨"NapVoyageModel", "twoOf", "(III)I"⟩, 27), (⟨"NapVoyageModel", "thousandth", "()I"⟩, 27), (⟨"NapVoyageModel", "passAll", "()V"⟩, 27), (⟨"NapVoyageModel", "pass", "(I)I"⟩, 27)]
theorem lw_r5 : ∀ q ∈ lw_privs_5, lw_okq q := List.forall_mem_cons.mpr ⟨lw_p64, List.forall_mem_cons.mpr ⟨lw_p65, List.forall_mem_cons.mpr ⟨lw_p66, List.forall_mem_cons.mpr ⟨lw_p67, List.forall_mem_cons.mpr ⟨lw_p68, List.forall_mem_cons.mpr ⟨lw_p69, List.forall_mem_cons.mpr ⟨lw_p70, List.forall_mem_cons.mpr ⟨lw_p71, List.forall_mem_cons.mpr ⟨lw_p72, fun _ h => absurd h List.not_mem_nil⟩⟩⟩⟩⟩⟩⟩⟩⟩
def lw_privs : List (MethodName × Nat) := lw_privs_1 ++ (lw_privs_2 ++ (lw_privs_3 ++ (lw_privs_4 ++ (lw_privs_5))))
def lw_tbl : List Cond := k2_sels lw_privs ++ tables_1
theorem lw_privs_ok : ∀ q ∈ lw_privs, lw_okq q := by
  show ∀ q ∈ lw_privs_1 ++ (lw_privs_2 ++ (lw_privs_3 ++ (lw_privs_4 ++ (lw_privs_5)))), lw_okq q
  exact List.forall_mem_append.mpr ⟨lw_r1, List.forall_mem_append.mpr ⟨lw_r2, List.forall_mem_append.mpr ⟨lw_r3, List.forall_mem_append.mpr ⟨lw_r4, lw_r5⟩⟩⟩⟩
def RX0 : String := "NapVoyage$Boat"
def TX0 : u_T := fun k => match k with
  | 0 => ("NapVoyage$Boat", "naps", "LNapVoyage$Naps;", true)
  | 1 => ("NapVoyage$Boat", "track", "LNapVoyage$Track;", true)
  | 2 => ("NapVoyage$Boat", "way", "LNapVoyage$Way;", false)
  | 3 => ("NapVoyage$Boat", "hour", "I", false)
  | 4 => ("NapVoyage$Boat", "owes", "I", false)
  | _ => ("NapVoyage$Boat", "charge", "I", false)
def tyX0 : Nat → FieldType := fun k => match k with
  | 0 => .object "NapVoyage$Naps"
  | 1 => .object "NapVoyage$Track"
  | 2 => .object "NapVoyage$Way"
  | 3 => .int
  | 4 => .int
  | _ => .int
theorem nmX0 : ∀ a, a < 6 → ∀ b, b < 6 → a ≠ b → (TX0 a).2.1 ≠ (TX0 b).2.1 := by decide +kernel
theorem tyX0_ok : ∀ k, k < 6 → parseFieldDescriptor (TX0 k).2.2.1 = some (tyX0 k) := by decide +kernel
abbrev cX0_init : ByteArray := prog_2_method_1_code
def yX0_init : MethodName := ⟨RX0, "<init>", "(LNapVoyage$Naps;)V"⟩
abbrev cX0_setOut : ByteArray := prog_2_method_2_code
def yX0_setOut : MethodName := ⟨RX0, "setOut", "(LNapVoyage$Way;II)V"⟩
abbrev cX0_sailBy : ByteArray := prog_2_method_3_code
def yX0_sailBy : MethodName := ⟨RX0, "sailBy", "(LNapVoyage$Pad;)I"⟩
abbrev cX0_sailByThumb : ByteArray := prog_2_method_4_code
def yX0_sailByThumb : MethodName := ⟨RX0, "sailByThumb", "(I)V"⟩
abbrev cX0_thingByThumb : ByteArray := prog_2_method_5_code
def yX0_thingByThumb : MethodName := ⟨RX0, "thingByThumb", "(I)I"⟩
abbrev cX0_saidByThumb : ByteArray := prog_2_method_6_code
def yX0_saidByThumb : MethodName := ⟨RX0, "saidByThumb", "(I)Z"⟩
abbrev cX0_doDeed : ByteArray := prog_2_method_7_code
def yX0_doDeed : MethodName := ⟨RX0, "doDeed", "(I)Z"⟩
abbrev cX0_safeByTurns : ByteArray := prog_2_method_8_code
def yX0_safeByTurns : MethodName := ⟨RX0, "safeByTurns", "(LNapVoyage$Way;II)I"⟩
def RX1 : String := "NapVoyage$Chart"
def TX1 : u_T := fun k => match k with
  | 0 => ("NapVoyage$Chart", "ways", "[LNapVoyage$Way;", true)
  | _ => ("NapVoyage$Chart", "naps", "LNapVoyage$Naps;", true)
def tyX1 : Nat → FieldType := fun k => match k with
  | 0 => .array (.object "NapVoyage$Way")
  | _ => .object "NapVoyage$Naps"
theorem nmX1 : ∀ a, a < 2 → ∀ b, b < 2 → a ≠ b → (TX1 a).2.1 ≠ (TX1 b).2.1 := by decide +kernel
theorem tyX1_ok : ∀ k, k < 2 → parseFieldDescriptor (TX1 k).2.2.1 = some (tyX1 k) := by decide +kernel
abbrev cX1_init : ByteArray := prog_3_method_1_code
def yX1_init : MethodName := ⟨RX1, "<init>", "()V"⟩
abbrev cX1_copy : ByteArray := prog_3_method_2_code
def yX1_copy : MethodName := ⟨RX1, "copy", "(LNapVoyage$Chart;)V"⟩
def RX2 : String := "NapVoyage$Naps"
def TX2 : u_T := fun k => match k with
  | 0 => ("NapVoyage$Naps", "give", "[I", true)
  | _ => ("NapVoyage$Naps", "deep", "[I", true)
def tyX2 : Nat → FieldType := fun k => match k with
  | 0 => .array .int
  | _ => .array .int
theorem nmX2 : ∀ a, a < 2 → ∀ b, b < 2 → a ≠ b → (TX2 a).2.1 ≠ (TX2 b).2.1 := by decide +kernel
theorem tyX2_ok : ∀ k, k < 2 → parseFieldDescriptor (TX2 k).2.2.1 = some (tyX2 k) := by decide +kernel
abbrev cX2_init : ByteArray := prog_4_method_1_code
def yX2_init : MethodName := ⟨RX2, "<init>", "()V"⟩
abbrev cX2_changeGive : ByteArray := prog_4_method_2_code
def yX2_changeGive : MethodName := ⟨RX2, "changeGive", "(II)I"⟩
abbrev cX2_changeDeep : ByteArray := prog_4_method_3_code
def yX2_changeDeep : MethodName := ⟨RX2, "changeDeep", "(II)I"⟩
abbrev cX2_owedBehind : ByteArray := prog_4_method_4_code
def yX2_owedBehind : MethodName := ⟨RX2, "owedBehind", "(LNapVoyage$Way;III)I"⟩
abbrev cX2_blindOf : ByteArray := prog_4_method_5_code
def yX2_blindOf : MethodName := ⟨RX2, "blindOf", "(II)I"⟩
abbrev cX2_blindAlone : ByteArray := prog_4_method_6_code
def yX2_blindAlone : MethodName := ⟨RX2, "blindAlone", "(II)I"⟩
abbrev cX2_copy : ByteArray := prog_4_method_7_code
def yX2_copy : MethodName := ⟨RX2, "copy", "(LNapVoyage$Naps;)V"⟩
def RX3 : String := "NapVoyage$Pad"
def TX3 : u_T := fun k => match k with
  | 0 => ("NapVoyage$Pad", "count", "I", false)
  | _ => ("NapVoyage$Pad", "signs", "[I", true)
def tyX3 : Nat → FieldType := fun k => match k with
  | 0 => .int
  | _ => .array .int
theorem nmX3 : ∀ a, a < 2 → ∀ b, b < 2 → a ≠ b → (TX3 a).2.1 ≠ (TX3 b).2.1 := by decide +kernel
theorem tyX3_ok : ∀ k, k < 2 → parseFieldDescriptor (TX3 k).2.2.1 = some (tyX3 k) := by decide +kernel
abbrev cX3_init : ByteArray := prog_5_method_1_code
def yX3_init : MethodName := ⟨RX3, "<init>", "()V"⟩
abbrev cX3_write : ByteArray := prog_5_method_2_code
def yX3_write : MethodName := ⟨RX3, "write", "(I)Z"⟩
abbrev cX3_faultPlace : ByteArray := prog_5_method_3_code
def yX3_faultPlace : MethodName := ⟨RX3, "faultPlace", "()I"⟩
abbrev cX3_wantedBehind : ByteArray := prog_5_method_4_code
def yX3_wantedBehind : MethodName := ⟨RX3, "wantedBehind", "(II)I"⟩
abbrev cX3_thingOf : ByteArray := prog_5_method_5_code
def yX3_thingOf : MethodName := ⟨RX3, "thingOf", "(I)I"⟩
def RX4 : String := "NapVoyage$Plan"
def TX4 : u_T := fun k => match k with
  | 0 => ("NapVoyage$Plan", "way", "LNapVoyage$Way;", true)
  | 1 => ("NapVoyage$Plan", "naps", "LNapVoyage$Naps;", true)
  | 2 => ("NapVoyage$Plan", "step", "LNapVoyage$Step;", true)
  | _ => ("NapVoyage$Plan", "planes", "[LNapVoyage$Plane;", true)
def tyX4 : Nat → FieldType := fun k => match k with
  | 0 => .object "NapVoyage$Way"
  | 1 => .object "NapVoyage$Naps"
  | 2 => .object "NapVoyage$Step"
  | _ => .array (.object "NapVoyage$Plane")
theorem nmX4 : ∀ a, a < 4 → ∀ b, b < 4 → a ≠ b → (TX4 a).2.1 ≠ (TX4 b).2.1 := by decide +kernel
theorem tyX4_ok : ∀ k, k < 4 → parseFieldDescriptor (TX4 k).2.2.1 = some (tyX4 k) := by decide +kernel
abbrev cX4_init : ByteArray := prog_6_method_1_code
def yX4_init : MethodName := ⟨RX4, "<init>", "(LNapVoyage$Way;LNapVoyage$Naps;LNapVoyage$Step;)V"⟩
abbrev cX4_forget : ByteArray := prog_6_method_2_code
def yX4_forget : MethodName := ⟨RX4, "forget", "()V"⟩
abbrev cX4_reaches : ByteArray := prog_6_method_3_code
def yX4_reaches : MethodName := ⟨RX4, "reaches", "(II)Z"⟩
abbrev cX4_bestFrom : ByteArray := prog_6_method_4_code
def yX4_bestFrom : MethodName := ⟨RX4, "bestFrom", "(IIII)I"⟩
abbrev cX4_firstDeed : ByteArray := prog_6_method_5_code
def yX4_firstDeed : MethodName := ⟨RX4, "firstDeed", "(IIII)I"⟩
abbrev cX4_follow : ByteArray := prog_6_method_6_code
def yX4_follow : MethodName := ⟨RX4, "follow", "(III)I"⟩
abbrev cX4_fill : ByteArray := prog_6_method_7_code
def yX4_fill : MethodName := ⟨RX4, "fill", "(III)V"⟩
abbrev cX4_fillHour : ByteArray := prog_6_method_8_code
def yX4_fillHour : MethodName := ⟨RX4, "fillHour", "(III)V"⟩
abbrev cX4_weigh : ByteArray := prog_6_method_9_code
def yX4_weigh : MethodName := ⟨RX4, "weigh", "(LNapVoyage$Plane;IILNapVoyage$Plane;)V"⟩
abbrev cX4_deedThere : ByteArray := prog_6_method_10_code
def yX4_deedThere : MethodName := ⟨RX4, "deedThere", "(IIII)I"⟩
abbrev cX4_planeBehind : ByteArray := prog_6_method_11_code
def yX4_planeBehind : MethodName := ⟨RX4, "planeBehind", "(IIII)LNapVoyage$Plane;"⟩
abbrev cX4_planeOf : ByteArray := prog_6_method_12_code
def yX4_planeOf : MethodName := ⟨RX4, "planeOf", "(III)LNapVoyage$Plane;"⟩
abbrev cX4_spendable : ByteArray := prog_6_method_13_code
def yX4_spendable : MethodName := ⟨RX4, "spendable", "(III)I"⟩
def RX5 : String := "NapVoyage$Plane"
def TX5 : u_T := fun k => match k with
  | 0 => ("NapVoyage$Plane", "from", "I", false)
  | _ => ("NapVoyage$Plane", "safe", "[I", true)
def tyX5 : Nat → FieldType := fun k => match k with
  | 0 => .int
  | _ => .array .int
theorem nmX5 : ∀ a, a < 2 → ∀ b, b < 2 → a ≠ b → (TX5 a).2.1 ≠ (TX5 b).2.1 := by decide +kernel
theorem tyX5_ok : ∀ k, k < 2 → parseFieldDescriptor (TX5 k).2.2.1 = some (tyX5 k) := by decide +kernel
abbrev cX5_init : ByteArray := prog_7_method_1_code
def yX5_init : MethodName := ⟨RX5, "<init>", "()V"⟩
abbrev cX5_at : ByteArray := prog_7_method_2_code
def yX5_at : MethodName := ⟨RX5, "at", "(I)I"⟩
abbrev cX5_put : ByteArray := prog_7_method_3_code
def yX5_put : MethodName := ⟨RX5, "put", "(II)V"⟩
def RX6 : String := "NapVoyage$Step"
def TX6 : u_T := fun k => match k with
  | 0 => ("NapVoyage$Step", "next", "[I", true)
  | 1 => ("NapVoyage$Step", "passed", "[I", true)
  | _ => ("NapVoyage$Step", "passedSecond", "[I", true)
def tyX6 : Nat → FieldType := fun k => match k with
  | 0 => .array .int
  | 1 => .array .int
  | _ => .array .int
theorem nmX6 : ∀ a, a < 3 → ∀ b, b < 3 → a ≠ b → (TX6 a).2.1 ≠ (TX6 b).2.1 := by decide +kernel
theorem tyX6_ok : ∀ k, k < 3 → parseFieldDescriptor (TX6 k).2.2.1 = some (tyX6 k) := by decide +kernel
abbrev cX6_init : ByteArray := prog_8_method_1_code
def yX6_init : MethodName := ⟨RX6, "<init>", "()V"⟩
abbrev cX6_ready : ByteArray := prog_8_method_2_code
def yX6_ready : MethodName := ⟨RX6, "ready", "(LNapVoyage$Way;LNapVoyage$Naps;I)V"⟩
abbrev cX6_readyFor : ByteArray := prog_8_method_3_code
def yX6_readyFor : MethodName := ⟨RX6, "readyFor", "(LNapVoyage$Way;LNapVoyage$Naps;II)V"⟩
abbrev cX6_safeBy : ByteArray := prog_8_method_4_code
def yX6_safeBy : MethodName := ⟨RX6, "safeBy", "(IILNapVoyage$Plane;)I"⟩
def RX7 : String := "NapVoyage$Track"
def TX7 : u_T := fun k => match k with
  | 0 => ("NapVoyage$Track", "times", "I", false)
  | 1 => ("NapVoyage$Track", "ships", "[I", true)
  | _ => ("NapVoyage$Track", "blind", "[I", true)
def tyX7 : Nat → FieldType := fun k => match k with
  | 0 => .int
  | 1 => .array .int
  | _ => .array .int
theorem nmX7 : ∀ a, a < 3 → ∀ b, b < 3 → a ≠ b → (TX7 a).2.1 ≠ (TX7 b).2.1 := by decide +kernel
theorem tyX7_ok : ∀ k, k < 3 → parseFieldDescriptor (TX7 k).2.2.1 = some (tyX7 k) := by decide +kernel
abbrev cX7_init : ByteArray := prog_9_method_1_code
def yX7_init : MethodName := ⟨RX7, "<init>", "()V"⟩
abbrev cX7_pass : ByteArray := prog_9_method_2_code
def yX7_pass : MethodName := ⟨RX7, "pass", "(II)V"⟩
abbrev cX7_safe : ByteArray := prog_9_method_3_code
def yX7_safe : MethodName := ⟨RX7, "safe", "()I"⟩
abbrev cX7_riskiest : ByteArray := prog_9_method_4_code
def yX7_riskiest : MethodName := ⟨RX7, "riskiest", "()I"⟩
abbrev cX7_struckBy : ByteArray := prog_9_method_5_code
def yX7_struckBy : MethodName := ⟨RX7, "struckBy", "(I)I"⟩
abbrev cX7_drawBehind : ByteArray := prog_9_method_6_code
def yX7_drawBehind : MethodName := ⟨RX7, "drawBehind", "(I)I"⟩
def RX8 : String := "NapVoyage$Way"
def TX8 : u_T := fun k => match k with
  | 0 => ("NapVoyage$Way", "legs", "I", false)
  | 1 => ("NapVoyage$Way", "hours", "I", false)
  | 2 => ("NapVoyage$Way", "legHours", "[I", true)
  | 3 => ("NapVoyage$Way", "legShips", "[I", true)
  | 4 => ("NapVoyage$Way", "legSquall", "[I", true)
  | 5 => ("NapVoyage$Way", "hourShips", "[I", true)
  | _ => ("NapVoyage$Way", "hourSquall", "[I", true)
def tyX8 : Nat → FieldType := fun k => match k with
  | 0 => .int
  | 1 => .int
  | 2 => .array .int
  | 3 => .array .int
  | 4 => .array .int
  | 5 => .array .int
  | _ => .array .int
theorem nmX8 : ∀ a, a < 7 → ∀ b, b < 7 → a ≠ b → (TX8 a).2.1 ≠ (TX8 b).2.1 := by decide +kernel
theorem tyX8_ok : ∀ k, k < 7 → parseFieldDescriptor (TX8 k).2.2.1 = some (tyX8 k) := by decide +kernel
abbrev cX8_init : ByteArray := prog_10_method_1_code
def yX8_init : MethodName := ⟨RX8, "<init>", "()V"⟩
abbrev cX8_hasRoom : ByteArray := prog_10_method_2_code
def yX8_hasRoom : MethodName := ⟨RX8, "hasRoom", "(I)Z"⟩
abbrev cX8_hasLeg : ByteArray := prog_10_method_3_code
def yX8_hasLeg : MethodName := ⟨RX8, "hasLeg", "(I)Z"⟩
abbrev cX8_hasHour : ByteArray := prog_10_method_4_code
def yX8_hasHour : MethodName := ⟨RX8, "hasHour", "(I)Z"⟩
abbrev cX8_lengthen : ByteArray := prog_10_method_5_code
def yX8_lengthen : MethodName := ⟨RX8, "lengthen", "(III)V"⟩
abbrev cX8_shorten : ByteArray := prog_10_method_6_code
def yX8_shorten : MethodName := ⟨RX8, "shorten", "()V"⟩
abbrev cX8_firstHourOf : ByteArray := prog_10_method_7_code
def yX8_firstHourOf : MethodName := ⟨RX8, "firstHourOf", "(I)I"⟩
abbrev cX8_shipsAt : ByteArray := prog_10_method_8_code
def yX8_shipsAt : MethodName := ⟨RX8, "shipsAt", "(I)I"⟩
abbrev cX8_squallAt : ByteArray := prog_10_method_9_code
def yX8_squallAt : MethodName := ⟨RX8, "squallAt", "(I)Z"⟩
abbrev cX8_lets : ByteArray := prog_10_method_10_code
def yX8_lets : MethodName := ⟨RX8, "lets", "(II)Z"⟩
abbrev cX8_copy : ByteArray := prog_10_method_11_code
def yX8_copy : MethodName := ⟨RX8, "copy", "(LNapVoyage$Way;)V"⟩
def RX9 : String := "NapVoyage"
def TX9 : u_T := fun k => match k with
  | 0 => ("NapVoyage", "chart", "LNapVoyage$Chart;", true)
  | 1 => ("NapVoyage", "images", "[LNapVoyage$Chart;", true)
  | 2 => ("NapVoyage", "kept", "[Z", true)
  | 3 => ("NapVoyage", "plans", "[LNapVoyage$Plan;", true)
  | 4 => ("NapVoyage", "pad", "LNapVoyage$Pad;", true)
  | _ => ("NapVoyage", "boat", "LNapVoyage$Boat;", true)
def tyX9 : Nat → FieldType := fun k => match k with
  | 0 => .object "NapVoyage$Chart"
  | 1 => .array (.object "NapVoyage$Chart")
  | 2 => .array .boolean
  | 3 => .array (.object "NapVoyage$Plan")
  | 4 => .object "NapVoyage$Pad"
  | _ => .object "NapVoyage$Boat"
theorem nmX9 : ∀ a, a < 6 → ∀ b, b < 6 → a ≠ b → (TX9 a).2.1 ≠ (TX9 b).2.1 := by decide +kernel
theorem tyX9_ok : ∀ k, k < 6 → parseFieldDescriptor (TX9 k).2.2.1 = some (tyX9 k) := by decide +kernel
abbrev cX9_init : ByteArray := prog_1_method_1_code
def yX9_init : MethodName := ⟨RX9, "<init>", "()V"⟩
abbrev cX9_leg : ByteArray := prog_1_method_2_code
def yX9_leg : MethodName := ⟨RX9, "leg", "(IIII)I"⟩
abbrev cX9_cut : ByteArray := prog_1_method_3_code
def yX9_cut : MethodName := ⟨RX9, "cut", "(I)I"⟩
abbrev cX9_about : ByteArray := prog_1_method_4_code
def yX9_about : MethodName := ⟨RX9, "about", "(III)I"⟩
abbrev cX9_nap : ByteArray := prog_1_method_5_code
def yX9_nap : MethodName := ⟨RX9, "nap", "(III)I"⟩
abbrev cX9_owed : ByteArray := prog_1_method_6_code
def yX9_owed : MethodName := ⟨RX9, "owed", "(IIII)I"⟩
abbrev cX9_risk : ByteArray := prog_1_method_7_code
def yX9_risk : MethodName := ⟨RX9, "risk", "(IIIII)I"⟩
abbrev cX9_say : ByteArray := prog_1_method_8_code
def yX9_say : MethodName := ⟨RX9, "say", "(I)I"⟩
abbrev cX9_wipe : ByteArray := prog_1_method_9_code
def yX9_wipe : MethodName := ⟨RX9, "wipe", "()I"⟩
abbrev cX9_fault : ByteArray := prog_1_method_10_code
def yX9_fault : MethodName := ⟨RX9, "fault", "()I"⟩
abbrev cX9_judge : ByteArray := prog_1_method_11_code
def yX9_judge : MethodName := ⟨RX9, "judge", "(IIII)I"⟩
abbrev cX9_best : ByteArray := prog_1_method_12_code
def yX9_best : MethodName := ⟨RX9, "best", "(IIIII)I"⟩
abbrev cX9_does : ByteArray := prog_1_method_13_code
def yX9_does : MethodName := ⟨RX9, "does", "(IIIII)I"⟩
abbrev cX9_logged : ByteArray := prog_1_method_14_code
def yX9_logged : MethodName := ⟨RX9, "logged", "(IIII)I"⟩
abbrev cX9_thumb : ByteArray := prog_1_method_15_code
def yX9_thumb : MethodName := ⟨RX9, "thumb", "(IIII)I"⟩
abbrev cX9_worth : ByteArray := prog_1_method_16_code
def yX9_worth : MethodName := ⟨RX9, "worth", "(IIII)I"⟩
abbrev cX9_round : ByteArray := prog_1_method_17_code
def yX9_round : MethodName := ⟨RX9, "round", "(II)I"⟩
abbrev cX9_soonest : ByteArray := prog_1_method_18_code
def yX9_soonest : MethodName := ⟨RX9, "soonest", "(IIII)I"⟩
abbrev cX9_two : ByteArray := prog_1_method_19_code
def yX9_two : MethodName := ⟨RX9, "two", "(III)I"⟩
abbrev cX9_share : ByteArray := prog_1_method_20_code
def yX9_share : MethodName := ⟨RX9, "share", "(II)I"⟩
abbrev cX9_up : ByteArray := prog_1_method_21_code
def yX9_up : MethodName := ⟨RX9, "up", "(III)I"⟩
abbrev cX9_trust : ByteArray := prog_1_method_22_code
def yX9_trust : MethodName := ⟨RX9, "trust", "(II)I"⟩
abbrev cX9_draw : ByteArray := prog_1_method_23_code
def yX9_draw : MethodName := ⟨RX9, "draw", "(IIII)I"⟩
abbrev cX9_image : ByteArray := prog_1_method_24_code
def yX9_image : MethodName := ⟨RX9, "image", "(I)I"⟩
abbrev cX9_restore : ByteArray := prog_1_method_25_code
def yX9_restore : MethodName := ⟨RX9, "restore", "(I)I"⟩
abbrev cX9_told : ByteArray := prog_1_method_26_code
def yX9_told : MethodName := ⟨RX9, "told", "(I)I"⟩
abbrev cX9_within : ByteArray := prog_1_method_27_code
def yX9_within : MethodName := ⟨RX9, "within", "(III)Z"⟩
abbrev cX9_isOwed : ByteArray := prog_1_method_28_code
def yX9_isOwed : MethodName := ⟨RX9, "isOwed", "(I)Z"⟩
abbrev cX9_isBattery : ByteArray := prog_1_method_29_code
def yX9_isBattery : MethodName := ⟨RX9, "isBattery", "(I)Z"⟩
abbrev cX9_isThing : ByteArray := prog_1_method_30_code
def yX9_isThing : MethodName := ⟨RX9, "isThing", "(I)Z"⟩
abbrev cX9_wayOf : ByteArray := prog_1_method_31_code
def yX9_wayOf : MethodName := ⟨RX9, "wayOf", "(I)LNapVoyage$Way;"⟩
abbrev cX9_planOf : ByteArray := prog_1_method_32_code
def yX9_planOf : MethodName := ⟨RX9, "planOf", "(I)LNapVoyage$Plan;"⟩
abbrev cX9_forgetPlans : ByteArray := prog_1_method_33_code
def yX9_forgetPlans : MethodName := ⟨RX9, "forgetPlans", "()V"⟩
abbrev cX9_getsUp : ByteArray := prog_1_method_34_code
def yX9_getsUp : MethodName := ⟨RX9, "getsUp", "(III)Z"⟩
abbrev cX9_isNight : ByteArray := prog_1_method_35_code
def yX9_isNight : MethodName := ⟨RX9, "isNight", "(I)Z"⟩
abbrev cX9_hoursOf : ByteArray := prog_1_method_36_code
def yX9_hoursOf : MethodName := ⟨RX9, "hoursOf", "(I)I"⟩
abbrev cX9_batteryOf : ByteArray := prog_1_method_37_code
def yX9_batteryOf : MethodName := ⟨RX9, "batteryOf", "(I)I"⟩
abbrev cX9_codeOf : ByteArray := prog_1_method_38_code
def yX9_codeOf : MethodName := ⟨RX9, "codeOf", "(I)I"⟩
abbrev cX9_lessened : ByteArray := prog_1_method_39_code
def yX9_lessened : MethodName := ⟨RX9, "lessened", "(II)I"⟩
def RX10 : String := "NapVoyageModel"
def TX10 : u_T := fun k => match k with
  | 0 => ("NapVoyageModel", "legHours", "[I", true)
  | 1 => ("NapVoyageModel", "legShips", "[I", true)
  | 2 => ("NapVoyageModel", "legSqualls", "[I", true)
  | 3 => ("NapVoyageModel", "legs", "[I", true)
  | 4 => ("NapVoyageModel", "hours", "[I", true)
  | 5 => ("NapVoyageModel", "ships", "[I", true)
  | 6 => ("NapVoyageModel", "squalls", "[I", true)
  | 7 => ("NapVoyageModel", "gives", "[I", true)
  | 8 => ("NapVoyageModel", "deep", "[I", true)
  | 9 => ("NapVoyageModel", "signs", "[I", true)
  | 10 => ("NapVoyageModel", "signMany", "I", false)
  | 11 => ("NapVoyageModel", "timeRisk", "[I", true)
  | 12 => ("NapVoyageModel", "timeShips", "[I", true)
  | 13 => ("NapVoyageModel", "timeBlind", "[I", true)
  | 14 => ("NapVoyageModel", "times", "I", false)
  | 15 => ("NapVoyageModel", "judgedBad", "I", false)
  | 16 => ("NapVoyageModel", "judgedOwed", "I", false)
  | 17 => ("NapVoyageModel", "judgedHour", "I", false)
  | 18 => ("NapVoyageModel", "judgedBattery", "I", false)
  | 19 => ("NapVoyageModel", "bestAt", "[I", true)
  | 20 => ("NapVoyageModel", "isLaid", "[Z", true)
  | 21 => ("NapVoyageModel", "both", "[I", true)
  | 22 => ("NapVoyageModel", "seed", "I", false)
  | 23 => ("NapVoyageModel", "kept", "[I", true)
  | 24 => ("NapVoyageModel", "isKept", "[Z", true)
  | 25 => ("NapVoyageModel", "keptAt", "I", false)
  | _ => ("NapVoyageModel", "isWriting", "Z", false)
def tyX10 : Nat → FieldType := fun k => match k with
  | 0 => .array .int
  | 1 => .array .int
  | 2 => .array .int
  | 3 => .array .int
  | 4 => .array .int
  | 5 => .array .int
  | 6 => .array .int
  | 7 => .array .int
  | 8 => .array .int
  | 9 => .array .int
  | 10 => .int
  | 11 => .array .int
  | 12 => .array .int
  | 13 => .array .int
  | 14 => .int
  | 15 => .int
  | 16 => .int
  | 17 => .int
  | 18 => .int
  | 19 => .array .int
  | 20 => .array .boolean
  | 21 => .array .int
  | 22 => .int
  | 23 => .array .int
  | 24 => .array .boolean
  | 25 => .int
  | _ => .boolean
theorem nmX10 : ∀ a, a < 27 → ∀ b, b < 27 → a ≠ b → (TX10 a).2.1 ≠ (TX10 b).2.1 := by decide +kernel
theorem tyX10_ok : ∀ k, k < 27 → parseFieldDescriptor (TX10 k).2.2.1 = some (tyX10 k) := by decide +kernel
abbrev cX10_init : ByteArray := prog_12_method_1_code
def yX10_init : MethodName := ⟨RX10, "<init>", "()V"⟩
abbrev cX10_in : ByteArray := prog_12_method_3_code
def yX10_in : MethodName := ⟨RX10, "in", "(JJJ)Z"⟩
abbrev cX10_isWay : ByteArray := prog_12_method_4_code
def yX10_isWay : MethodName := ⟨RX10, "isWay", "(I)Z"⟩
abbrev cX10_isOwed : ByteArray := prog_12_method_5_code
def yX10_isOwed : MethodName := ⟨RX10, "isOwed", "(I)Z"⟩
abbrev cX10_isBattery : ByteArray := prog_12_method_6_code
def yX10_isBattery : MethodName := ⟨RX10, "isBattery", "(I)Z"⟩
abbrev cX10_isEnd : ByteArray := prog_12_method_7_code
def yX10_isEnd : MethodName := ⟨RX10, "isEnd", "(I)Z"⟩
abbrev cX10_layHours : ByteArray := prog_12_method_8_code
def yX10_layHours : MethodName := ⟨RX10, "layHours", "(I)V"⟩
abbrev cX10_leg : ByteArray := prog_12_method_9_code
def yX10_leg : MethodName := ⟨RX10, "leg", "(IIII)I"⟩
abbrev cX10_cut : ByteArray := prog_12_method_10_code
def yX10_cut : MethodName := ⟨RX10, "cut", "(I)I"⟩
abbrev cX10_about : ByteArray := prog_12_method_11_code
def yX10_about : MethodName := ⟨RX10, "about", "(III)I"⟩
abbrev cX10_nap : ByteArray := prog_12_method_12_code
def yX10_nap : MethodName := ⟨RX10, "nap", "(III)I"⟩
abbrev cX10_isSquall : ByteArray := prog_12_method_13_code
def yX10_isSquall : MethodName := ⟨RX10, "isSquall", "(II)Z"⟩
abbrev cX10_canBe : ByteArray := prog_12_method_14_code
def yX10_canBe : MethodName := ⟨RX10, "canBe", "(III)Z"⟩
abbrev cX10_isNight : ByteArray := prog_12_method_15_code
def yX10_isNight : MethodName := ⟨RX10, "isNight", "(I)Z"⟩
abbrev cX10_owedBehind : ByteArray := prog_12_method_16_code
def yX10_owedBehind : MethodName := ⟨RX10, "owedBehind", "(IIII)I"⟩
abbrev cX10_blindOf : ByteArray := prog_12_method_17_code
def yX10_blindOf : MethodName := ⟨RX10, "blindOf", "(III)I"⟩
abbrev cX10_riskOf : ByteArray := prog_12_method_18_code
def yX10_riskOf : MethodName := ⟨RX10, "riskOf", "(IIIII)I"⟩
abbrev cX10_lessened : ByteArray := prog_12_method_19_code
def yX10_lessened : MethodName := ⟨RX10, "lessened", "(II)I"⟩
abbrev cX10_isHour : ByteArray := prog_12_method_20_code
def yX10_isHour : MethodName := ⟨RX10, "isHour", "(II)Z"⟩
abbrev cX10_owed : ByteArray := prog_12_method_21_code
def yX10_owed : MethodName := ⟨RX10, "owed", "(IIII)I"⟩
abbrev cX10_risk : ByteArray := prog_12_method_22_code
def yX10_risk : MethodName := ⟨RX10, "risk", "(IIIII)I"⟩
abbrev cX10_say : ByteArray := prog_12_method_23_code
def yX10_say : MethodName := ⟨RX10, "say", "(I)I"⟩
abbrev cX10_wipe : ByteArray := prog_12_method_24_code
def yX10_wipe : MethodName := ⟨RX10, "wipe", "()I"⟩
abbrev cX10_fault : ByteArray := prog_12_method_25_code
def yX10_fault : MethodName := ⟨RX10, "fault", "()I"⟩
abbrev cX10_passHour : ByteArray := prog_12_method_26_code
def yX10_passHour : MethodName := ⟨RX10, "passHour", "(III)V"⟩
abbrev cX10_doThing : ByteArray := prog_12_method_27_code
def yX10_doThing : MethodName := ⟨RX10, "doThing", "(III)Z"⟩
abbrev cX10_judgeAll : ByteArray := prog_12_method_28_code
def yX10_judgeAll : MethodName := ⟨RX10, "judgeAll", "(III)V"⟩
abbrev cX10_safeOfTimes : ByteArray := prog_12_method_29_code
def yX10_safeOfTimes : MethodName := ⟨RX10, "safeOfTimes", "()I"⟩
abbrev cX10_mostRisk : ByteArray := prog_12_method_30_code
def yX10_mostRisk : MethodName := ⟨RX10, "mostRisk", "()I"⟩
abbrev cX10_judge : ByteArray := prog_12_method_31_code
def yX10_judge : MethodName := ⟨RX10, "judge", "(IIII)I"⟩
abbrev cX10_at : ByteArray := prog_12_method_32_code
def yX10_at : MethodName := ⟨RX10, "at", "(IIIII)I"⟩
abbrev cX10_valueOf : ByteArray := prog_12_method_33_code
def yX10_valueOf : MethodName := ⟨RX10, "valueOf", "(IIIIIII)I"⟩
abbrev cX10_triedAt : ByteArray := prog_12_method_34_code
def yX10_triedAt : MethodName := ⟨RX10, "triedAt", "(I)I"⟩
abbrev cX10_lay : ByteArray := prog_12_method_35_code
def yX10_lay : MethodName := ⟨RX10, "lay", "(I)V"⟩
abbrev cX10_bestOf : ByteArray := prog_12_method_36_code
def yX10_bestOf : MethodName := ⟨RX10, "bestOf", "(IIIII)I"⟩
abbrev cX10_doesOf : ByteArray := prog_12_method_37_code
def yX10_doesOf : MethodName := ⟨RX10, "doesOf", "(IIIII)I"⟩
abbrev cX10_isPlace : ByteArray := prog_12_method_38_code
def yX10_isPlace : MethodName := ⟨RX10, "isPlace", "(IIIII)Z"⟩
abbrev cX10_best : ByteArray := prog_12_method_39_code
def yX10_best : MethodName := ⟨RX10, "best", "(IIIII)I"⟩
abbrev cX10_does : ByteArray := prog_12_method_40_code
def yX10_does : MethodName := ⟨RX10, "does", "(IIIII)I"⟩
abbrev cX10_logged : ByteArray := prog_12_method_41_code
def yX10_logged : MethodName := ⟨RX10, "logged", "(IIII)I"⟩
abbrev cX10_thumbDoes : ByteArray := prog_12_method_42_code
def yX10_thumbDoes : MethodName := ⟨RX10, "thumbDoes", "(IIII)I"⟩
abbrev cX10_thumbAll : ByteArray := prog_12_method_43_code
def yX10_thumbAll : MethodName := ⟨RX10, "thumbAll", "(III)V"⟩
abbrev cX10_thumb : ByteArray := prog_12_method_44_code
def yX10_thumb : MethodName := ⟨RX10, "thumb", "(IIII)I"⟩
abbrev cX10_worth : ByteArray := prog_12_method_45_code
def yX10_worth : MethodName := ⟨RX10, "worth", "(IIII)I"⟩
abbrev cX10_round : ByteArray := prog_12_method_46_code
def yX10_round : MethodName := ⟨RX10, "round", "(II)I"⟩
abbrev cX10_soonest : ByteArray := prog_12_method_47_code
def yX10_soonest : MethodName := ⟨RX10, "soonest", "(IIII)I"⟩
abbrev cX10_twoOf : ByteArray := prog_12_method_48_code
def yX10_twoOf : MethodName := ⟨RX10, "twoOf", "(III)I"⟩
abbrev cX10_two : ByteArray := prog_12_method_49_code
def yX10_two : MethodName := ⟨RX10, "two", "(III)I"⟩
abbrev cX10_share : ByteArray := prog_12_method_50_code
def yX10_share : MethodName := ⟨RX10, "share", "(II)I"⟩
abbrev cX10_getsUp : ByteArray := prog_12_method_51_code
def yX10_getsUp : MethodName := ⟨RX10, "getsUp", "(III)Z"⟩
abbrev cX10_up : ByteArray := prog_12_method_52_code
def yX10_up : MethodName := ⟨RX10, "up", "(III)I"⟩
abbrev cX10_trust : ByteArray := prog_12_method_53_code
def yX10_trust : MethodName := ⟨RX10, "trust", "(II)I"⟩
abbrev cX10_thousandth : ByteArray := prog_12_method_54_code
def yX10_thousandth : MethodName := ⟨RX10, "thousandth", "()I"⟩
abbrev cX10_draw : ByteArray := prog_12_method_55_code
def yX10_draw : MethodName := ⟨RX10, "draw", "(IIII)I"⟩
abbrev cX10_pass : ByteArray := prog_12_method_56_code
def yX10_pass : MethodName := ⟨RX10, "pass", "(I)I"⟩
abbrev cX10_passAll : ByteArray := prog_12_method_57_code
def yX10_passAll : MethodName := ⟨RX10, "passAll", "()V"⟩
abbrev cX10_image : ByteArray := prog_12_method_58_code
def yX10_image : MethodName := ⟨RX10, "image", "(I)I"⟩
abbrev cX10_restore : ByteArray := prog_12_method_59_code
def yX10_restore : MethodName := ⟨RX10, "restore", "(I)I"⟩
abbrev cX10_told : ByteArray := prog_12_method_60_code
def yX10_told : MethodName := ⟨RX10, "told", "(I)I"⟩
def RJ9 : String := "java/lang/Math"
abbrev cJ9_max_7cf53 : ByteArray := prog_13_method_65_code
def yJ9_max_7cf53 : MethodName := ⟨RJ9, "max", "(II)I"⟩
abbrev cJ9_min_7cf53 : ByteArray := prog_13_method_69_code
def yJ9_min_7cf53 : MethodName := ⟨RJ9, "min", "(II)I"⟩
def RJ10 : String := "java/lang/System"
def RL : String := "NapVoyageLaw"
abbrev cL_law : ByteArray := code
abbrev vwCl : List vw_C := [(RX0, TX0, 6), (RX1, TX1, 2), (RX2, TX2, 2), (RX3, TX3, 2), (RX4, TX4, 4), (RX5, TX5, 2), (RX6, TX6, 3), (RX7, TX7, 3), (RX8, TX8, 7), (RX9, TX9, 6), (RX10, TX10, 27)]
end
section
theorem dX3_init_0 : decode cX3_init 0 = .ok (.aload_n 0, 1) := by decide +kernel
theorem dX3_init_1 : decode cX3_init 1 = .ok (.invokespecial 3, 3) := by decide +kernel
theorem dX3_init_4 : decode cX3_init 4 = .ok (.aload_n 0, 1) := by decide +kernel
theorem dX3_init_5 : decode cX3_init 5 = .ok (.bipush 60, 2) := by decide +kernel
theorem dX3_init_7 : decode cX3_init 7 = .ok (.newarray .int, 2) := by decide +kernel
theorem dX3_init_9 : decode cX3_init 9 = .ok (.putfield 9, 3) := by decide +kernel
theorem dX3_init_12 : decode cX3_init 12 = .ok (.return_, 1) := by decide +kernel
theorem dX3_write_0 : decode cX3_write 0 = .ok (.aload_n 0, 1) := by decide +kernel
theorem dX3_write_1 : decode cX3_write 1 = .ok (.getfield 15, 3) := by decide +kernel
theorem dX3_write_4 : decode cX3_write 4 = .ok (.bipush 60, 2) := by decide +kernel
theorem dX3_write_6 : decode cX3_write 6 = .ok (.if_icmp .lt 5, 3) := by decide +kernel
theorem dX3_write_9 : decode cX3_write 9 = .ok (.iconst 0, 1) := by decide +kernel
theorem dX3_write_10 : decode cX3_write 10 = .ok (.ireturn, 1) := by decide +kernel
theorem dX3_write_11 : decode cX3_write 11 = .ok (.aload_n 0, 1) := by decide +kernel
theorem dX3_write_12 : decode cX3_write 12 = .ok (.getfield 9, 3) := by decide +kernel
theorem dX3_write_15 : decode cX3_write 15 = .ok (.aload_n 0, 1) := by decide +kernel
theorem dX3_write_16 : decode cX3_write 16 = .ok (.getfield 15, 3) := by decide +kernel
theorem dX3_write_19 : decode cX3_write 19 = .ok (.iload_n 1, 1) := by decide +kernel
theorem dX3_write_20 : decode cX3_write 20 = .ok (.iastore, 1) := by decide +kernel
theorem dX3_write_21 : decode cX3_write 21 = .ok (.aload_n 0, 1) := by decide +kernel
theorem dX3_write_22 : decode cX3_write 22 = .ok (.dup, 1) := by decide +kernel
theorem dX3_write_23 : decode cX3_write 23 = .ok (.getfield 15, 3) := by decide +kernel
theorem dX3_write_26 : decode cX3_write 26 = .ok (.iconst 1, 1) := by decide +kernel
theorem dX3_write_27 : decode cX3_write 27 = .ok (.iadd, 1) := by decide +kernel
theorem dX3_write_28 : decode cX3_write 28 = .ok (.putfield 15, 3) := by decide +kernel
theorem dX3_write_31 : decode cX3_write 31 = .ok (.iconst 1, 1) := by decide +kernel
theorem dX3_write_32 : decode cX3_write 32 = .ok (.ireturn, 1) := by decide +kernel
theorem dX3_faultPlace_0 : decode cX3_faultPlace 0 = .ok (.iconst 0, 1) := by decide +kernel
theorem dX3_faultPlace_1 : decode cX3_faultPlace 1 = .ok (.istore_n 1, 1) := by decide +kernel
theorem dX3_faultPlace_2 : decode cX3_faultPlace 2 = .ok (.iconst 0, 1) := by decide +kernel
theorem dX3_faultPlace_3 : decode cX3_faultPlace 3 = .ok (.istore_n 2, 1) := by decide +kernel
theorem dX3_faultPlace_4 : decode cX3_faultPlace 4 = .ok (.iload_n 2, 1) := by decide +kernel
theorem dX3_faultPlace_5 : decode cX3_faultPlace 5 = .ok (.aload_n 0, 1) := by decide +kernel
theorem dX3_faultPlace_6 : decode cX3_faultPlace 6 = .ok (.getfield 15, 3) := by decide +kernel
theorem dX3_faultPlace_9 : decode cX3_faultPlace 9 = .ok (.if_icmp .ge 27, 3) := by decide +kernel
theorem dX3_faultPlace_12 : decode cX3_faultPlace 12 = .ok (.iload_n 1, 1) := by decide +kernel
theorem dX3_faultPlace_13 : decode cX3_faultPlace 13 = .ok (.aload_n 0, 1) := by decide +kernel
theorem dX3_faultPlace_14 : decode cX3_faultPlace 14 = .ok (.getfield 9, 3) := by decide +kernel
theorem dX3_faultPlace_17 : decode cX3_faultPlace 17 = .ok (.iload_n 2, 1) := by decide +kernel
theorem dX3_faultPlace_18 : decode cX3_faultPlace 18 = .ok (.iaload, 1) := by decide +kernel
theorem dX3_faultPlace_19 : decode cX3_faultPlace 19 = .ok (.invokestatic 19, 3) := by decide +kernel
theorem dX3_faultPlace_22 : decode cX3_faultPlace 22 = .ok (.istore_n 1, 1) := by decide +kernel
theorem dX3_faultPlace_23 : decode cX3_faultPlace 23 = .ok (.iload_n 1, 1) := by decide +kernel
theorem dX3_faultPlace_24 : decode cX3_faultPlace 24 = .ok (.iconst 3, 1) := by decide +kernel
theorem dX3_faultPlace_25 : decode cX3_faultPlace 25 = .ok (.if_icmp .ne 5, 3) := by decide +kernel
theorem dX3_faultPlace_28 : decode cX3_faultPlace 28 = .ok (.iload_n 2, 1) := by decide +kernel
theorem dX3_faultPlace_29 : decode cX3_faultPlace 29 = .ok (.ireturn, 1) := by decide +kernel
theorem dX3_faultPlace_30 : decode cX3_faultPlace 30 = .ok (.iinc 2 1, 3) := by decide +kernel
theorem dX3_faultPlace_33 : decode cX3_faultPlace 33 = .ok (.goto (-29), 3) := by decide +kernel
theorem dX3_faultPlace_36 : decode cX3_faultPlace 36 = .ok (.iload_n 1, 1) := by decide +kernel
theorem dX3_faultPlace_37 : decode cX3_faultPlace 37 = .ok (.ifCond .ne 8, 3) := by decide +kernel
theorem dX3_faultPlace_40 : decode cX3_faultPlace 40 = .ok (.bipush (-6), 2) := by decide +kernel
theorem dX3_faultPlace_42 : decode cX3_faultPlace 42 = .ok (.goto 7, 3) := by decide +kernel
theorem dX3_faultPlace_45 : decode cX3_faultPlace 45 = .ok (.aload_n 0, 1) := by decide +kernel
theorem dX3_faultPlace_46 : decode cX3_faultPlace 46 = .ok (.getfield 15, 3) := by decide +kernel
theorem dX3_faultPlace_49 : decode cX3_faultPlace 49 = .ok (.ireturn, 1) := by decide +kernel
theorem dX3_wantedBehind_0 : decode cX3_wantedBehind 0 = .ok (.iload_n 0, 1) := by decide +kernel
theorem dX3_wantedBehind_1 : decode cX3_wantedBehind 1 = .ok (.iconst 2, 1) := by decide +kernel
theorem dX3_wantedBehind_2 : decode cX3_wantedBehind 2 = .ok (.if_icmp .ne 15, 3) := by decide +kernel
theorem dX3_wantedBehind_5 : decode cX3_wantedBehind 5 = .ok (.iload_n 1, 1) := by decide +kernel
theorem dX3_wantedBehind_6 : decode cX3_wantedBehind 6 = .ok (.bipush 46, 2) := by decide +kernel
theorem dX3_wantedBehind_8 : decode cX3_wantedBehind 8 = .ok (.if_icmp .ne 7, 3) := by decide +kernel
theorem dX3_wantedBehind_11 : decode cX3_wantedBehind 11 = .ok (.iconst 0, 1) := by decide +kernel
theorem dX3_wantedBehind_12 : decode cX3_wantedBehind 12 = .ok (.goto 4, 3) := by decide +kernel
theorem dX3_wantedBehind_15 : decode cX3_wantedBehind 15 = .ok (.iconst 3, 1) := by decide +kernel
theorem dX3_wantedBehind_16 : decode cX3_wantedBehind 16 = .ok (.ireturn, 1) := by decide +kernel
theorem dX3_wantedBehind_17 : decode cX3_wantedBehind 17 = .ok (.iload_n 1, 1) := by decide +kernel
theorem dX3_wantedBehind_18 : decode cX3_wantedBehind 18 = .ok (.bipush 33, 2) := by decide +kernel
theorem dX3_wantedBehind_20 : decode cX3_wantedBehind 20 = .ok (.if_icmp .ne 13, 3) := by decide +kernel
theorem dX3_wantedBehind_23 : decode cX3_wantedBehind 23 = .ok (.iload_n 0, 1) := by decide +kernel
theorem dX3_wantedBehind_24 : decode cX3_wantedBehind 24 = .ok (.ifCond .ne 7, 3) := by decide +kernel
theorem dX3_wantedBehind_27 : decode cX3_wantedBehind 27 = .ok (.iconst 1, 1) := by decide +kernel
theorem dX3_wantedBehind_28 : decode cX3_wantedBehind 28 = .ok (.goto 4, 3) := by decide +kernel
theorem dX3_wantedBehind_31 : decode cX3_wantedBehind 31 = .ok (.iconst 3, 1) := by decide +kernel
theorem dX3_wantedBehind_32 : decode cX3_wantedBehind 32 = .ok (.ireturn, 1) := by decide +kernel
theorem dX3_wantedBehind_33 : decode cX3_wantedBehind 33 = .ok (.iload_n 1, 1) := by decide +kernel
theorem dX3_wantedBehind_34 : decode cX3_wantedBehind 34 = .ok (.invokestatic 23, 3) := by decide +kernel
theorem dX3_wantedBehind_37 : decode cX3_wantedBehind 37 = .ok (.istore_n 2, 1) := by decide +kernel
theorem dX3_wantedBehind_38 : decode cX3_wantedBehind 38 = .ok (.iload_n 2, 1) := by decide +kernel
theorem dX3_wantedBehind_39 : decode cX3_wantedBehind 39 = .ok (.bipush (-6), 2) := by decide +kernel
theorem dX3_wantedBehind_41 : decode cX3_wantedBehind 41 = .ok (.if_icmp .eq 12, 3) := by decide +kernel
theorem dX3_wantedBehind_44 : decode cX3_wantedBehind 44 = .ok (.iload_n 2, 1) := by decide +kernel
theorem dX3_wantedBehind_45 : decode cX3_wantedBehind 45 = .ok (.ifCond .ne 10, 3) := by decide +kernel
theorem dX3_wantedBehind_48 : decode cX3_wantedBehind 48 = .ok (.iload_n 0, 1) := by decide +kernel
theorem dX3_wantedBehind_49 : decode cX3_wantedBehind 49 = .ok (.iconst 1, 1) := by decide +kernel
theorem dX3_wantedBehind_50 : decode cX3_wantedBehind 50 = .ok (.if_icmp .ne 5, 3) := by decide +kernel
theorem dX3_wantedBehind_53 : decode cX3_wantedBehind 53 = .ok (.iconst 3, 1) := by decide +kernel
theorem dX3_wantedBehind_54 : decode cX3_wantedBehind 54 = .ok (.ireturn, 1) := by decide +kernel
theorem dX3_wantedBehind_55 : decode cX3_wantedBehind 55 = .ok (.iload_n 2, 1) := by decide +kernel
theorem dX3_wantedBehind_56 : decode cX3_wantedBehind 56 = .ok (.iconst 3, 1) := by decide +kernel
theorem dX3_wantedBehind_57 : decode cX3_wantedBehind 57 = .ok (.if_icmp .ne 7, 3) := by decide +kernel
theorem dX3_wantedBehind_60 : decode cX3_wantedBehind 60 = .ok (.iconst 2, 1) := by decide +kernel
theorem dX3_wantedBehind_61 : decode cX3_wantedBehind 61 = .ok (.goto 4, 3) := by decide +kernel
theorem dX3_wantedBehind_64 : decode cX3_wantedBehind 64 = .ok (.iconst 0, 1) := by decide +kernel
theorem dX3_wantedBehind_65 : decode cX3_wantedBehind 65 = .ok (.ireturn, 1) := by decide +kernel
theorem dX3_thingOf_0 : decode cX3_thingOf 0 = .ok (.iload_n 0, 1) := by decide +kernel
theorem dX3_thingOf_1 : decode cX3_thingOf 1 = .ok (.lookupswitch 61 #[(49, 53), (50, 55), (51, 57), (108, 59), (119, 51)], 51) := by decide +kernel
theorem dX3_thingOf_52 : decode cX3_thingOf 52 = .ok (.iconst 0, 1) := by decide +kernel
theorem dX3_thingOf_53 : decode cX3_thingOf 53 = .ok (.ireturn, 1) := by decide +kernel
theorem dX3_thingOf_54 : decode cX3_thingOf 54 = .ok (.iconst 1, 1) := by decide +kernel
theorem dX3_thingOf_55 : decode cX3_thingOf 55 = .ok (.ireturn, 1) := by decide +kernel
theorem dX3_thingOf_56 : decode cX3_thingOf 56 = .ok (.iconst 2, 1) := by decide +kernel
theorem dX3_thingOf_57 : decode cX3_thingOf 57 = .ok (.ireturn, 1) := by decide +kernel
theorem dX3_thingOf_58 : decode cX3_thingOf 58 = .ok (.iconst 3, 1) := by decide +kernel
theorem dX3_thingOf_59 : decode cX3_thingOf 59 = .ok (.ireturn, 1) := by decide +kernel
theorem dX3_thingOf_60 : decode cX3_thingOf 60 = .ok (.iconst 4, 1) := by decide +kernel
theorem dX3_thingOf_61 : decode cX3_thingOf 61 = .ok (.ireturn, 1) := by decide +kernel
theorem dX3_thingOf_62 : decode cX3_thingOf 62 = .ok (.bipush (-6), 2) := by decide +kernel
theorem dX3_thingOf_64 : decode cX3_thingOf 64 = .ok (.ireturn, 1) := by decide +kernel
theorem dX5_init_0 : decode cX5_init 0 = .ok (.aload_n 0, 1) := by decide +kernel
theorem dX5_init_1 : decode cX5_init 1 = .ok (.invokespecial 3, 3) := by decide +kernel
theorem dX5_init_4 : decode cX5_init 4 = .ok (.aload_n 0, 1) := by decide +kernel
theorem dX5_init_5 : decode cX5_init 5 = .ok (.bipush 49, 2) := by decide +kernel
theorem dX5_init_7 : decode cX5_init 7 = .ok (.putfield 11, 3) := by decide +kernel
theorem dX5_init_10 : decode cX5_init 10 = .ok (.aload_n 0, 1) := by decide +kernel
theorem dX5_init_11 : decode cX5_init 11 = .ok (.sipush 1029, 3) := by decide +kernel
theorem dX5_init_14 : decode cX5_init 14 = .ok (.newarray .int, 2) := by decide +kernel
theorem dX5_init_16 : decode cX5_init 16 = .ok (.putfield 15, 3) := by decide +kernel
theorem dX5_init_19 : decode cX5_init 19 = .ok (.return_, 1) := by decide +kernel
theorem dX5_at_0 : decode cX5_at 0 = .ok (.iload_n 1, 1) := by decide +kernel
theorem dX5_at_1 : decode cX5_at 1 = .ok (.ifCond .lt 21, 3) := by decide +kernel
theorem dX5_at_4 : decode cX5_at 4 = .ok (.iload_n 1, 1) := by decide +kernel
theorem dX5_at_5 : decode cX5_at 5 = .ok (.aload_n 0, 1) := by decide +kernel
theorem dX5_at_6 : decode cX5_at 6 = .ok (.getfield 15, 3) := by decide +kernel
theorem dX5_at_9 : decode cX5_at 9 = .ok (.arraylength, 1) := by decide +kernel
theorem dX5_at_10 : decode cX5_at 10 = .ok (.if_icmp .ge 12, 3) := by decide +kernel
theorem dX5_at_13 : decode cX5_at 13 = .ok (.aload_n 0, 1) := by decide +kernel
theorem dX5_at_14 : decode cX5_at 14 = .ok (.getfield 15, 3) := by decide +kernel
theorem dX5_at_17 : decode cX5_at 17 = .ok (.iload_n 1, 1) := by decide +kernel
theorem dX5_at_18 : decode cX5_at 18 = .ok (.iaload, 1) := by decide +kernel
theorem dX5_at_19 : decode cX5_at 19 = .ok (.goto 4, 3) := by decide +kernel
theorem dX5_at_22 : decode cX5_at 22 = .ok (.iconst 0, 1) := by decide +kernel
theorem dX5_at_23 : decode cX5_at 23 = .ok (.ireturn, 1) := by decide +kernel
theorem dX5_put_0 : decode cX5_put 0 = .ok (.iload_n 1, 1) := by decide +kernel
theorem dX5_put_1 : decode cX5_put 1 = .ok (.ifCond .lt 19, 3) := by decide +kernel
theorem dX5_put_4 : decode cX5_put 4 = .ok (.iload_n 1, 1) := by decide +kernel
theorem dX5_put_5 : decode cX5_put 5 = .ok (.aload_n 0, 1) := by decide +kernel
theorem dX5_put_6 : decode cX5_put 6 = .ok (.getfield 15, 3) := by decide +kernel
theorem dX5_put_9 : decode cX5_put 9 = .ok (.arraylength, 1) := by decide +kernel
theorem dX5_put_10 : decode cX5_put 10 = .ok (.if_icmp .ge 10, 3) := by decide +kernel
theorem dX5_put_13 : decode cX5_put 13 = .ok (.aload_n 0, 1) := by decide +kernel
theorem dX5_put_14 : decode cX5_put 14 = .ok (.getfield 15, 3) := by decide +kernel
theorem dX5_put_17 : decode cX5_put 17 = .ok (.iload_n 1, 1) := by decide +kernel
theorem dX5_put_18 : decode cX5_put 18 = .ok (.iload_n 2, 1) := by decide +kernel
theorem dX5_put_19 : decode cX5_put 19 = .ok (.iastore, 1) := by decide +kernel
theorem dX5_put_20 : decode cX5_put 20 = .ok (.return_, 1) := by decide +kernel
theorem dX7_init_0 : decode cX7_init 0 = .ok (.aload_n 0, 1) := by decide +kernel
theorem dX7_init_1 : decode cX7_init 1 = .ok (.invokespecial 3, 3) := by decide +kernel
theorem dX7_init_4 : decode cX7_init 4 = .ok (.aload_n 0, 1) := by decide +kernel
theorem dX7_init_5 : decode cX7_init 5 = .ok (.bipush 60, 2) := by decide +kernel
theorem dX7_init_7 : decode cX7_init 7 = .ok (.newarray .int, 2) := by decide +kernel
theorem dX7_init_9 : decode cX7_init 9 = .ok (.putfield 9, 3) := by decide +kernel
theorem dX7_init_12 : decode cX7_init 12 = .ok (.aload_n 0, 1) := by decide +kernel
theorem dX7_init_13 : decode cX7_init 13 = .ok (.bipush 60, 2) := by decide +kernel
theorem dX7_init_15 : decode cX7_init 15 = .ok (.newarray .int, 2) := by decide +kernel
theorem dX7_init_17 : decode cX7_init 17 = .ok (.putfield 15, 3) := by decide +kernel
theorem dX7_init_20 : decode cX7_init 20 = .ok (.return_, 1) := by decide +kernel
theorem dX7_pass_0 : decode cX7_pass 0 = .ok (.aload_n 0, 1) := by decide +kernel
theorem dX7_pass_1 : decode cX7_pass 1 = .ok (.getfield 18, 3) := by decide +kernel
theorem dX7_pass_4 : decode cX7_pass 4 = .ok (.bipush 60, 2) := by decide +kernel
theorem dX7_pass_6 : decode cX7_pass 6 = .ok (.if_icmp .ge 33, 3) := by decide +kernel
theorem dX7_pass_9 : decode cX7_pass 9 = .ok (.aload_n 0, 1) := by decide +kernel
theorem dX7_pass_10 : decode cX7_pass 10 = .ok (.getfield 9, 3) := by decide +kernel
theorem dX7_pass_13 : decode cX7_pass 13 = .ok (.aload_n 0, 1) := by decide +kernel
theorem dX7_pass_14 : decode cX7_pass 14 = .ok (.getfield 18, 3) := by decide +kernel
theorem dX7_pass_17 : decode cX7_pass 17 = .ok (.iload_n 1, 1) := by decide +kernel
theorem dX7_pass_18 : decode cX7_pass 18 = .ok (.iastore, 1) := by decide +kernel
theorem dX7_pass_19 : decode cX7_pass 19 = .ok (.aload_n 0, 1) := by decide +kernel
theorem dX7_pass_20 : decode cX7_pass 20 = .ok (.getfield 15, 3) := by decide +kernel
theorem dX7_pass_23 : decode cX7_pass 23 = .ok (.aload_n 0, 1) := by decide +kernel
theorem dX7_pass_24 : decode cX7_pass 24 = .ok (.getfield 18, 3) := by decide +kernel
theorem dX7_pass_27 : decode cX7_pass 27 = .ok (.iload_n 2, 1) := by decide +kernel
theorem dX7_pass_28 : decode cX7_pass 28 = .ok (.iastore, 1) := by decide +kernel
theorem dX7_pass_29 : decode cX7_pass 29 = .ok (.aload_n 0, 1) := by decide +kernel
theorem dX7_pass_30 : decode cX7_pass 30 = .ok (.dup, 1) := by decide +kernel
theorem dX7_pass_31 : decode cX7_pass 31 = .ok (.getfield 18, 3) := by decide +kernel
theorem dX7_pass_34 : decode cX7_pass 34 = .ok (.iconst 1, 1) := by decide +kernel
theorem dX7_pass_35 : decode cX7_pass 35 = .ok (.iadd, 1) := by decide +kernel
theorem dX7_pass_36 : decode cX7_pass 36 = .ok (.putfield 18, 3) := by decide +kernel
theorem dX7_pass_39 : decode cX7_pass 39 = .ok (.return_, 1) := by decide +kernel
theorem dX7_safe_0 : decode cX7_safe 0 = .ok (.ldc 22, 2) := by decide +kernel
theorem dX7_safe_2 : decode cX7_safe 2 = .ok (.istore_n 1, 1) := by decide +kernel
theorem dX7_safe_3 : decode cX7_safe 3 = .ok (.aload_n 0, 1) := by decide +kernel
theorem dX7_safe_4 : decode cX7_safe 4 = .ok (.getfield 18, 3) := by decide +kernel
theorem dX7_safe_7 : decode cX7_safe 7 = .ok (.iconst 1, 1) := by decide +kernel
theorem dX7_safe_8 : decode cX7_safe 8 = .ok (.isub, 1) := by decide +kernel
theorem dX7_safe_9 : decode cX7_safe 9 = .ok (.istore_n 2, 1) := by decide +kernel
theorem dX7_safe_10 : decode cX7_safe 10 = .ok (.iload_n 2, 1) := by decide +kernel
theorem dX7_safe_11 : decode cX7_safe 11 = .ok (.ifCond .lt 27, 3) := by decide +kernel
theorem dX7_safe_14 : decode cX7_safe 14 = .ok (.iload_n 1, 1) := by decide +kernel
theorem dX7_safe_15 : decode cX7_safe 15 = .ok (.aload_n 0, 1) := by decide +kernel
theorem dX7_safe_16 : decode cX7_safe 16 = .ok (.getfield 9, 3) := by decide +kernel
theorem dX7_safe_19 : decode cX7_safe 19 = .ok (.iload_n 2, 1) := by decide +kernel
theorem dX7_safe_20 : decode cX7_safe 20 = .ok (.iaload, 1) := by decide +kernel
theorem dX7_safe_21 : decode cX7_safe 21 = .ok (.aload_n 0, 1) := by decide +kernel
theorem dX7_safe_22 : decode cX7_safe 22 = .ok (.getfield 15, 3) := by decide +kernel
theorem dX7_safe_25 : decode cX7_safe 25 = .ok (.iload_n 2, 1) := by decide +kernel
theorem dX7_safe_26 : decode cX7_safe 26 = .ok (.iaload, 1) := by decide +kernel
theorem dX7_safe_27 : decode cX7_safe 27 = .ok (.imul, 1) := by decide +kernel
theorem dX7_safe_28 : decode cX7_safe 28 = .ok (.invokestatic 23, 3) := by decide +kernel
theorem dX7_safe_31 : decode cX7_safe 31 = .ok (.istore_n 1, 1) := by decide +kernel
theorem dX7_safe_32 : decode cX7_safe 32 = .ok (.iinc 2 (-1), 3) := by decide +kernel
theorem dX7_safe_35 : decode cX7_safe 35 = .ok (.goto (-25), 3) := by decide +kernel
theorem dX7_safe_38 : decode cX7_safe 38 = .ok (.iload_n 1, 1) := by decide +kernel
theorem dX7_safe_39 : decode cX7_safe 39 = .ok (.ireturn, 1) := by decide +kernel
theorem dX7_riskiest_0 : decode cX7_riskiest 0 = .ok (.bipush (-6), 2) := by decide +kernel
theorem dX7_riskiest_2 : decode cX7_riskiest 2 = .ok (.istore_n 1, 1) := by decide +kernel
theorem dX7_riskiest_3 : decode cX7_riskiest 3 = .ok (.iconst (-1), 1) := by decide +kernel
theorem dX7_riskiest_4 : decode cX7_riskiest 4 = .ok (.istore_n 2, 1) := by decide +kernel
theorem dX7_riskiest_5 : decode cX7_riskiest 5 = .ok (.iconst 0, 1) := by decide +kernel
theorem dX7_riskiest_6 : decode cX7_riskiest 6 = .ok (.istore_n 3, 1) := by decide +kernel
theorem dX7_riskiest_7 : decode cX7_riskiest 7 = .ok (.iload_n 3, 1) := by decide +kernel
theorem dX7_riskiest_8 : decode cX7_riskiest 8 = .ok (.aload_n 0, 1) := by decide +kernel
theorem dX7_riskiest_9 : decode cX7_riskiest 9 = .ok (.getfield 18, 3) := by decide +kernel
theorem dX7_riskiest_12 : decode cX7_riskiest 12 = .ok (.if_icmp .ge 42, 3) := by decide +kernel
theorem dX7_riskiest_15 : decode cX7_riskiest 15 = .ok (.aload_n 0, 1) := by decide +kernel
theorem dX7_riskiest_16 : decode cX7_riskiest 16 = .ok (.getfield 9, 3) := by decide +kernel
theorem dX7_riskiest_19 : decode cX7_riskiest 19 = .ok (.iload_n 3, 1) := by decide +kernel
theorem dX7_riskiest_20 : decode cX7_riskiest 20 = .ok (.iaload, 1) := by decide +kernel
theorem dX7_riskiest_21 : decode cX7_riskiest 21 = .ok (.aload_n 0, 1) := by decide +kernel
theorem dX7_riskiest_22 : decode cX7_riskiest 22 = .ok (.getfield 15, 3) := by decide +kernel
theorem dX7_riskiest_25 : decode cX7_riskiest 25 = .ok (.iload_n 3, 1) := by decide +kernel
theorem dX7_riskiest_26 : decode cX7_riskiest 26 = .ok (.iaload, 1) := by decide +kernel
theorem dX7_riskiest_27 : decode cX7_riskiest 27 = .ok (.imul, 1) := by decide +kernel
theorem dX7_riskiest_28 : decode cX7_riskiest 28 = .ok (.iload_n 2, 1) := by decide +kernel
theorem dX7_riskiest_29 : decode cX7_riskiest 29 = .ok (.if_icmp .le 19, 3) := by decide +kernel
theorem dX7_riskiest_32 : decode cX7_riskiest 32 = .ok (.aload_n 0, 1) := by decide +kernel
theorem dX7_riskiest_33 : decode cX7_riskiest 33 = .ok (.getfield 9, 3) := by decide +kernel
theorem dX7_riskiest_36 : decode cX7_riskiest 36 = .ok (.iload_n 3, 1) := by decide +kernel
theorem dX7_riskiest_37 : decode cX7_riskiest 37 = .ok (.iaload, 1) := by decide +kernel
theorem dX7_riskiest_38 : decode cX7_riskiest 38 = .ok (.aload_n 0, 1) := by decide +kernel
theorem dX7_riskiest_39 : decode cX7_riskiest 39 = .ok (.getfield 15, 3) := by decide +kernel
theorem dX7_riskiest_42 : decode cX7_riskiest 42 = .ok (.iload_n 3, 1) := by decide +kernel
theorem dX7_riskiest_43 : decode cX7_riskiest 43 = .ok (.iaload, 1) := by decide +kernel
theorem dX7_riskiest_44 : decode cX7_riskiest 44 = .ok (.imul, 1) := by decide +kernel
theorem dX7_riskiest_45 : decode cX7_riskiest 45 = .ok (.istore_n 2, 1) := by decide +kernel
theorem dX7_riskiest_46 : decode cX7_riskiest 46 = .ok (.iload_n 3, 1) := by decide +kernel
theorem dX7_riskiest_47 : decode cX7_riskiest 47 = .ok (.istore_n 1, 1) := by decide +kernel
theorem dX7_riskiest_48 : decode cX7_riskiest 48 = .ok (.iinc 3 1, 3) := by decide +kernel
theorem dX7_riskiest_51 : decode cX7_riskiest 51 = .ok (.goto (-44), 3) := by decide +kernel
theorem dX7_riskiest_54 : decode cX7_riskiest 54 = .ok (.iload_n 1, 1) := by decide +kernel
theorem dX7_riskiest_55 : decode cX7_riskiest 55 = .ok (.ireturn, 1) := by decide +kernel
theorem dX7_struckBy_0 : decode cX7_struckBy 0 = .ok (.iload_n 1, 1) := by decide +kernel
theorem dX7_struckBy_1 : decode cX7_struckBy 1 = .ok (.istore_n 2, 1) := by decide +kernel
theorem dX7_struckBy_2 : decode cX7_struckBy 2 = .ok (.iconst 0, 1) := by decide +kernel
theorem dX7_struckBy_3 : decode cX7_struckBy 3 = .ok (.istore_n 3, 1) := by decide +kernel
theorem dX7_struckBy_4 : decode cX7_struckBy 4 = .ok (.iload_n 3, 1) := by decide +kernel
theorem dX7_struckBy_5 : decode cX7_struckBy 5 = .ok (.aload_n 0, 1) := by decide +kernel
theorem dX7_struckBy_6 : decode cX7_struckBy 6 = .ok (.getfield 18, 3) := by decide +kernel
theorem dX7_struckBy_9 : decode cX7_struckBy 9 = .ok (.if_icmp .ge 49, 3) := by decide +kernel
theorem dX7_struckBy_12 : decode cX7_struckBy 12 = .ok (.iload_n 2, 1) := by decide +kernel
theorem dX7_struckBy_13 : decode cX7_struckBy 13 = .ok (.invokestatic 27, 3) := by decide +kernel
theorem dX7_struckBy_16 : decode cX7_struckBy 16 = .ok (.istore_n 2, 1) := by decide +kernel
theorem dX7_struckBy_17 : decode cX7_struckBy 17 = .ok (.iload_n 2, 1) := by decide +kernel
theorem dX7_struckBy_18 : decode cX7_struckBy 18 = .ok (.sipush 1000, 3) := by decide +kernel
theorem dX7_struckBy_21 : decode cX7_struckBy 21 = .ok (.irem, 1) := by decide +kernel
theorem dX7_struckBy_22 : decode cX7_struckBy 22 = .ok (.aload_n 0, 1) := by decide +kernel
theorem dX7_struckBy_23 : decode cX7_struckBy 23 = .ok (.getfield 9, 3) := by decide +kernel
theorem dX7_struckBy_26 : decode cX7_struckBy 26 = .ok (.iload_n 3, 1) := by decide +kernel
theorem dX7_struckBy_27 : decode cX7_struckBy 27 = .ok (.iaload, 1) := by decide +kernel
theorem dX7_struckBy_28 : decode cX7_struckBy 28 = .ok (.if_icmp .ge 24, 3) := by decide +kernel
theorem dX7_struckBy_31 : decode cX7_struckBy 31 = .ok (.iload_n 2, 1) := by decide +kernel
theorem dX7_struckBy_32 : decode cX7_struckBy 32 = .ok (.invokestatic 27, 3) := by decide +kernel
theorem dX7_struckBy_35 : decode cX7_struckBy 35 = .ok (.istore_n 2, 1) := by decide +kernel
theorem dX7_struckBy_36 : decode cX7_struckBy 36 = .ok (.iload_n 2, 1) := by decide +kernel
theorem dX7_struckBy_37 : decode cX7_struckBy 37 = .ok (.sipush 1000, 3) := by decide +kernel
theorem dX7_struckBy_40 : decode cX7_struckBy 40 = .ok (.irem, 1) := by decide +kernel
theorem dX7_struckBy_41 : decode cX7_struckBy 41 = .ok (.aload_n 0, 1) := by decide +kernel
theorem dX7_struckBy_42 : decode cX7_struckBy 42 = .ok (.getfield 15, 3) := by decide +kernel
theorem dX7_struckBy_45 : decode cX7_struckBy 45 = .ok (.iload_n 3, 1) := by decide +kernel
theorem dX7_struckBy_46 : decode cX7_struckBy 46 = .ok (.iaload, 1) := by decide +kernel
theorem dX7_struckBy_47 : decode cX7_struckBy 47 = .ok (.if_icmp .ge 5, 3) := by decide +kernel
theorem dX7_struckBy_50 : decode cX7_struckBy 50 = .ok (.iload_n 3, 1) := by decide +kernel
theorem dX7_struckBy_51 : decode cX7_struckBy 51 = .ok (.ireturn, 1) := by decide +kernel
theorem dX7_struckBy_52 : decode cX7_struckBy 52 = .ok (.iinc 3 1, 3) := by decide +kernel
theorem dX7_struckBy_55 : decode cX7_struckBy 55 = .ok (.goto (-51), 3) := by decide +kernel
theorem dX7_struckBy_58 : decode cX7_struckBy 58 = .ok (.bipush (-6), 2) := by decide +kernel
theorem dX7_struckBy_60 : decode cX7_struckBy 60 = .ok (.ireturn, 1) := by decide +kernel
theorem dX7_drawBehind_0 : decode cX7_drawBehind 0 = .ok (.iload_n 0, 1) := by decide +kernel
theorem dX7_drawBehind_1 : decode cX7_drawBehind 1 = .ok (.bipush 75, 2) := by decide +kernel
theorem dX7_drawBehind_3 : decode cX7_drawBehind 3 = .ok (.imul, 1) := by decide +kernel
theorem dX7_drawBehind_4 : decode cX7_drawBehind 4 = .ok (.bipush 74, 2) := by decide +kernel
theorem dX7_drawBehind_6 : decode cX7_drawBehind 6 = .ok (.iadd, 1) := by decide +kernel
theorem dX7_drawBehind_7 : decode cX7_drawBehind 7 = .ok (.ldc 31, 2) := by decide +kernel
theorem dX7_drawBehind_9 : decode cX7_drawBehind 9 = .ok (.irem, 1) := by decide +kernel
theorem dX7_drawBehind_10 : decode cX7_drawBehind 10 = .ok (.ireturn, 1) := by decide +kernel
theorem dX8_init_0 : decode cX8_init 0 = .ok (.aload_n 0, 1) := by decide +kernel
theorem dX8_init_1 : decode cX8_init 1 = .ok (.invokespecial 3, 3) := by decide +kernel
theorem dX8_init_4 : decode cX8_init 4 = .ok (.aload_n 0, 1) := by decide +kernel
theorem dX8_init_5 : decode cX8_init 5 = .ok (.bipush 8, 2) := by decide +kernel
theorem dX8_init_7 : decode cX8_init 7 = .ok (.newarray .int, 2) := by decide +kernel
theorem dX8_init_9 : decode cX8_init 9 = .ok (.putfield 9, 3) := by decide +kernel
theorem dX8_init_12 : decode cX8_init 12 = .ok (.aload_n 0, 1) := by decide +kernel
theorem dX8_init_13 : decode cX8_init 13 = .ok (.bipush 8, 2) := by decide +kernel
theorem dX8_init_15 : decode cX8_init 15 = .ok (.newarray .int, 2) := by decide +kernel
theorem dX8_init_17 : decode cX8_init 17 = .ok (.putfield 15, 3) := by decide +kernel
theorem dX8_init_20 : decode cX8_init 20 = .ok (.aload_n 0, 1) := by decide +kernel
theorem dX8_init_21 : decode cX8_init 21 = .ok (.bipush 8, 2) := by decide +kernel
theorem dX8_init_23 : decode cX8_init 23 = .ok (.newarray .int, 2) := by decide +kernel
theorem dX8_init_25 : decode cX8_init 25 = .ok (.putfield 18, 3) := by decide +kernel
theorem dX8_init_28 : decode cX8_init 28 = .ok (.aload_n 0, 1) := by decide +kernel
theorem dX8_init_29 : decode cX8_init 29 = .ok (.bipush 48, 2) := by decide +kernel
theorem dX8_init_31 : decode cX8_init 31 = .ok (.newarray .int, 2) := by decide +kernel
theorem dX8_init_33 : decode cX8_init 33 = .ok (.putfield 21, 3) := by decide +kernel
theorem dX8_init_36 : decode cX8_init 36 = .ok (.aload_n 0, 1) := by decide +kernel
theorem dX8_init_37 : decode cX8_init 37 = .ok (.bipush 48, 2) := by decide +kernel
theorem dX8_init_39 : decode cX8_init 39 = .ok (.newarray .int, 2) := by decide +kernel
theorem dX8_init_41 : decode cX8_init 41 = .ok (.putfield 24, 3) := by decide +kernel
theorem dX8_init_44 : decode cX8_init 44 = .ok (.return_, 1) := by decide +kernel
theorem dX8_hasRoom_0 : decode cX8_hasRoom 0 = .ok (.aload_n 0, 1) := by decide +kernel
theorem dX8_hasRoom_1 : decode cX8_hasRoom 1 = .ok (.getfield 27, 3) := by decide +kernel
theorem dX8_hasRoom_4 : decode cX8_hasRoom 4 = .ok (.bipush 8, 2) := by decide +kernel
theorem dX8_hasRoom_6 : decode cX8_hasRoom 6 = .ok (.if_icmp .ge 18, 3) := by decide +kernel
theorem dX8_hasRoom_9 : decode cX8_hasRoom 9 = .ok (.aload_n 0, 1) := by decide +kernel
theorem dX8_hasRoom_10 : decode cX8_hasRoom 10 = .ok (.getfield 31, 3) := by decide +kernel
theorem dX8_hasRoom_13 : decode cX8_hasRoom 13 = .ok (.iload_n 1, 1) := by decide +kernel
theorem dX8_hasRoom_14 : decode cX8_hasRoom 14 = .ok (.iadd, 1) := by decide +kernel
theorem dX8_hasRoom_15 : decode cX8_hasRoom 15 = .ok (.bipush 48, 2) := by decide +kernel
theorem dX8_hasRoom_17 : decode cX8_hasRoom 17 = .ok (.if_icmp .gt 7, 3) := by decide +kernel
theorem dX8_hasRoom_20 : decode cX8_hasRoom 20 = .ok (.iconst 1, 1) := by decide +kernel
theorem dX8_hasRoom_21 : decode cX8_hasRoom 21 = .ok (.goto 4, 3) := by decide +kernel
theorem dX8_hasRoom_24 : decode cX8_hasRoom 24 = .ok (.iconst 0, 1) := by decide +kernel
theorem dX8_hasRoom_25 : decode cX8_hasRoom 25 = .ok (.ireturn, 1) := by decide +kernel
theorem dX8_hasLeg_0 : decode cX8_hasLeg 0 = .ok (.iload_n 1, 1) := by decide +kernel
theorem dX8_hasLeg_1 : decode cX8_hasLeg 1 = .ok (.iconst 0, 1) := by decide +kernel
theorem dX8_hasLeg_2 : decode cX8_hasLeg 2 = .ok (.aload_n 0, 1) := by decide +kernel
theorem dX8_hasLeg_3 : decode cX8_hasLeg 3 = .ok (.getfield 27, 3) := by decide +kernel
theorem dX8_hasLeg_6 : decode cX8_hasLeg 6 = .ok (.iconst 1, 1) := by decide +kernel
theorem dX8_hasLeg_7 : decode cX8_hasLeg 7 = .ok (.isub, 1) := by decide +kernel
theorem dX8_hasLeg_8 : decode cX8_hasLeg 8 = .ok (.invokestatic 34, 3) := by decide +kernel
theorem dX8_hasLeg_11 : decode cX8_hasLeg 11 = .ok (.ireturn, 1) := by decide +kernel
theorem dX8_hasHour_0 : decode cX8_hasHour 0 = .ok (.iload_n 1, 1) := by decide +kernel
theorem dX8_hasHour_1 : decode cX8_hasHour 1 = .ok (.ifCond .lt 15, 3) := by decide +kernel
theorem dX8_hasHour_4 : decode cX8_hasHour 4 = .ok (.iload_n 1, 1) := by decide +kernel
theorem dX8_hasHour_5 : decode cX8_hasHour 5 = .ok (.aload_n 0, 1) := by decide +kernel
theorem dX8_hasHour_6 : decode cX8_hasHour 6 = .ok (.getfield 31, 3) := by decide +kernel
theorem dX8_hasHour_9 : decode cX8_hasHour 9 = .ok (.if_icmp .ge 7, 3) := by decide +kernel
theorem dX8_hasHour_12 : decode cX8_hasHour 12 = .ok (.iconst 1, 1) := by decide +kernel
theorem dX8_hasHour_13 : decode cX8_hasHour 13 = .ok (.goto 4, 3) := by decide +kernel
theorem dX8_hasHour_16 : decode cX8_hasHour 16 = .ok (.iconst 0, 1) := by decide +kernel
theorem dX8_hasHour_17 : decode cX8_hasHour 17 = .ok (.ireturn, 1) := by decide +kernel
theorem dX8_lengthen_0 : decode cX8_lengthen 0 = .ok (.aload_n 0, 1) := by decide +kernel
theorem dX8_lengthen_1 : decode cX8_lengthen 1 = .ok (.iload_n 1, 1) := by decide +kernel
theorem dX8_lengthen_2 : decode cX8_lengthen 2 = .ok (.invokevirtual 38, 3) := by decide +kernel
theorem dX8_lengthen_5 : decode cX8_lengthen 5 = .ok (.ifCond .ne 4, 3) := by decide +kernel
theorem dX8_lengthen_8 : decode cX8_lengthen 8 = .ok (.return_, 1) := by decide +kernel
theorem dX8_lengthen_9 : decode cX8_lengthen 9 = .ok (.aload_n 0, 1) := by decide +kernel
theorem dX8_lengthen_10 : decode cX8_lengthen 10 = .ok (.getfield 9, 3) := by decide +kernel
theorem dX8_lengthen_13 : decode cX8_lengthen 13 = .ok (.aload_n 0, 1) := by decide +kernel
theorem dX8_lengthen_14 : decode cX8_lengthen 14 = .ok (.getfield 27, 3) := by decide +kernel
theorem dX8_lengthen_17 : decode cX8_lengthen 17 = .ok (.iload_n 1, 1) := by decide +kernel
theorem dX8_lengthen_18 : decode cX8_lengthen 18 = .ok (.iastore, 1) := by decide +kernel
theorem dX8_lengthen_19 : decode cX8_lengthen 19 = .ok (.aload_n 0, 1) := by decide +kernel
theorem dX8_lengthen_20 : decode cX8_lengthen 20 = .ok (.getfield 15, 3) := by decide +kernel
theorem dX8_lengthen_23 : decode cX8_lengthen 23 = .ok (.aload_n 0, 1) := by decide +kernel
theorem dX8_lengthen_24 : decode cX8_lengthen 24 = .ok (.getfield 27, 3) := by decide +kernel
theorem dX8_lengthen_27 : decode cX8_lengthen 27 = .ok (.iload_n 2, 1) := by decide +kernel
theorem dX8_lengthen_28 : decode cX8_lengthen 28 = .ok (.iastore, 1) := by decide +kernel
theorem dX8_lengthen_29 : decode cX8_lengthen 29 = .ok (.aload_n 0, 1) := by decide +kernel
theorem dX8_lengthen_30 : decode cX8_lengthen 30 = .ok (.getfield 18, 3) := by decide +kernel
theorem dX8_lengthen_33 : decode cX8_lengthen 33 = .ok (.aload_n 0, 1) := by decide +kernel
theorem dX8_lengthen_34 : decode cX8_lengthen 34 = .ok (.getfield 27, 3) := by decide +kernel
theorem dX8_lengthen_37 : decode cX8_lengthen 37 = .ok (.iload_n 3, 1) := by decide +kernel
theorem dX8_lengthen_38 : decode cX8_lengthen 38 = .ok (.iastore, 1) := by decide +kernel
theorem dX8_lengthen_39 : decode cX8_lengthen 39 = .ok (.aload_n 0, 1) := by decide +kernel
theorem dX8_lengthen_40 : decode cX8_lengthen 40 = .ok (.dup, 1) := by decide +kernel
theorem dX8_lengthen_41 : decode cX8_lengthen 41 = .ok (.getfield 27, 3) := by decide +kernel
theorem dX8_lengthen_44 : decode cX8_lengthen 44 = .ok (.iconst 1, 1) := by decide +kernel
theorem dX8_lengthen_45 : decode cX8_lengthen 45 = .ok (.iadd, 1) := by decide +kernel
theorem dX8_lengthen_46 : decode cX8_lengthen 46 = .ok (.putfield 27, 3) := by decide +kernel
theorem dX8_lengthen_49 : decode cX8_lengthen 49 = .ok (.iconst 0, 1) := by decide +kernel
theorem dX8_lengthen_50 : decode cX8_lengthen 50 = .ok (.istore 4, 2) := by decide +kernel
theorem dX8_lengthen_52 : decode cX8_lengthen 52 = .ok (.iload 4, 2) := by decide +kernel
theorem dX8_lengthen_54 : decode cX8_lengthen 54 = .ok (.iload_n 1, 1) := by decide +kernel
theorem dX8_lengthen_55 : decode cX8_lengthen 55 = .ok (.if_icmp .ge 39, 3) := by decide +kernel
theorem dX8_lengthen_58 : decode cX8_lengthen 58 = .ok (.aload_n 0, 1) := by decide +kernel
theorem dX8_lengthen_59 : decode cX8_lengthen 59 = .ok (.getfield 21, 3) := by decide +kernel
theorem dX8_lengthen_62 : decode cX8_lengthen 62 = .ok (.aload_n 0, 1) := by decide +kernel
theorem dX8_lengthen_63 : decode cX8_lengthen 63 = .ok (.getfield 31, 3) := by decide +kernel
theorem dX8_lengthen_66 : decode cX8_lengthen 66 = .ok (.iload_n 2, 1) := by decide +kernel
theorem dX8_lengthen_67 : decode cX8_lengthen 67 = .ok (.iastore, 1) := by decide +kernel
theorem dX8_lengthen_68 : decode cX8_lengthen 68 = .ok (.aload_n 0, 1) := by decide +kernel
theorem dX8_lengthen_69 : decode cX8_lengthen 69 = .ok (.getfield 24, 3) := by decide +kernel
theorem dX8_lengthen_72 : decode cX8_lengthen 72 = .ok (.aload_n 0, 1) := by decide +kernel
theorem dX8_lengthen_73 : decode cX8_lengthen 73 = .ok (.getfield 31, 3) := by decide +kernel
theorem dX8_lengthen_76 : decode cX8_lengthen 76 = .ok (.iload_n 3, 1) := by decide +kernel
theorem dX8_lengthen_77 : decode cX8_lengthen 77 = .ok (.iastore, 1) := by decide +kernel
theorem dX8_lengthen_78 : decode cX8_lengthen 78 = .ok (.aload_n 0, 1) := by decide +kernel
theorem dX8_lengthen_79 : decode cX8_lengthen 79 = .ok (.dup, 1) := by decide +kernel
theorem dX8_lengthen_80 : decode cX8_lengthen 80 = .ok (.getfield 31, 3) := by decide +kernel
theorem dX8_lengthen_83 : decode cX8_lengthen 83 = .ok (.iconst 1, 1) := by decide +kernel
theorem dX8_lengthen_84 : decode cX8_lengthen 84 = .ok (.iadd, 1) := by decide +kernel
theorem dX8_lengthen_85 : decode cX8_lengthen 85 = .ok (.putfield 31, 3) := by decide +kernel
theorem dX8_lengthen_88 : decode cX8_lengthen 88 = .ok (.iinc 4 1, 3) := by decide +kernel
theorem dX8_lengthen_91 : decode cX8_lengthen 91 = .ok (.goto (-39), 3) := by decide +kernel
theorem dX8_lengthen_94 : decode cX8_lengthen 94 = .ok (.return_, 1) := by decide +kernel
theorem dX8_shorten_0 : decode cX8_shorten 0 = .ok (.aload_n 0, 1) := by decide +kernel
theorem dX8_shorten_1 : decode cX8_shorten 1 = .ok (.getfield 27, 3) := by decide +kernel
theorem dX8_shorten_4 : decode cX8_shorten 4 = .ok (.ifCond .le 31, 3) := by decide +kernel
theorem dX8_shorten_7 : decode cX8_shorten 7 = .ok (.aload_n 0, 1) := by decide +kernel
theorem dX8_shorten_8 : decode cX8_shorten 8 = .ok (.dup, 1) := by decide +kernel
theorem dX8_shorten_9 : decode cX8_shorten 9 = .ok (.getfield 27, 3) := by decide +kernel
theorem dX8_shorten_12 : decode cX8_shorten 12 = .ok (.iconst 1, 1) := by decide +kernel
theorem dX8_shorten_13 : decode cX8_shorten 13 = .ok (.isub, 1) := by decide +kernel
theorem dX8_shorten_14 : decode cX8_shorten 14 = .ok (.putfield 27, 3) := by decide +kernel
theorem dX8_shorten_17 : decode cX8_shorten 17 = .ok (.aload_n 0, 1) := by decide +kernel
theorem dX8_shorten_18 : decode cX8_shorten 18 = .ok (.dup, 1) := by decide +kernel
theorem dX8_shorten_19 : decode cX8_shorten 19 = .ok (.getfield 31, 3) := by decide +kernel
theorem dX8_shorten_22 : decode cX8_shorten 22 = .ok (.aload_n 0, 1) := by decide +kernel
theorem dX8_shorten_23 : decode cX8_shorten 23 = .ok (.getfield 9, 3) := by decide +kernel
theorem dX8_shorten_26 : decode cX8_shorten 26 = .ok (.aload_n 0, 1) := by decide +kernel
theorem dX8_shorten_27 : decode cX8_shorten 27 = .ok (.getfield 27, 3) := by decide +kernel
theorem dX8_shorten_30 : decode cX8_shorten 30 = .ok (.iaload, 1) := by decide +kernel
theorem dX8_shorten_31 : decode cX8_shorten 31 = .ok (.isub, 1) := by decide +kernel
theorem dX8_shorten_32 : decode cX8_shorten 32 = .ok (.putfield 31, 3) := by decide +kernel
theorem dX8_shorten_35 : decode cX8_shorten 35 = .ok (.return_, 1) := by decide +kernel
theorem dX8_firstHourOf_0 : decode cX8_firstHourOf 0 = .ok (.iconst 0, 1) := by decide +kernel
theorem dX8_firstHourOf_1 : decode cX8_firstHourOf 1 = .ok (.istore_n 2, 1) := by decide +kernel
theorem dX8_firstHourOf_2 : decode cX8_firstHourOf 2 = .ok (.iconst 0, 1) := by decide +kernel
theorem dX8_firstHourOf_3 : decode cX8_firstHourOf 3 = .ok (.istore_n 3, 1) := by decide +kernel
theorem dX8_firstHourOf_4 : decode cX8_firstHourOf 4 = .ok (.iload_n 3, 1) := by decide +kernel
theorem dX8_firstHourOf_5 : decode cX8_firstHourOf 5 = .ok (.iload_n 1, 1) := by decide +kernel
theorem dX8_firstHourOf_6 : decode cX8_firstHourOf 6 = .ok (.if_icmp .ge 26, 3) := by decide +kernel
theorem dX8_firstHourOf_9 : decode cX8_firstHourOf 9 = .ok (.iload_n 3, 1) := by decide +kernel
theorem dX8_firstHourOf_10 : decode cX8_firstHourOf 10 = .ok (.aload_n 0, 1) := by decide +kernel
theorem dX8_firstHourOf_11 : decode cX8_firstHourOf 11 = .ok (.getfield 27, 3) := by decide +kernel
theorem dX8_firstHourOf_14 : decode cX8_firstHourOf 14 = .ok (.if_icmp .ge 18, 3) := by decide +kernel
theorem dX8_firstHourOf_17 : decode cX8_firstHourOf 17 = .ok (.iload_n 2, 1) := by decide +kernel
theorem dX8_firstHourOf_18 : decode cX8_firstHourOf 18 = .ok (.aload_n 0, 1) := by decide +kernel
theorem dX8_firstHourOf_19 : decode cX8_firstHourOf 19 = .ok (.getfield 9, 3) := by decide +kernel
theorem dX8_firstHourOf_22 : decode cX8_firstHourOf 22 = .ok (.iload_n 3, 1) := by decide +kernel
theorem dX8_firstHourOf_23 : decode cX8_firstHourOf 23 = .ok (.iaload, 1) := by decide +kernel
theorem dX8_firstHourOf_24 : decode cX8_firstHourOf 24 = .ok (.iadd, 1) := by decide +kernel
theorem dX8_firstHourOf_25 : decode cX8_firstHourOf 25 = .ok (.istore_n 2, 1) := by decide +kernel
theorem dX8_firstHourOf_26 : decode cX8_firstHourOf 26 = .ok (.iinc 3 1, 3) := by decide +kernel
theorem dX8_firstHourOf_29 : decode cX8_firstHourOf 29 = .ok (.goto (-25), 3) := by decide +kernel
theorem dX8_firstHourOf_32 : decode cX8_firstHourOf 32 = .ok (.iload_n 2, 1) := by decide +kernel
theorem dX8_firstHourOf_33 : decode cX8_firstHourOf 33 = .ok (.ireturn, 1) := by decide +kernel
theorem dX8_shipsAt_0 : decode cX8_shipsAt 0 = .ok (.iload_n 1, 1) := by decide +kernel
theorem dX8_shipsAt_1 : decode cX8_shipsAt 1 = .ok (.ifCond .lt 20, 3) := by decide +kernel
theorem dX8_shipsAt_4 : decode cX8_shipsAt 4 = .ok (.iload_n 1, 1) := by decide +kernel
theorem dX8_shipsAt_5 : decode cX8_shipsAt 5 = .ok (.aload_n 0, 1) := by decide +kernel
theorem dX8_shipsAt_6 : decode cX8_shipsAt 6 = .ok (.getfield 31, 3) := by decide +kernel
theorem dX8_shipsAt_9 : decode cX8_shipsAt 9 = .ok (.if_icmp .ge 12, 3) := by decide +kernel
theorem dX8_shipsAt_12 : decode cX8_shipsAt 12 = .ok (.aload_n 0, 1) := by decide +kernel
theorem dX8_shipsAt_13 : decode cX8_shipsAt 13 = .ok (.getfield 21, 3) := by decide +kernel
theorem dX8_shipsAt_16 : decode cX8_shipsAt 16 = .ok (.iload_n 1, 1) := by decide +kernel
theorem dX8_shipsAt_17 : decode cX8_shipsAt 17 = .ok (.iaload, 1) := by decide +kernel
theorem dX8_shipsAt_18 : decode cX8_shipsAt 18 = .ok (.goto 4, 3) := by decide +kernel
theorem dX8_shipsAt_21 : decode cX8_shipsAt 21 = .ok (.iconst 0, 1) := by decide +kernel
theorem dX8_shipsAt_22 : decode cX8_shipsAt 22 = .ok (.ireturn, 1) := by decide +kernel
theorem dX8_squallAt_0 : decode cX8_squallAt 0 = .ok (.iload_n 1, 1) := by decide +kernel
theorem dX8_squallAt_1 : decode cX8_squallAt 1 = .ok (.ifCond .lt 25, 3) := by decide +kernel
theorem dX8_squallAt_4 : decode cX8_squallAt 4 = .ok (.iload_n 1, 1) := by decide +kernel
theorem dX8_squallAt_5 : decode cX8_squallAt 5 = .ok (.aload_n 0, 1) := by decide +kernel
theorem dX8_squallAt_6 : decode cX8_squallAt 6 = .ok (.getfield 31, 3) := by decide +kernel
theorem dX8_squallAt_9 : decode cX8_squallAt 9 = .ok (.if_icmp .ge 17, 3) := by decide +kernel
theorem dX8_squallAt_12 : decode cX8_squallAt 12 = .ok (.aload_n 0, 1) := by decide +kernel
theorem dX8_squallAt_13 : decode cX8_squallAt 13 = .ok (.getfield 24, 3) := by decide +kernel
theorem dX8_squallAt_16 : decode cX8_squallAt 16 = .ok (.iload_n 1, 1) := by decide +kernel
theorem dX8_squallAt_17 : decode cX8_squallAt 17 = .ok (.iaload, 1) := by decide +kernel
theorem dX8_squallAt_18 : decode cX8_squallAt 18 = .ok (.iconst 1, 1) := by decide +kernel
theorem dX8_squallAt_19 : decode cX8_squallAt 19 = .ok (.if_icmp .ne 7, 3) := by decide +kernel
theorem dX8_squallAt_22 : decode cX8_squallAt 22 = .ok (.iconst 1, 1) := by decide +kernel
theorem dX8_squallAt_23 : decode cX8_squallAt 23 = .ok (.goto 4, 3) := by decide +kernel
theorem dX8_squallAt_26 : decode cX8_squallAt 26 = .ok (.iconst 0, 1) := by decide +kernel
theorem dX8_squallAt_27 : decode cX8_squallAt 27 = .ok (.ireturn, 1) := by decide +kernel
theorem dX8_lets_0 : decode cX8_lets 0 = .ok (.aload_n 0, 1) := by decide +kernel
theorem dX8_lets_1 : decode cX8_lets 1 = .ok (.iload_n 1, 1) := by decide +kernel
theorem dX8_lets_2 : decode cX8_lets 2 = .ok (.invokevirtual 42, 3) := by decide +kernel
theorem dX8_lets_5 : decode cX8_lets 5 = .ok (.ifCond .ne 5, 3) := by decide +kernel
theorem dX8_lets_8 : decode cX8_lets 8 = .ok (.iconst 0, 1) := by decide +kernel
theorem dX8_lets_9 : decode cX8_lets 9 = .ok (.ireturn, 1) := by decide +kernel
theorem dX8_lets_10 : decode cX8_lets 10 = .ok (.iload_n 2, 1) := by decide +kernel
theorem dX8_lets_11 : decode cX8_lets 11 = .ok (.ifCond .ne 5, 3) := by decide +kernel
theorem dX8_lets_14 : decode cX8_lets 14 = .ok (.iconst 1, 1) := by decide +kernel
theorem dX8_lets_15 : decode cX8_lets 15 = .ok (.ireturn, 1) := by decide +kernel
theorem dX8_lets_16 : decode cX8_lets 16 = .ok (.aload_n 0, 1) := by decide +kernel
theorem dX8_lets_17 : decode cX8_lets 17 = .ok (.iload_n 1, 1) := by decide +kernel
theorem dX8_lets_18 : decode cX8_lets 18 = .ok (.invokevirtual 45, 3) := by decide +kernel
theorem dX8_lets_21 : decode cX8_lets 21 = .ok (.ifCond .eq 5, 3) := by decide +kernel
theorem dX8_lets_24 : decode cX8_lets 24 = .ok (.iconst 0, 1) := by decide +kernel
theorem dX8_lets_25 : decode cX8_lets 25 = .ok (.ireturn, 1) := by decide +kernel
theorem dX8_lets_26 : decode cX8_lets 26 = .ok (.iload_n 2, 1) := by decide +kernel
theorem dX8_lets_27 : decode cX8_lets 27 = .ok (.iconst 3, 1) := by decide +kernel
theorem dX8_lets_28 : decode cX8_lets 28 = .ok (.if_icmp .ne 23, 3) := by decide +kernel
theorem dX8_lets_31 : decode cX8_lets 31 = .ok (.aload_n 0, 1) := by decide +kernel
theorem dX8_lets_32 : decode cX8_lets 32 = .ok (.iload_n 1, 1) := by decide +kernel
theorem dX8_lets_33 : decode cX8_lets 33 = .ok (.iconst 1, 1) := by decide +kernel
theorem dX8_lets_34 : decode cX8_lets 34 = .ok (.iadd, 1) := by decide +kernel
theorem dX8_lets_35 : decode cX8_lets 35 = .ok (.invokevirtual 42, 3) := by decide +kernel
theorem dX8_lets_38 : decode cX8_lets 38 = .ok (.ifCond .eq 17, 3) := by decide +kernel
theorem dX8_lets_41 : decode cX8_lets 41 = .ok (.aload_n 0, 1) := by decide +kernel
theorem dX8_lets_42 : decode cX8_lets 42 = .ok (.iload_n 1, 1) := by decide +kernel
theorem dX8_lets_43 : decode cX8_lets 43 = .ok (.iconst 1, 1) := by decide +kernel
theorem dX8_lets_44 : decode cX8_lets 44 = .ok (.iadd, 1) := by decide +kernel
theorem dX8_lets_45 : decode cX8_lets 45 = .ok (.invokevirtual 45, 3) := by decide +kernel
theorem dX8_lets_48 : decode cX8_lets 48 = .ok (.ifCond .ne 7, 3) := by decide +kernel
theorem dX8_lets_51 : decode cX8_lets 51 = .ok (.iconst 1, 1) := by decide +kernel
theorem dX8_lets_52 : decode cX8_lets 52 = .ok (.goto 4, 3) := by decide +kernel
theorem dX8_lets_55 : decode cX8_lets 55 = .ok (.iconst 0, 1) := by decide +kernel
theorem dX8_lets_56 : decode cX8_lets 56 = .ok (.ireturn, 1) := by decide +kernel
theorem dX8_copy_0 : decode cX8_copy 0 = .ok (.aload_n 0, 1) := by decide +kernel
theorem dX8_copy_1 : decode cX8_copy 1 = .ok (.aload_n 1, 1) := by decide +kernel
theorem dX8_copy_2 : decode cX8_copy 2 = .ok (.getfield 27, 3) := by decide +kernel
theorem dX8_copy_5 : decode cX8_copy 5 = .ok (.putfield 27, 3) := by decide +kernel
theorem dX8_copy_8 : decode cX8_copy 8 = .ok (.aload_n 0, 1) := by decide +kernel
theorem dX8_copy_9 : decode cX8_copy 9 = .ok (.aload_n 1, 1) := by decide +kernel
theorem dX8_copy_10 : decode cX8_copy 10 = .ok (.getfield 31, 3) := by decide +kernel
theorem dX8_copy_13 : decode cX8_copy 13 = .ok (.putfield 31, 3) := by decide +kernel
theorem dX8_copy_16 : decode cX8_copy 16 = .ok (.aload_n 1, 1) := by decide +kernel
theorem dX8_copy_17 : decode cX8_copy 17 = .ok (.getfield 9, 3) := by decide +kernel
theorem dX8_copy_20 : decode cX8_copy 20 = .ok (.iconst 0, 1) := by decide +kernel
theorem dX8_copy_21 : decode cX8_copy 21 = .ok (.aload_n 0, 1) := by decide +kernel
theorem dX8_copy_22 : decode cX8_copy 22 = .ok (.getfield 9, 3) := by decide +kernel
theorem dX8_copy_25 : decode cX8_copy 25 = .ok (.iconst 0, 1) := by decide +kernel
theorem dX8_copy_26 : decode cX8_copy 26 = .ok (.bipush 8, 2) := by decide +kernel
theorem dX8_copy_28 : decode cX8_copy 28 = .ok (.invokestatic 48, 3) := by decide +kernel
theorem dX8_copy_31 : decode cX8_copy 31 = .ok (.aload_n 1, 1) := by decide +kernel
theorem dX8_copy_32 : decode cX8_copy 32 = .ok (.getfield 15, 3) := by decide +kernel
theorem dX8_copy_35 : decode cX8_copy 35 = .ok (.iconst 0, 1) := by decide +kernel
theorem dX8_copy_36 : decode cX8_copy 36 = .ok (.aload_n 0, 1) := by decide +kernel
theorem dX8_copy_37 : decode cX8_copy 37 = .ok (.getfield 15, 3) := by decide +kernel
theorem dX8_copy_40 : decode cX8_copy 40 = .ok (.iconst 0, 1) := by decide +kernel
theorem dX8_copy_41 : decode cX8_copy 41 = .ok (.bipush 8, 2) := by decide +kernel
theorem dX8_copy_43 : decode cX8_copy 43 = .ok (.invokestatic 48, 3) := by decide +kernel
theorem dX8_copy_46 : decode cX8_copy 46 = .ok (.aload_n 1, 1) := by decide +kernel
theorem dX8_copy_47 : decode cX8_copy 47 = .ok (.getfield 18, 3) := by decide +kernel
theorem dX8_copy_50 : decode cX8_copy 50 = .ok (.iconst 0, 1) := by decide +kernel
theorem dX8_copy_51 : decode cX8_copy 51 = .ok (.aload_n 0, 1) := by decide +kernel
theorem dX8_copy_52 : decode cX8_copy 52 = .ok (.getfield 18, 3) := by decide +kernel
theorem dX8_copy_55 : decode cX8_copy 55 = .ok (.iconst 0, 1) := by decide +kernel
theorem dX8_copy_56 : decode cX8_copy 56 = .ok (.bipush 8, 2) := by decide +kernel
theorem dX8_copy_58 : decode cX8_copy 58 = .ok (.invokestatic 48, 3) := by decide +kernel
theorem dX8_copy_61 : decode cX8_copy 61 = .ok (.aload_n 1, 1) := by decide +kernel
theorem dX8_copy_62 : decode cX8_copy 62 = .ok (.getfield 21, 3) := by decide +kernel
theorem dX8_copy_65 : decode cX8_copy 65 = .ok (.iconst 0, 1) := by decide +kernel
theorem dX8_copy_66 : decode cX8_copy 66 = .ok (.aload_n 0, 1) := by decide +kernel
theorem dX8_copy_67 : decode cX8_copy 67 = .ok (.getfield 21, 3) := by decide +kernel
theorem dX8_copy_70 : decode cX8_copy 70 = .ok (.iconst 0, 1) := by decide +kernel
theorem dX8_copy_71 : decode cX8_copy 71 = .ok (.bipush 48, 2) := by decide +kernel
theorem dX8_copy_73 : decode cX8_copy 73 = .ok (.invokestatic 48, 3) := by decide +kernel
theorem dX8_copy_76 : decode cX8_copy 76 = .ok (.aload_n 1, 1) := by decide +kernel
theorem dX8_copy_77 : decode cX8_copy 77 = .ok (.getfield 24, 3) := by decide +kernel
theorem dX8_copy_80 : decode cX8_copy 80 = .ok (.iconst 0, 1) := by decide +kernel
theorem dX8_copy_81 : decode cX8_copy 81 = .ok (.aload_n 0, 1) := by decide +kernel
theorem dX8_copy_82 : decode cX8_copy 82 = .ok (.getfield 24, 3) := by decide +kernel
theorem dX8_copy_85 : decode cX8_copy 85 = .ok (.iconst 0, 1) := by decide +kernel
theorem dX8_copy_86 : decode cX8_copy 86 = .ok (.bipush 48, 2) := by decide +kernel
theorem dX8_copy_88 : decode cX8_copy 88 = .ok (.invokestatic 48, 3) := by decide +kernel
theorem dX8_copy_91 : decode cX8_copy 91 = .ok (.return_, 1) := by decide +kernel
theorem dX1_init_0 : decode cX1_init 0 = .ok (.aload_n 0, 1) := by decide +kernel
theorem dX1_init_1 : decode cX1_init 1 = .ok (.invokespecial 3, 3) := by decide +kernel
theorem dX1_init_4 : decode cX1_init 4 = .ok (.aload_n 0, 1) := by decide +kernel
theorem dX1_init_5 : decode cX1_init 5 = .ok (.iconst 2, 1) := by decide +kernel
theorem dX1_init_6 : decode cX1_init 6 = .ok (.anewarray 9, 3) := by decide +kernel
theorem dX1_init_9 : decode cX1_init 9 = .ok (.putfield 11, 3) := by decide +kernel
theorem dX1_init_12 : decode cX1_init 12 = .ok (.iconst 0, 1) := by decide +kernel
theorem dX1_init_13 : decode cX1_init 13 = .ok (.istore_n 1, 1) := by decide +kernel
theorem dX1_init_14 : decode cX1_init 14 = .ok (.iload_n 1, 1) := by decide +kernel
theorem dX1_init_15 : decode cX1_init 15 = .ok (.iconst 2, 1) := by decide +kernel
theorem dX1_init_16 : decode cX1_init 16 = .ok (.if_icmp .ge 22, 3) := by decide +kernel
theorem dX1_init_19 : decode cX1_init 19 = .ok (.aload_n 0, 1) := by decide +kernel
theorem dX1_init_20 : decode cX1_init 20 = .ok (.getfield 11, 3) := by decide +kernel
theorem dX1_init_23 : decode cX1_init 23 = .ok (.iload_n 1, 1) := by decide +kernel
theorem dX1_init_24 : decode cX1_init 24 = .ok (.new 9, 3) := by decide +kernel
theorem dX1_init_27 : decode cX1_init 27 = .ok (.dup, 1) := by decide +kernel
theorem dX1_init_28 : decode cX1_init 28 = .ok (.invokespecial 17, 3) := by decide +kernel
theorem dX1_init_31 : decode cX1_init 31 = .ok (.aastore, 1) := by decide +kernel
theorem dX1_init_32 : decode cX1_init 32 = .ok (.iinc 1 1, 3) := by decide +kernel
theorem dX1_init_35 : decode cX1_init 35 = .ok (.goto (-21), 3) := by decide +kernel
theorem dX1_init_38 : decode cX1_init 38 = .ok (.aload_n 0, 1) := by decide +kernel
theorem dX1_init_39 : decode cX1_init 39 = .ok (.new 18, 3) := by decide +kernel
theorem dX1_init_42 : decode cX1_init 42 = .ok (.dup, 1) := by decide +kernel
theorem dX1_init_43 : decode cX1_init 43 = .ok (.invokespecial 20, 3) := by decide +kernel
theorem dX1_init_46 : decode cX1_init 46 = .ok (.putfield 21, 3) := by decide +kernel
theorem dX1_init_49 : decode cX1_init 49 = .ok (.return_, 1) := by decide +kernel
theorem dX1_copy_0 : decode cX1_copy 0 = .ok (.iconst 0, 1) := by decide +kernel
theorem dX1_copy_1 : decode cX1_copy 1 = .ok (.istore_n 2, 1) := by decide +kernel
theorem dX1_copy_2 : decode cX1_copy 2 = .ok (.iload_n 2, 1) := by decide +kernel
theorem dX1_copy_3 : decode cX1_copy 3 = .ok (.iconst 2, 1) := by decide +kernel
theorem dX1_copy_4 : decode cX1_copy 4 = .ok (.if_icmp .ge 24, 3) := by decide +kernel
theorem dX1_copy_7 : decode cX1_copy 7 = .ok (.aload_n 0, 1) := by decide +kernel
theorem dX1_copy_8 : decode cX1_copy 8 = .ok (.getfield 11, 3) := by decide +kernel
theorem dX1_copy_11 : decode cX1_copy 11 = .ok (.iload_n 2, 1) := by decide +kernel
theorem dX1_copy_12 : decode cX1_copy 12 = .ok (.aaload, 1) := by decide +kernel
theorem dX1_copy_13 : decode cX1_copy 13 = .ok (.aload_n 1, 1) := by decide +kernel
theorem dX1_copy_14 : decode cX1_copy 14 = .ok (.getfield 11, 3) := by decide +kernel
theorem dX1_copy_17 : decode cX1_copy 17 = .ok (.iload_n 2, 1) := by decide +kernel
theorem dX1_copy_18 : decode cX1_copy 18 = .ok (.aaload, 1) := by decide +kernel
theorem dX1_copy_19 : decode cX1_copy 19 = .ok (.invokevirtual 25, 3) := by decide +kernel
theorem dX1_copy_22 : decode cX1_copy 22 = .ok (.iinc 2 1, 3) := by decide +kernel
theorem dX1_copy_25 : decode cX1_copy 25 = .ok (.goto (-23), 3) := by decide +kernel
theorem dX1_copy_28 : decode cX1_copy 28 = .ok (.aload_n 0, 1) := by decide +kernel
theorem dX1_copy_29 : decode cX1_copy 29 = .ok (.getfield 21, 3) := by decide +kernel
theorem dX1_copy_32 : decode cX1_copy 32 = .ok (.aload_n 1, 1) := by decide +kernel
theorem dX1_copy_33 : decode cX1_copy 33 = .ok (.getfield 21, 3) := by decide +kernel
theorem dX1_copy_36 : decode cX1_copy 36 = .ok (.invokevirtual 29, 3) := by decide +kernel
theorem dX1_copy_39 : decode cX1_copy 39 = .ok (.return_, 1) := by decide +kernel
theorem dX2_init_0 : decode cX2_init 0 = .ok (.aload_n 0, 1) := by decide +kernel
theorem dX2_init_1 : decode cX2_init 1 = .ok (.invokespecial 3, 3) := by decide +kernel
theorem dX2_init_4 : decode cX2_init 4 = .ok (.aload_n 0, 1) := by decide +kernel
theorem dX2_init_5 : decode cX2_init 5 = .ok (.iconst 4, 1) := by decide +kernel
theorem dX2_init_6 : decode cX2_init 6 = .ok (.newarray .int, 2) := by decide +kernel
theorem dX2_init_8 : decode cX2_init 8 = .ok (.dup, 1) := by decide +kernel
theorem dX2_init_9 : decode cX2_init 9 = .ok (.iconst 0, 1) := by decide +kernel
theorem dX2_init_10 : decode cX2_init 10 = .ok (.iconst 0, 1) := by decide +kernel
theorem dX2_init_11 : decode cX2_init 11 = .ok (.iastore, 1) := by decide +kernel
theorem dX2_init_12 : decode cX2_init 12 = .ok (.dup, 1) := by decide +kernel
theorem dX2_init_13 : decode cX2_init 13 = .ok (.iconst 1, 1) := by decide +kernel
theorem dX2_init_14 : decode cX2_init 14 = .ok (.iconst 1, 1) := by decide +kernel
theorem dX2_init_15 : decode cX2_init 15 = .ok (.iastore, 1) := by decide +kernel
theorem dX2_init_16 : decode cX2_init 16 = .ok (.dup, 1) := by decide +kernel
theorem dX2_init_17 : decode cX2_init 17 = .ok (.iconst 2, 1) := by decide +kernel
theorem dX2_init_18 : decode cX2_init 18 = .ok (.iconst 2, 1) := by decide +kernel
theorem dX2_init_19 : decode cX2_init 19 = .ok (.iastore, 1) := by decide +kernel
theorem dX2_init_20 : decode cX2_init 20 = .ok (.dup, 1) := by decide +kernel
theorem dX2_init_21 : decode cX2_init 21 = .ok (.iconst 3, 1) := by decide +kernel
theorem dX2_init_22 : decode cX2_init 22 = .ok (.bipush 6, 2) := by decide +kernel
theorem dX2_init_24 : decode cX2_init 24 = .ok (.iastore, 1) := by decide +kernel
theorem dX2_init_25 : decode cX2_init 25 = .ok (.putfield 9, 3) := by decide +kernel
theorem dX2_init_28 : decode cX2_init 28 = .ok (.aload_n 0, 1) := by decide +kernel
theorem dX2_init_29 : decode cX2_init 29 = .ok (.iconst 4, 1) := by decide +kernel
theorem dX2_init_30 : decode cX2_init 30 = .ok (.newarray .int, 2) := by decide +kernel
theorem dX2_init_32 : decode cX2_init 32 = .ok (.dup, 1) := by decide +kernel
theorem dX2_init_33 : decode cX2_init 33 = .ok (.iconst 0, 1) := by decide +kernel
theorem dX2_init_34 : decode cX2_init 34 = .ok (.iconst 0, 1) := by decide +kernel
theorem dX2_init_35 : decode cX2_init 35 = .ok (.iastore, 1) := by decide +kernel
theorem dX2_init_36 : decode cX2_init 36 = .ok (.dup, 1) := by decide +kernel
theorem dX2_init_37 : decode cX2_init 37 = .ok (.iconst 1, 1) := by decide +kernel
theorem dX2_init_38 : decode cX2_init 38 = .ok (.sipush 200, 3) := by decide +kernel
theorem dX2_init_41 : decode cX2_init 41 = .ok (.iastore, 1) := by decide +kernel
theorem dX2_init_42 : decode cX2_init 42 = .ok (.dup, 1) := by decide +kernel
theorem dX2_init_43 : decode cX2_init 43 = .ok (.iconst 2, 1) := by decide +kernel
theorem dX2_init_44 : decode cX2_init 44 = .ok (.sipush 500, 3) := by decide +kernel
theorem dX2_init_47 : decode cX2_init 47 = .ok (.iastore, 1) := by decide +kernel
theorem dX2_init_48 : decode cX2_init 48 = .ok (.dup, 1) := by decide +kernel
theorem dX2_init_49 : decode cX2_init 49 = .ok (.iconst 3, 1) := by decide +kernel
theorem dX2_init_50 : decode cX2_init 50 = .ok (.sipush 800, 3) := by decide +kernel
theorem dX2_init_53 : decode cX2_init 53 = .ok (.iastore, 1) := by decide +kernel
theorem dX2_init_54 : decode cX2_init 54 = .ok (.putfield 15, 3) := by decide +kernel
theorem dX2_init_57 : decode cX2_init 57 = .ok (.return_, 1) := by decide +kernel
theorem dX2_changeGive_0 : decode cX2_changeGive 0 = .ok (.iload_n 1, 1) := by decide +kernel
theorem dX2_changeGive_1 : decode cX2_changeGive 1 = .ok (.iconst 1, 1) := by decide +kernel
theorem dX2_changeGive_2 : decode cX2_changeGive 2 = .ok (.iconst 3, 1) := by decide +kernel
theorem dX2_changeGive_3 : decode cX2_changeGive 3 = .ok (.invokestatic 18, 3) := by decide +kernel
theorem dX2_changeGive_6 : decode cX2_changeGive 6 = .ok (.ifCond .ne 6, 3) := by decide +kernel
theorem dX2_changeGive_9 : decode cX2_changeGive 9 = .ok (.bipush (-2), 2) := by decide +kernel
theorem dX2_changeGive_11 : decode cX2_changeGive 11 = .ok (.ireturn, 1) := by decide +kernel
theorem dX2_changeGive_12 : decode cX2_changeGive 12 = .ok (.aload_n 0, 1) := by decide +kernel
theorem dX2_changeGive_13 : decode cX2_changeGive 13 = .ok (.getfield 9, 3) := by decide +kernel
theorem dX2_changeGive_16 : decode cX2_changeGive 16 = .ok (.iload_n 1, 1) := by decide +kernel
theorem dX2_changeGive_17 : decode cX2_changeGive 17 = .ok (.iaload, 1) := by decide +kernel
theorem dX2_changeGive_18 : decode cX2_changeGive 18 = .ok (.istore_n 3, 1) := by decide +kernel
theorem dX2_changeGive_19 : decode cX2_changeGive 19 = .ok (.aload_n 0, 1) := by decide +kernel
theorem dX2_changeGive_20 : decode cX2_changeGive 20 = .ok (.getfield 9, 3) := by decide +kernel
theorem dX2_changeGive_23 : decode cX2_changeGive 23 = .ok (.iload_n 1, 1) := by decide +kernel
theorem dX2_changeGive_24 : decode cX2_changeGive 24 = .ok (.iload_n 2, 1) := by decide +kernel
theorem dX2_changeGive_25 : decode cX2_changeGive 25 = .ok (.iastore, 1) := by decide +kernel
theorem dX2_changeGive_26 : decode cX2_changeGive 26 = .ok (.iload_n 3, 1) := by decide +kernel
theorem dX2_changeGive_27 : decode cX2_changeGive 27 = .ok (.ireturn, 1) := by decide +kernel
theorem dX2_changeDeep_0 : decode cX2_changeDeep 0 = .ok (.iload_n 1, 1) := by decide +kernel
theorem dX2_changeDeep_1 : decode cX2_changeDeep 1 = .ok (.iconst 1, 1) := by decide +kernel
theorem dX2_changeDeep_2 : decode cX2_changeDeep 2 = .ok (.iconst 3, 1) := by decide +kernel
theorem dX2_changeDeep_3 : decode cX2_changeDeep 3 = .ok (.invokestatic 18, 3) := by decide +kernel
theorem dX2_changeDeep_6 : decode cX2_changeDeep 6 = .ok (.ifCond .ne 6, 3) := by decide +kernel
theorem dX2_changeDeep_9 : decode cX2_changeDeep 9 = .ok (.bipush (-2), 2) := by decide +kernel
theorem dX2_changeDeep_11 : decode cX2_changeDeep 11 = .ok (.ireturn, 1) := by decide +kernel
theorem dX2_changeDeep_12 : decode cX2_changeDeep 12 = .ok (.aload_n 0, 1) := by decide +kernel
theorem dX2_changeDeep_13 : decode cX2_changeDeep 13 = .ok (.getfield 15, 3) := by decide +kernel
theorem dX2_changeDeep_16 : decode cX2_changeDeep 16 = .ok (.iload_n 1, 1) := by decide +kernel
theorem dX2_changeDeep_17 : decode cX2_changeDeep 17 = .ok (.iaload, 1) := by decide +kernel
theorem dX2_changeDeep_18 : decode cX2_changeDeep 18 = .ok (.istore_n 3, 1) := by decide +kernel
theorem dX2_changeDeep_19 : decode cX2_changeDeep 19 = .ok (.aload_n 0, 1) := by decide +kernel
theorem dX2_changeDeep_20 : decode cX2_changeDeep 20 = .ok (.getfield 15, 3) := by decide +kernel
theorem dX2_changeDeep_23 : decode cX2_changeDeep 23 = .ok (.iload_n 1, 1) := by decide +kernel
theorem dX2_changeDeep_24 : decode cX2_changeDeep 24 = .ok (.iload_n 2, 1) := by decide +kernel
theorem dX2_changeDeep_25 : decode cX2_changeDeep 25 = .ok (.iastore, 1) := by decide +kernel
theorem dX2_changeDeep_26 : decode cX2_changeDeep 26 = .ok (.iload_n 3, 1) := by decide +kernel
theorem dX2_changeDeep_27 : decode cX2_changeDeep 27 = .ok (.ireturn, 1) := by decide +kernel
theorem dX2_owedBehind_0 : decode cX2_owedBehind 0 = .ok (.iload 4, 2) := by decide +kernel
theorem dX2_owedBehind_2 : decode cX2_owedBehind 2 = .ok (.ifCond .ne 24, 3) := by decide +kernel
theorem dX2_owedBehind_5 : decode cX2_owedBehind 5 = .ok (.bipush 20, 2) := by decide +kernel
theorem dX2_owedBehind_7 : decode cX2_owedBehind 7 = .ok (.iload_n 3, 1) := by decide +kernel
theorem dX2_owedBehind_8 : decode cX2_owedBehind 8 = .ok (.aload_n 1, 1) := by decide +kernel
theorem dX2_owedBehind_9 : decode cX2_owedBehind 9 = .ok (.iload_n 2, 1) := by decide +kernel
theorem dX2_owedBehind_10 : decode cX2_owedBehind 10 = .ok (.invokevirtual 22, 3) := by decide +kernel
theorem dX2_owedBehind_13 : decode cX2_owedBehind 13 = .ok (.ifCond .eq 7, 3) := by decide +kernel
theorem dX2_owedBehind_16 : decode cX2_owedBehind 16 = .ok (.iconst 2, 1) := by decide +kernel
theorem dX2_owedBehind_17 : decode cX2_owedBehind 17 = .ok (.goto 4, 3) := by decide +kernel
theorem dX2_owedBehind_20 : decode cX2_owedBehind 20 = .ok (.iconst 1, 1) := by decide +kernel
theorem dX2_owedBehind_21 : decode cX2_owedBehind 21 = .ok (.iadd, 1) := by decide +kernel
theorem dX2_owedBehind_22 : decode cX2_owedBehind 22 = .ok (.invokestatic 28, 3) := by decide +kernel
theorem dX2_owedBehind_25 : decode cX2_owedBehind 25 = .ok (.ireturn, 1) := by decide +kernel
theorem dX2_owedBehind_26 : decode cX2_owedBehind 26 = .ok (.iload 4, 2) := by decide +kernel
theorem dX2_owedBehind_28 : decode cX2_owedBehind 28 = .ok (.iconst 1, 1) := by decide +kernel
theorem dX2_owedBehind_29 : decode cX2_owedBehind 29 = .ok (.iconst 3, 1) := by decide +kernel
theorem dX2_owedBehind_30 : decode cX2_owedBehind 30 = .ok (.invokestatic 18, 3) := by decide +kernel
theorem dX2_owedBehind_33 : decode cX2_owedBehind 33 = .ok (.ifCond .ne 11, 3) := by decide +kernel
theorem dX2_owedBehind_36 : decode cX2_owedBehind 36 = .ok (.iconst 0, 1) := by decide +kernel
theorem dX2_owedBehind_37 : decode cX2_owedBehind 37 = .ok (.iload_n 3, 1) := by decide +kernel
theorem dX2_owedBehind_38 : decode cX2_owedBehind 38 = .ok (.iconst 1, 1) := by decide +kernel
theorem dX2_owedBehind_39 : decode cX2_owedBehind 39 = .ok (.isub, 1) := by decide +kernel
theorem dX2_owedBehind_40 : decode cX2_owedBehind 40 = .ok (.invokestatic 34, 3) := by decide +kernel
theorem dX2_owedBehind_43 : decode cX2_owedBehind 43 = .ok (.ireturn, 1) := by decide +kernel
theorem dX2_owedBehind_44 : decode cX2_owedBehind 44 = .ok (.iconst 0, 1) := by decide +kernel
theorem dX2_owedBehind_45 : decode cX2_owedBehind 45 = .ok (.iload_n 3, 1) := by decide +kernel
theorem dX2_owedBehind_46 : decode cX2_owedBehind 46 = .ok (.aload_n 0, 1) := by decide +kernel
theorem dX2_owedBehind_47 : decode cX2_owedBehind 47 = .ok (.getfield 9, 3) := by decide +kernel
theorem dX2_owedBehind_50 : decode cX2_owedBehind 50 = .ok (.iload 4, 2) := by decide +kernel
theorem dX2_owedBehind_52 : decode cX2_owedBehind 52 = .ok (.iaload, 1) := by decide +kernel
theorem dX2_owedBehind_53 : decode cX2_owedBehind 53 = .ok (.isub, 1) := by decide +kernel
theorem dX2_owedBehind_54 : decode cX2_owedBehind 54 = .ok (.iload_n 2, 1) := by decide +kernel
theorem dX2_owedBehind_55 : decode cX2_owedBehind 55 = .ok (.invokestatic 37, 3) := by decide +kernel
theorem dX2_owedBehind_58 : decode cX2_owedBehind 58 = .ok (.ifCond .eq 7, 3) := by decide +kernel
theorem dX2_owedBehind_61 : decode cX2_owedBehind 61 = .ok (.iconst 1, 1) := by decide +kernel
theorem dX2_owedBehind_62 : decode cX2_owedBehind 62 = .ok (.goto 4, 3) := by decide +kernel
theorem dX2_owedBehind_65 : decode cX2_owedBehind 65 = .ok (.iconst 0, 1) := by decide +kernel
theorem dX2_owedBehind_66 : decode cX2_owedBehind 66 = .ok (.isub, 1) := by decide +kernel
theorem dX2_owedBehind_67 : decode cX2_owedBehind 67 = .ok (.invokestatic 34, 3) := by decide +kernel
theorem dX2_owedBehind_70 : decode cX2_owedBehind 70 = .ok (.ireturn, 1) := by decide +kernel
theorem dX2_blindOf_0 : decode cX2_blindOf 0 = .ok (.aload_n 0, 1) := by decide +kernel
theorem dX2_blindOf_1 : decode cX2_blindOf 1 = .ok (.iload_n 1, 1) := by decide +kernel
theorem dX2_blindOf_2 : decode cX2_blindOf 2 = .ok (.iconst 2, 1) := by decide +kernel
theorem dX2_blindOf_3 : decode cX2_blindOf 3 = .ok (.idiv, 1) := by decide +kernel
theorem dX2_blindOf_4 : decode cX2_blindOf 4 = .ok (.iload_n 2, 1) := by decide +kernel
theorem dX2_blindOf_5 : decode cX2_blindOf 5 = .ok (.invokevirtual 40, 3) := by decide +kernel
theorem dX2_blindOf_8 : decode cX2_blindOf 8 = .ok (.istore_n 3, 1) := by decide +kernel
theorem dX2_blindOf_9 : decode cX2_blindOf 9 = .ok (.iload_n 1, 1) := by decide +kernel
theorem dX2_blindOf_10 : decode cX2_blindOf 10 = .ok (.iconst 2, 1) := by decide +kernel
theorem dX2_blindOf_11 : decode cX2_blindOf 11 = .ok (.irem, 1) := by decide +kernel
theorem dX2_blindOf_12 : decode cX2_blindOf 12 = .ok (.ifCond .ne 5, 3) := by decide +kernel
theorem dX2_blindOf_15 : decode cX2_blindOf 15 = .ok (.iload_n 3, 1) := by decide +kernel
theorem dX2_blindOf_16 : decode cX2_blindOf 16 = .ok (.ireturn, 1) := by decide +kernel
theorem dX2_blindOf_17 : decode cX2_blindOf 17 = .ok (.iconst 0, 1) := by decide +kernel
theorem dX2_blindOf_18 : decode cX2_blindOf 18 = .ok (.sipush 600, 3) := by decide +kernel
theorem dX2_blindOf_21 : decode cX2_blindOf 21 = .ok (.bipush 40, 2) := by decide +kernel
theorem dX2_blindOf_23 : decode cX2_blindOf 23 = .ok (.iload_n 2, 1) := by decide +kernel
theorem dX2_blindOf_24 : decode cX2_blindOf 24 = .ok (.imul, 1) := by decide +kernel
theorem dX2_blindOf_25 : decode cX2_blindOf 25 = .ok (.isub, 1) := by decide +kernel
theorem dX2_blindOf_26 : decode cX2_blindOf 26 = .ok (.invokestatic 34, 3) := by decide +kernel
theorem dX2_blindOf_29 : decode cX2_blindOf 29 = .ok (.istore 4, 2) := by decide +kernel
theorem dX2_blindOf_31 : decode cX2_blindOf 31 = .ok (.iload_n 3, 1) := by decide +kernel
theorem dX2_blindOf_32 : decode cX2_blindOf 32 = .ok (.sipush 1000, 3) := by decide +kernel
theorem dX2_blindOf_35 : decode cX2_blindOf 35 = .ok (.iload 4, 2) := by decide +kernel
theorem dX2_blindOf_37 : decode cX2_blindOf 37 = .ok (.isub, 1) := by decide +kernel
theorem dX2_blindOf_38 : decode cX2_blindOf 38 = .ok (.imul, 1) := by decide +kernel
theorem dX2_blindOf_39 : decode cX2_blindOf 39 = .ok (.sipush 1000, 3) := by decide +kernel
theorem dX2_blindOf_42 : decode cX2_blindOf 42 = .ok (.idiv, 1) := by decide +kernel
theorem dX2_blindOf_43 : decode cX2_blindOf 43 = .ok (.ireturn, 1) := by decide +kernel
theorem dX2_blindAlone_0 : decode cX2_blindAlone 0 = .ok (.iconst 0, 1) := by decide +kernel
theorem dX2_blindAlone_1 : decode cX2_blindAlone 1 = .ok (.iload_n 2, 1) := by decide +kernel
theorem dX2_blindAlone_2 : decode cX2_blindAlone 2 = .ok (.bipush 10, 2) := by decide +kernel
theorem dX2_blindAlone_4 : decode cX2_blindAlone 4 = .ok (.isub, 1) := by decide +kernel
theorem dX2_blindAlone_5 : decode cX2_blindAlone 5 = .ok (.invokestatic 34, 3) := by decide +kernel
theorem dX2_blindAlone_8 : decode cX2_blindAlone 8 = .ok (.istore_n 3, 1) := by decide +kernel
theorem dX2_blindAlone_9 : decode cX2_blindAlone 9 = .ok (.iload_n 1, 1) := by decide +kernel
theorem dX2_blindAlone_10 : decode cX2_blindAlone 10 = .ok (.ifCond .ne 11, 3) := by decide +kernel
theorem dX2_blindAlone_13 : decode cX2_blindAlone 13 = .ok (.bipush 20, 2) := by decide +kernel
theorem dX2_blindAlone_15 : decode cX2_blindAlone 15 = .ok (.bipush 10, 2) := by decide +kernel
theorem dX2_blindAlone_17 : decode cX2_blindAlone 17 = .ok (.iload_n 3, 1) := by decide +kernel
theorem dX2_blindAlone_18 : decode cX2_blindAlone 18 = .ok (.imul, 1) := by decide +kernel
theorem dX2_blindAlone_19 : decode cX2_blindAlone 19 = .ok (.iadd, 1) := by decide +kernel
theorem dX2_blindAlone_20 : decode cX2_blindAlone 20 = .ok (.ireturn, 1) := by decide +kernel
theorem dX2_blindAlone_21 : decode cX2_blindAlone 21 = .ok (.iload_n 1, 1) := by decide +kernel
theorem dX2_blindAlone_22 : decode cX2_blindAlone 22 = .ok (.iconst 1, 1) := by decide +kernel
theorem dX2_blindAlone_23 : decode cX2_blindAlone 23 = .ok (.iconst 3, 1) := by decide +kernel
theorem dX2_blindAlone_24 : decode cX2_blindAlone 24 = .ok (.invokestatic 18, 3) := by decide +kernel
theorem dX2_blindAlone_27 : decode cX2_blindAlone 27 = .ok (.ifCond .ne 7, 3) := by decide +kernel
theorem dX2_blindAlone_30 : decode cX2_blindAlone 30 = .ok (.sipush 300, 3) := by decide +kernel
theorem dX2_blindAlone_33 : decode cX2_blindAlone 33 = .ok (.ireturn, 1) := by decide +kernel
theorem dX2_blindAlone_34 : decode cX2_blindAlone 34 = .ok (.sipush 1000, 3) := by decide +kernel
theorem dX2_blindAlone_37 : decode cX2_blindAlone 37 = .ok (.aload_n 0, 1) := by decide +kernel
theorem dX2_blindAlone_38 : decode cX2_blindAlone 38 = .ok (.getfield 15, 3) := by decide +kernel
theorem dX2_blindAlone_41 : decode cX2_blindAlone 41 = .ok (.iload_n 1, 1) := by decide +kernel
theorem dX2_blindAlone_42 : decode cX2_blindAlone 42 = .ok (.iaload, 1) := by decide +kernel
theorem dX2_blindAlone_43 : decode cX2_blindAlone 43 = .ok (.bipush 20, 2) := by decide +kernel
theorem dX2_blindAlone_45 : decode cX2_blindAlone 45 = .ok (.iload_n 3, 1) := by decide +kernel
theorem dX2_blindAlone_46 : decode cX2_blindAlone 46 = .ok (.imul, 1) := by decide +kernel
theorem dX2_blindAlone_47 : decode cX2_blindAlone 47 = .ok (.iadd, 1) := by decide +kernel
theorem dX2_blindAlone_48 : decode cX2_blindAlone 48 = .ok (.invokestatic 28, 3) := by decide +kernel
theorem dX2_blindAlone_51 : decode cX2_blindAlone 51 = .ok (.ireturn, 1) := by decide +kernel
theorem dX2_copy_0 : decode cX2_copy 0 = .ok (.aload_n 1, 1) := by decide +kernel
theorem dX2_copy_1 : decode cX2_copy 1 = .ok (.getfield 9, 3) := by decide +kernel
theorem dX2_copy_4 : decode cX2_copy 4 = .ok (.iconst 0, 1) := by decide +kernel
theorem dX2_copy_5 : decode cX2_copy 5 = .ok (.aload_n 0, 1) := by decide +kernel
theorem dX2_copy_6 : decode cX2_copy 6 = .ok (.getfield 9, 3) := by decide +kernel
theorem dX2_copy_9 : decode cX2_copy 9 = .ok (.iconst 0, 1) := by decide +kernel
theorem dX2_copy_10 : decode cX2_copy 10 = .ok (.aload_n 0, 1) := by decide +kernel
theorem dX2_copy_11 : decode cX2_copy 11 = .ok (.getfield 9, 3) := by decide +kernel
theorem dX2_copy_14 : decode cX2_copy 14 = .ok (.arraylength, 1) := by decide +kernel
theorem dX2_copy_15 : decode cX2_copy 15 = .ok (.invokestatic 43, 3) := by decide +kernel
theorem dX2_copy_18 : decode cX2_copy 18 = .ok (.aload_n 1, 1) := by decide +kernel
theorem dX2_copy_19 : decode cX2_copy 19 = .ok (.getfield 15, 3) := by decide +kernel
theorem dX2_copy_22 : decode cX2_copy 22 = .ok (.iconst 0, 1) := by decide +kernel
theorem dX2_copy_23 : decode cX2_copy 23 = .ok (.aload_n 0, 1) := by decide +kernel
theorem dX2_copy_24 : decode cX2_copy 24 = .ok (.getfield 15, 3) := by decide +kernel
theorem dX2_copy_27 : decode cX2_copy 27 = .ok (.iconst 0, 1) := by decide +kernel
theorem dX2_copy_28 : decode cX2_copy 28 = .ok (.aload_n 0, 1) := by decide +kernel
theorem dX2_copy_29 : decode cX2_copy 29 = .ok (.getfield 15, 3) := by decide +kernel
theorem dX2_copy_32 : decode cX2_copy 32 = .ok (.arraylength, 1) := by decide +kernel
theorem dX2_copy_33 : decode cX2_copy 33 = .ok (.invokestatic 43, 3) := by decide +kernel
theorem dX2_copy_36 : decode cX2_copy 36 = .ok (.return_, 1) := by decide +kernel
theorem dX6_init_0 : decode cX6_init 0 = .ok (.aload_n 0, 1) := by decide +kernel
theorem dX6_init_1 : decode cX6_init 1 = .ok (.invokespecial 3, 3) := by decide +kernel
theorem dX6_init_4 : decode cX6_init 4 = .ok (.aload_n 0, 1) := by decide +kernel
theorem dX6_init_5 : decode cX6_init 5 = .ok (.sipush 210, 3) := by decide +kernel
theorem dX6_init_8 : decode cX6_init 8 = .ok (.newarray .int, 2) := by decide +kernel
theorem dX6_init_10 : decode cX6_init 10 = .ok (.putfield 9, 3) := by decide +kernel
theorem dX6_init_13 : decode cX6_init 13 = .ok (.aload_n 0, 1) := by decide +kernel
theorem dX6_init_14 : decode cX6_init 14 = .ok (.sipush 210, 3) := by decide +kernel
theorem dX6_init_17 : decode cX6_init 17 = .ok (.newarray .int, 2) := by decide +kernel
theorem dX6_init_19 : decode cX6_init 19 = .ok (.putfield 15, 3) := by decide +kernel
theorem dX6_init_22 : decode cX6_init 22 = .ok (.aload_n 0, 1) := by decide +kernel
theorem dX6_init_23 : decode cX6_init 23 = .ok (.sipush 210, 3) := by decide +kernel
theorem dX6_init_26 : decode cX6_init 26 = .ok (.newarray .int, 2) := by decide +kernel
theorem dX6_init_28 : decode cX6_init 28 = .ok (.putfield 18, 3) := by decide +kernel
theorem dX6_init_31 : decode cX6_init 31 = .ok (.return_, 1) := by decide +kernel
theorem dX6_ready_0 : decode cX6_ready 0 = .ok (.iconst 0, 1) := by decide +kernel
theorem dX6_ready_1 : decode cX6_ready 1 = .ok (.istore 4, 2) := by decide +kernel
theorem dX6_ready_3 : decode cX6_ready 3 = .ok (.iload 4, 2) := by decide +kernel
theorem dX6_ready_5 : decode cX6_ready 5 = .ok (.bipush 21, 2) := by decide +kernel
theorem dX6_ready_7 : decode cX6_ready 7 = .ok (.if_icmp .ge 18, 3) := by decide +kernel
theorem dX6_ready_10 : decode cX6_ready 10 = .ok (.aload_n 0, 1) := by decide +kernel
theorem dX6_ready_11 : decode cX6_ready 11 = .ok (.aload_n 1, 1) := by decide +kernel
theorem dX6_ready_12 : decode cX6_ready 12 = .ok (.aload_n 2, 1) := by decide +kernel
theorem dX6_ready_13 : decode cX6_ready 13 = .ok (.iload_n 3, 1) := by decide +kernel
theorem dX6_ready_14 : decode cX6_ready 14 = .ok (.iload 4, 2) := by decide +kernel
theorem dX6_ready_16 : decode cX6_ready 16 = .ok (.invokevirtual 21, 3) := by decide +kernel
theorem dX6_ready_19 : decode cX6_ready 19 = .ok (.iinc 4 1, 3) := by decide +kernel
theorem dX6_ready_22 : decode cX6_ready 22 = .ok (.goto (-19), 3) := by decide +kernel
theorem dX6_ready_25 : decode cX6_ready 25 = .ok (.return_, 1) := by decide +kernel
theorem dX6_readyFor_0 : decode cX6_readyFor 0 = .ok (.iconst 0, 1) := by decide +kernel
theorem dX6_readyFor_1 : decode cX6_readyFor 1 = .ok (.istore 5, 2) := by decide +kernel
theorem dX6_readyFor_3 : decode cX6_readyFor 3 = .ok (.iload 5, 2) := by decide +kernel
theorem dX6_readyFor_5 : decode cX6_readyFor 5 = .ok (.bipush 10, 2) := by decide +kernel
theorem dX6_readyFor_7 : decode cX6_readyFor 7 = .ok (.if_icmp .ge 109, 3) := by decide +kernel
theorem dX6_readyFor_10 : decode cX6_readyFor 10 = .ok (.iload 4, 2) := by decide +kernel
theorem dX6_readyFor_12 : decode cX6_readyFor 12 = .ok (.invokestatic 25, 3) := by decide +kernel
theorem dX6_readyFor_15 : decode cX6_readyFor 15 = .ok (.ifCond .eq 101, 3) := by decide +kernel
theorem dX6_readyFor_18 : decode cX6_readyFor 18 = .ok (.iload 5, 2) := by decide +kernel
theorem dX6_readyFor_20 : decode cX6_readyFor 20 = .ok (.bipush 21, 2) := by decide +kernel
theorem dX6_readyFor_22 : decode cX6_readyFor 22 = .ok (.imul, 1) := by decide +kernel
theorem dX6_readyFor_23 : decode cX6_readyFor 23 = .ok (.iload 4, 2) := by decide +kernel
theorem dX6_readyFor_25 : decode cX6_readyFor 25 = .ok (.iadd, 1) := by decide +kernel
theorem dX6_readyFor_26 : decode cX6_readyFor 26 = .ok (.istore 6, 2) := by decide +kernel
theorem dX6_readyFor_28 : decode cX6_readyFor 28 = .ok (.iload 5, 2) := by decide +kernel
theorem dX6_readyFor_30 : decode cX6_readyFor 30 = .ok (.iconst 2, 1) := by decide +kernel
theorem dX6_readyFor_31 : decode cX6_readyFor 31 = .ok (.idiv, 1) := by decide +kernel
theorem dX6_readyFor_32 : decode cX6_readyFor 32 = .ok (.istore 7, 2) := by decide +kernel
theorem dX6_readyFor_34 : decode cX6_readyFor 34 = .ok (.aload_n 2, 1) := by decide +kernel
theorem dX6_readyFor_35 : decode cX6_readyFor 35 = .ok (.iload 5, 2) := by decide +kernel
theorem dX6_readyFor_37 : decode cX6_readyFor 37 = .ok (.iload 4, 2) := by decide +kernel
theorem dX6_readyFor_39 : decode cX6_readyFor 39 = .ok (.invokevirtual 29, 3) := by decide +kernel
theorem dX6_readyFor_42 : decode cX6_readyFor 42 = .ok (.istore 8, 2) := by decide +kernel
theorem dX6_readyFor_44 : decode cX6_readyFor 44 = .ok (.aload_n 0, 1) := by decide +kernel
theorem dX6_readyFor_45 : decode cX6_readyFor 45 = .ok (.getfield 9, 3) := by decide +kernel
theorem dX6_readyFor_48 : decode cX6_readyFor 48 = .ok (.iload 6, 2) := by decide +kernel
theorem dX6_readyFor_50 : decode cX6_readyFor 50 = .ok (.iload_n 3, 1) := by decide +kernel
theorem dX6_readyFor_51 : decode cX6_readyFor 51 = .ok (.iload 7, 2) := by decide +kernel
theorem dX6_readyFor_53 : decode cX6_readyFor 53 = .ok (.invokestatic 35, 3) := by decide +kernel
theorem dX6_readyFor_56 : decode cX6_readyFor 56 = .ok (.iadd, 1) := by decide +kernel
theorem dX6_readyFor_57 : decode cX6_readyFor 57 = .ok (.bipush 21, 2) := by decide +kernel
theorem dX6_readyFor_59 : decode cX6_readyFor 59 = .ok (.imul, 1) := by decide +kernel
theorem dX6_readyFor_60 : decode cX6_readyFor 60 = .ok (.aload_n 2, 1) := by decide +kernel
theorem dX6_readyFor_61 : decode cX6_readyFor 61 = .ok (.aload_n 1, 1) := by decide +kernel
theorem dX6_readyFor_62 : decode cX6_readyFor 62 = .ok (.iload_n 3, 1) := by decide +kernel
theorem dX6_readyFor_63 : decode cX6_readyFor 63 = .ok (.iload 4, 2) := by decide +kernel
theorem dX6_readyFor_65 : decode cX6_readyFor 65 = .ok (.iload 7, 2) := by decide +kernel
theorem dX6_readyFor_67 : decode cX6_readyFor 67 = .ok (.invokevirtual 39, 3) := by decide +kernel
theorem dX6_readyFor_70 : decode cX6_readyFor 70 = .ok (.iadd, 1) := by decide +kernel
theorem dX6_readyFor_71 : decode cX6_readyFor 71 = .ok (.iastore, 1) := by decide +kernel
theorem dX6_readyFor_72 : decode cX6_readyFor 72 = .ok (.aload_n 0, 1) := by decide +kernel
theorem dX6_readyFor_73 : decode cX6_readyFor 73 = .ok (.getfield 15, 3) := by decide +kernel
theorem dX6_readyFor_76 : decode cX6_readyFor 76 = .ok (.iload 6, 2) := by decide +kernel
theorem dX6_readyFor_78 : decode cX6_readyFor 78 = .ok (.ldc 43, 2) := by decide +kernel
theorem dX6_readyFor_80 : decode cX6_readyFor 80 = .ok (.aload_n 1, 1) := by decide +kernel
theorem dX6_readyFor_81 : decode cX6_readyFor 81 = .ok (.iload_n 3, 1) := by decide +kernel
theorem dX6_readyFor_82 : decode cX6_readyFor 82 = .ok (.invokevirtual 44, 3) := by decide +kernel
theorem dX6_readyFor_85 : decode cX6_readyFor 85 = .ok (.iload 8, 2) := by decide +kernel
theorem dX6_readyFor_87 : decode cX6_readyFor 87 = .ok (.imul, 1) := by decide +kernel
theorem dX6_readyFor_88 : decode cX6_readyFor 88 = .ok (.isub, 1) := by decide +kernel
theorem dX6_readyFor_89 : decode cX6_readyFor 89 = .ok (.iastore, 1) := by decide +kernel
theorem dX6_readyFor_90 : decode cX6_readyFor 90 = .ok (.aload_n 0, 1) := by decide +kernel
theorem dX6_readyFor_91 : decode cX6_readyFor 91 = .ok (.getfield 18, 3) := by decide +kernel
theorem dX6_readyFor_94 : decode cX6_readyFor 94 = .ok (.iload 6, 2) := by decide +kernel
theorem dX6_readyFor_96 : decode cX6_readyFor 96 = .ok (.ldc 43, 2) := by decide +kernel
theorem dX6_readyFor_98 : decode cX6_readyFor 98 = .ok (.aload_n 1, 1) := by decide +kernel
theorem dX6_readyFor_99 : decode cX6_readyFor 99 = .ok (.iload_n 3, 1) := by decide +kernel
theorem dX6_readyFor_100 : decode cX6_readyFor 100 = .ok (.iconst 1, 1) := by decide +kernel
theorem dX6_readyFor_101 : decode cX6_readyFor 101 = .ok (.iadd, 1) := by decide +kernel
theorem dX6_readyFor_102 : decode cX6_readyFor 102 = .ok (.invokevirtual 44, 3) := by decide +kernel
theorem dX6_readyFor_105 : decode cX6_readyFor 105 = .ok (.iload 8, 2) := by decide +kernel
theorem dX6_readyFor_107 : decode cX6_readyFor 107 = .ok (.imul, 1) := by decide +kernel
theorem dX6_readyFor_108 : decode cX6_readyFor 108 = .ok (.isub, 1) := by decide +kernel
theorem dX6_readyFor_109 : decode cX6_readyFor 109 = .ok (.iastore, 1) := by decide +kernel
theorem dX6_readyFor_110 : decode cX6_readyFor 110 = .ok (.iinc 5 1, 3) := by decide +kernel
theorem dX6_readyFor_113 : decode cX6_readyFor 113 = .ok (.goto (-110), 3) := by decide +kernel
theorem dX6_readyFor_116 : decode cX6_readyFor 116 = .ok (.return_, 1) := by decide +kernel
theorem dX6_safeBy_0 : decode cX6_safeBy 0 = .ok (.iload_n 1, 1) := by decide +kernel
theorem dX6_safeBy_1 : decode cX6_safeBy 1 = .ok (.bipush 21, 2) := by decide +kernel
theorem dX6_safeBy_3 : decode cX6_safeBy 3 = .ok (.imul, 1) := by decide +kernel
theorem dX6_safeBy_4 : decode cX6_safeBy 4 = .ok (.iload_n 2, 1) := by decide +kernel
theorem dX6_safeBy_5 : decode cX6_safeBy 5 = .ok (.iadd, 1) := by decide +kernel
theorem dX6_safeBy_6 : decode cX6_safeBy 6 = .ok (.istore 4, 2) := by decide +kernel
theorem dX6_safeBy_8 : decode cX6_safeBy 8 = .ok (.iload 4, 2) := by decide +kernel
theorem dX6_safeBy_10 : decode cX6_safeBy 10 = .ok (.ifCond .lt 13, 3) := by decide +kernel
theorem dX6_safeBy_13 : decode cX6_safeBy 13 = .ok (.iload 4, 2) := by decide +kernel
theorem dX6_safeBy_15 : decode cX6_safeBy 15 = .ok (.aload_n 0, 1) := by decide +kernel
theorem dX6_safeBy_16 : decode cX6_safeBy 16 = .ok (.getfield 9, 3) := by decide +kernel
theorem dX6_safeBy_19 : decode cX6_safeBy 19 = .ok (.arraylength, 1) := by decide +kernel
theorem dX6_safeBy_20 : decode cX6_safeBy 20 = .ok (.if_icmp .lt 5, 3) := by decide +kernel
theorem dX6_safeBy_23 : decode cX6_safeBy 23 = .ok (.iconst 0, 1) := by decide +kernel
theorem dX6_safeBy_24 : decode cX6_safeBy 24 = .ok (.ireturn, 1) := by decide +kernel
theorem dX6_safeBy_25 : decode cX6_safeBy 25 = .ok (.aload_n 3, 1) := by decide +kernel
theorem dX6_safeBy_26 : decode cX6_safeBy 26 = .ok (.aload_n 0, 1) := by decide +kernel
theorem dX6_safeBy_27 : decode cX6_safeBy 27 = .ok (.getfield 9, 3) := by decide +kernel
theorem dX6_safeBy_30 : decode cX6_safeBy 30 = .ok (.iload 4, 2) := by decide +kernel
theorem dX6_safeBy_32 : decode cX6_safeBy 32 = .ok (.iaload, 1) := by decide +kernel
theorem dX6_safeBy_33 : decode cX6_safeBy 33 = .ok (.invokevirtual 49, 3) := by decide +kernel
theorem dX6_safeBy_36 : decode cX6_safeBy 36 = .ok (.i2l, 1) := by decide +kernel
theorem dX6_safeBy_37 : decode cX6_safeBy 37 = .ok (.lstore 5, 2) := by decide +kernel
theorem dX6_safeBy_39 : decode cX6_safeBy 39 = .ok (.iload_n 1, 1) := by decide +kernel
theorem dX6_safeBy_40 : decode cX6_safeBy 40 = .ok (.iconst 2, 1) := by decide +kernel
theorem dX6_safeBy_41 : decode cX6_safeBy 41 = .ok (.idiv, 1) := by decide +kernel
theorem dX6_safeBy_42 : decode cX6_safeBy 42 = .ok (.iconst 3, 1) := by decide +kernel
theorem dX6_safeBy_43 : decode cX6_safeBy 43 = .ok (.if_icmp .ne 20, 3) := by decide +kernel
theorem dX6_safeBy_46 : decode cX6_safeBy 46 = .ok (.lload 5, 2) := by decide +kernel
theorem dX6_safeBy_48 : decode cX6_safeBy 48 = .ok (.aload_n 0, 1) := by decide +kernel
theorem dX6_safeBy_49 : decode cX6_safeBy 49 = .ok (.getfield 18, 3) := by decide +kernel
theorem dX6_safeBy_52 : decode cX6_safeBy 52 = .ok (.iload 4, 2) := by decide +kernel
theorem dX6_safeBy_54 : decode cX6_safeBy 54 = .ok (.iaload, 1) := by decide +kernel
theorem dX6_safeBy_55 : decode cX6_safeBy 55 = .ok (.i2l, 1) := by decide +kernel
theorem dX6_safeBy_56 : decode cX6_safeBy 56 = .ok (.lmul, 1) := by decide +kernel
theorem dX6_safeBy_57 : decode cX6_safeBy 57 = .ok (.ldc2_w 54, 3) := by decide +kernel
theorem dX6_safeBy_60 : decode cX6_safeBy 60 = .ok (.ldiv, 1) := by decide +kernel
theorem dX6_safeBy_61 : decode cX6_safeBy 61 = .ok (.lstore 5, 2) := by decide +kernel
theorem dX6_safeBy_63 : decode cX6_safeBy 63 = .ok (.lload 5, 2) := by decide +kernel
theorem dX6_safeBy_65 : decode cX6_safeBy 65 = .ok (.aload_n 0, 1) := by decide +kernel
theorem dX6_safeBy_66 : decode cX6_safeBy 66 = .ok (.getfield 15, 3) := by decide +kernel
theorem dX6_safeBy_69 : decode cX6_safeBy 69 = .ok (.iload 4, 2) := by decide +kernel
theorem dX6_safeBy_71 : decode cX6_safeBy 71 = .ok (.iaload, 1) := by decide +kernel
theorem dX6_safeBy_72 : decode cX6_safeBy 72 = .ok (.i2l, 1) := by decide +kernel
theorem dX6_safeBy_73 : decode cX6_safeBy 73 = .ok (.lmul, 1) := by decide +kernel
theorem dX6_safeBy_74 : decode cX6_safeBy 74 = .ok (.ldc2_w 54, 3) := by decide +kernel
theorem dX6_safeBy_77 : decode cX6_safeBy 77 = .ok (.ldiv, 1) := by decide +kernel
theorem dX6_safeBy_78 : decode cX6_safeBy 78 = .ok (.l2i, 1) := by decide +kernel
theorem dX6_safeBy_79 : decode cX6_safeBy 79 = .ok (.ireturn, 1) := by decide +kernel
theorem dX0_init_0 : decode cX0_init 0 = .ok (.aload_n 0, 1) := by decide +kernel
theorem dX0_init_1 : decode cX0_init 1 = .ok (.invokespecial 3, 3) := by decide +kernel
theorem dX0_init_4 : decode cX0_init 4 = .ok (.aload_n 0, 1) := by decide +kernel
theorem dX0_init_5 : decode cX0_init 5 = .ok (.aload_n 1, 1) := by decide +kernel
theorem dX0_init_6 : decode cX0_init 6 = .ok (.putfield 9, 3) := by decide +kernel
theorem dX0_init_9 : decode cX0_init 9 = .ok (.aload_n 0, 1) := by decide +kernel
theorem dX0_init_10 : decode cX0_init 10 = .ok (.new 15, 3) := by decide +kernel
theorem dX0_init_13 : decode cX0_init 13 = .ok (.dup, 1) := by decide +kernel
theorem dX0_init_14 : decode cX0_init 14 = .ok (.invokespecial 17, 3) := by decide +kernel
theorem dX0_init_17 : decode cX0_init 17 = .ok (.putfield 18, 3) := by decide +kernel
theorem dX0_init_20 : decode cX0_init 20 = .ok (.return_, 1) := by decide +kernel
theorem dX0_setOut_0 : decode cX0_setOut 0 = .ok (.aload_n 0, 1) := by decide +kernel
theorem dX0_setOut_1 : decode cX0_setOut 1 = .ok (.aload_n 1, 1) := by decide +kernel
theorem dX0_setOut_2 : decode cX0_setOut 2 = .ok (.putfield 22, 3) := by decide +kernel
theorem dX0_setOut_5 : decode cX0_setOut 5 = .ok (.aload_n 0, 1) := by decide +kernel
theorem dX0_setOut_6 : decode cX0_setOut 6 = .ok (.iconst 0, 1) := by decide +kernel
theorem dX0_setOut_7 : decode cX0_setOut 7 = .ok (.putfield 26, 3) := by decide +kernel
theorem dX0_setOut_10 : decode cX0_setOut 10 = .ok (.aload_n 0, 1) := by decide +kernel
theorem dX0_setOut_11 : decode cX0_setOut 11 = .ok (.iload_n 2, 1) := by decide +kernel
theorem dX0_setOut_12 : decode cX0_setOut 12 = .ok (.putfield 30, 3) := by decide +kernel
theorem dX0_setOut_15 : decode cX0_setOut 15 = .ok (.aload_n 0, 1) := by decide +kernel
theorem dX0_setOut_16 : decode cX0_setOut 16 = .ok (.iload_n 3, 1) := by decide +kernel
theorem dX0_setOut_17 : decode cX0_setOut 17 = .ok (.putfield 33, 3) := by decide +kernel
theorem dX0_setOut_20 : decode cX0_setOut 20 = .ok (.aload_n 0, 1) := by decide +kernel
theorem dX0_setOut_21 : decode cX0_setOut 21 = .ok (.getfield 18, 3) := by decide +kernel
theorem dX0_setOut_24 : decode cX0_setOut 24 = .ok (.iconst 0, 1) := by decide +kernel
theorem dX0_setOut_25 : decode cX0_setOut 25 = .ok (.putfield 36, 3) := by decide +kernel
theorem dX0_setOut_28 : decode cX0_setOut 28 = .ok (.return_, 1) := by decide +kernel
theorem dX0_sailBy_0 : decode cX0_sailBy 0 = .ok (.iconst 0, 1) := by decide +kernel
theorem dX0_sailBy_1 : decode cX0_sailBy 1 = .ok (.istore_n 2, 1) := by decide +kernel
theorem dX0_sailBy_2 : decode cX0_sailBy 2 = .ok (.iconst 0, 1) := by decide +kernel
theorem dX0_sailBy_3 : decode cX0_sailBy 3 = .ok (.istore_n 3, 1) := by decide +kernel
theorem dX0_sailBy_4 : decode cX0_sailBy 4 = .ok (.iconst 0, 1) := by decide +kernel
theorem dX0_sailBy_5 : decode cX0_sailBy 5 = .ok (.istore 4, 2) := by decide +kernel
theorem dX0_sailBy_7 : decode cX0_sailBy 7 = .ok (.iload 4, 2) := by decide +kernel
theorem dX0_sailBy_9 : decode cX0_sailBy 9 = .ok (.aload_n 1, 1) := by decide +kernel
theorem dX0_sailBy_10 : decode cX0_sailBy 10 = .ok (.getfield 39, 3) := by decide +kernel
theorem dX0_sailBy_13 : decode cX0_sailBy 13 = .ok (.if_icmp .ge 64, 3) := by decide +kernel
theorem dX0_sailBy_16 : decode cX0_sailBy 16 = .ok (.aload_n 1, 1) := by decide +kernel
theorem dX0_sailBy_17 : decode cX0_sailBy 17 = .ok (.getfield 44, 3) := by decide +kernel
theorem dX0_sailBy_20 : decode cX0_sailBy 20 = .ok (.iload 4, 2) := by decide +kernel
theorem dX0_sailBy_22 : decode cX0_sailBy 22 = .ok (.iaload, 1) := by decide +kernel
theorem dX0_sailBy_23 : decode cX0_sailBy 23 = .ok (.invokestatic 48, 3) := by decide +kernel
theorem dX0_sailBy_26 : decode cX0_sailBy 26 = .ok (.istore 5, 2) := by decide +kernel
theorem dX0_sailBy_28 : decode cX0_sailBy 28 = .ok (.iload 5, 2) := by decide +kernel
theorem dX0_sailBy_30 : decode cX0_sailBy 30 = .ok (.bipush (-6), 2) := by decide +kernel
theorem dX0_sailBy_32 : decode cX0_sailBy 32 = .ok (.if_icmp .eq 21, 3) := by decide +kernel
theorem dX0_sailBy_35 : decode cX0_sailBy 35 = .ok (.aload_n 0, 1) := by decide +kernel
theorem dX0_sailBy_36 : decode cX0_sailBy 36 = .ok (.iconst 2, 1) := by decide +kernel
theorem dX0_sailBy_37 : decode cX0_sailBy 37 = .ok (.iload 5, 2) := by decide +kernel
theorem dX0_sailBy_39 : decode cX0_sailBy 39 = .ok (.imul, 1) := by decide +kernel
theorem dX0_sailBy_40 : decode cX0_sailBy 40 = .ok (.iload_n 3, 1) := by decide +kernel
theorem dX0_sailBy_41 : decode cX0_sailBy 41 = .ok (.iadd, 1) := by decide +kernel
theorem dX0_sailBy_42 : decode cX0_sailBy 42 = .ok (.invokevirtual 52, 3) := by decide +kernel
theorem dX0_sailBy_45 : decode cX0_sailBy 45 = .ok (.ifCond .ne 5, 3) := by decide +kernel
theorem dX0_sailBy_48 : decode cX0_sailBy 48 = .ok (.iload_n 2, 1) := by decide +kernel
theorem dX0_sailBy_49 : decode cX0_sailBy 49 = .ok (.ireturn, 1) := by decide +kernel
theorem dX0_sailBy_50 : decode cX0_sailBy 50 = .ok (.iinc 2 1, 3) := by decide +kernel
theorem dX0_sailBy_53 : decode cX0_sailBy 53 = .ok (.aload_n 1, 1) := by decide +kernel
theorem dX0_sailBy_54 : decode cX0_sailBy 54 = .ok (.getfield 44, 3) := by decide +kernel
theorem dX0_sailBy_57 : decode cX0_sailBy 57 = .ok (.iload 4, 2) := by decide +kernel
theorem dX0_sailBy_59 : decode cX0_sailBy 59 = .ok (.iaload, 1) := by decide +kernel
theorem dX0_sailBy_60 : decode cX0_sailBy 60 = .ok (.bipush 33, 2) := by decide +kernel
theorem dX0_sailBy_62 : decode cX0_sailBy 62 = .ok (.if_icmp .ne 7, 3) := by decide +kernel
theorem dX0_sailBy_65 : decode cX0_sailBy 65 = .ok (.iconst 1, 1) := by decide +kernel
theorem dX0_sailBy_66 : decode cX0_sailBy 66 = .ok (.goto 4, 3) := by decide +kernel
theorem dX0_sailBy_69 : decode cX0_sailBy 69 = .ok (.iconst 0, 1) := by decide +kernel
theorem dX0_sailBy_70 : decode cX0_sailBy 70 = .ok (.istore_n 3, 1) := by decide +kernel
theorem dX0_sailBy_71 : decode cX0_sailBy 71 = .ok (.iinc 4 1, 3) := by decide +kernel
theorem dX0_sailBy_74 : decode cX0_sailBy 74 = .ok (.goto (-67), 3) := by decide +kernel
theorem dX0_sailBy_77 : decode cX0_sailBy 77 = .ok (.bipush (-6), 2) := by decide +kernel
theorem dX0_sailBy_79 : decode cX0_sailBy 79 = .ok (.ireturn, 1) := by decide +kernel
theorem dX0_sailByThumb_0 : decode cX0_sailByThumb 0 = .ok (.aload_n 0, 1) := by decide +kernel
theorem dX0_sailByThumb_1 : decode cX0_sailByThumb 1 = .ok (.getfield 22, 3) := by decide +kernel
theorem dX0_sailByThumb_4 : decode cX0_sailByThumb 4 = .ok (.ifnonnull 4, 3) := by decide +kernel
theorem dX0_sailByThumb_7 : decode cX0_sailByThumb 7 = .ok (.return_, 1) := by decide +kernel
theorem dX0_sailByThumb_8 : decode cX0_sailByThumb 8 = .ok (.iconst 0, 1) := by decide +kernel
theorem dX0_sailByThumb_9 : decode cX0_sailByThumb 9 = .ok (.istore_n 2, 1) := by decide +kernel
theorem dX0_sailByThumb_10 : decode cX0_sailByThumb 10 = .ok (.iload_n 2, 1) := by decide +kernel
theorem dX0_sailByThumb_11 : decode cX0_sailByThumb 11 = .ok (.bipush 48, 2) := by decide +kernel
theorem dX0_sailByThumb_13 : decode cX0_sailByThumb 13 = .ok (.if_icmp .ge 35, 3) := by decide +kernel
theorem dX0_sailByThumb_16 : decode cX0_sailByThumb 16 = .ok (.aload_n 0, 1) := by decide +kernel
theorem dX0_sailByThumb_17 : decode cX0_sailByThumb 17 = .ok (.getfield 26, 3) := by decide +kernel
theorem dX0_sailByThumb_20 : decode cX0_sailByThumb 20 = .ok (.aload_n 0, 1) := by decide +kernel
theorem dX0_sailByThumb_21 : decode cX0_sailByThumb 21 = .ok (.getfield 22, 3) := by decide +kernel
theorem dX0_sailByThumb_24 : decode cX0_sailByThumb 24 = .ok (.getfield 56, 3) := by decide +kernel
theorem dX0_sailByThumb_27 : decode cX0_sailByThumb 27 = .ok (.if_icmp .ge 21, 3) := by decide +kernel
theorem dX0_sailByThumb_30 : decode cX0_sailByThumb 30 = .ok (.aload_n 0, 1) := by decide +kernel
theorem dX0_sailByThumb_31 : decode cX0_sailByThumb 31 = .ok (.iconst 2, 1) := by decide +kernel
theorem dX0_sailByThumb_32 : decode cX0_sailByThumb 32 = .ok (.aload_n 0, 1) := by decide +kernel
theorem dX0_sailByThumb_33 : decode cX0_sailByThumb 33 = .ok (.iload_n 1, 1) := by decide +kernel
theorem dX0_sailByThumb_34 : decode cX0_sailByThumb 34 = .ok (.invokevirtual 61, 3) := by decide +kernel
theorem dX0_sailByThumb_37 : decode cX0_sailByThumb 37 = .ok (.imul, 1) := by decide +kernel
theorem dX0_sailByThumb_38 : decode cX0_sailByThumb 38 = .ok (.invokevirtual 52, 3) := by decide +kernel
theorem dX0_sailByThumb_41 : decode cX0_sailByThumb 41 = .ok (.pop, 1) := by decide +kernel
theorem dX0_sailByThumb_42 : decode cX0_sailByThumb 42 = .ok (.iinc 2 1, 3) := by decide +kernel
theorem dX0_sailByThumb_45 : decode cX0_sailByThumb 45 = .ok (.goto (-35), 3) := by decide +kernel
theorem dX0_sailByThumb_48 : decode cX0_sailByThumb 48 = .ok (.return_, 1) := by decide +kernel
theorem dX0_thingByThumb_0 : decode cX0_thingByThumb 0 = .ok (.iload_n 1, 1) := by decide +kernel
theorem dX0_thingByThumb_1 : decode cX0_thingByThumb 1 = .ok (.ifCond .ne 34, 3) := by decide +kernel
theorem dX0_thingByThumb_4 : decode cX0_thingByThumb 4 = .ok (.aload_n 0, 1) := by decide +kernel
theorem dX0_thingByThumb_5 : decode cX0_thingByThumb 5 = .ok (.getfield 26, 3) := by decide +kernel
theorem dX0_thingByThumb_8 : decode cX0_thingByThumb 8 = .ok (.iconst 2, 1) := by decide +kernel
theorem dX0_thingByThumb_9 : decode cX0_thingByThumb 9 = .ok (.irem, 1) := by decide +kernel
theorem dX0_thingByThumb_10 : decode cX0_thingByThumb 10 = .ok (.iconst 1, 1) := by decide +kernel
theorem dX0_thingByThumb_11 : decode cX0_thingByThumb 11 = .ok (.if_icmp .ne 22, 3) := by decide +kernel
theorem dX0_thingByThumb_14 : decode cX0_thingByThumb 14 = .ok (.aload_n 0, 1) := by decide +kernel
theorem dX0_thingByThumb_15 : decode cX0_thingByThumb 15 = .ok (.getfield 22, 3) := by decide +kernel
theorem dX0_thingByThumb_18 : decode cX0_thingByThumb 18 = .ok (.aload_n 0, 1) := by decide +kernel
theorem dX0_thingByThumb_19 : decode cX0_thingByThumb 19 = .ok (.getfield 26, 3) := by decide +kernel
theorem dX0_thingByThumb_22 : decode cX0_thingByThumb 22 = .ok (.iconst 1, 1) := by decide +kernel
theorem dX0_thingByThumb_23 : decode cX0_thingByThumb 23 = .ok (.invokevirtual 64, 3) := by decide +kernel
theorem dX0_thingByThumb_26 : decode cX0_thingByThumb 26 = .ok (.ifCond .eq 7, 3) := by decide +kernel
theorem dX0_thingByThumb_29 : decode cX0_thingByThumb 29 = .ok (.iconst 1, 1) := by decide +kernel
theorem dX0_thingByThumb_30 : decode cX0_thingByThumb 30 = .ok (.goto 4, 3) := by decide +kernel
theorem dX0_thingByThumb_33 : decode cX0_thingByThumb 33 = .ok (.iconst 0, 1) := by decide +kernel
theorem dX0_thingByThumb_34 : decode cX0_thingByThumb 34 = .ok (.ireturn, 1) := by decide +kernel
theorem dX0_thingByThumb_35 : decode cX0_thingByThumb 35 = .ok (.aload_n 0, 1) := by decide +kernel
theorem dX0_thingByThumb_36 : decode cX0_thingByThumb 36 = .ok (.iload_n 1, 1) := by decide +kernel
theorem dX0_thingByThumb_37 : decode cX0_thingByThumb 37 = .ok (.invokevirtual 68, 3) := by decide +kernel
theorem dX0_thingByThumb_40 : decode cX0_thingByThumb 40 = .ok (.ifCond .ne 5, 3) := by decide +kernel
theorem dX0_thingByThumb_43 : decode cX0_thingByThumb 43 = .ok (.iconst 0, 1) := by decide +kernel
theorem dX0_thingByThumb_44 : decode cX0_thingByThumb 44 = .ok (.ireturn, 1) := by decide +kernel
theorem dX0_thingByThumb_45 : decode cX0_thingByThumb 45 = .ok (.aload_n 0, 1) := by decide +kernel
theorem dX0_thingByThumb_46 : decode cX0_thingByThumb 46 = .ok (.getfield 22, 3) := by decide +kernel
theorem dX0_thingByThumb_49 : decode cX0_thingByThumb 49 = .ok (.aload_n 0, 1) := by decide +kernel
theorem dX0_thingByThumb_50 : decode cX0_thingByThumb 50 = .ok (.getfield 26, 3) := by decide +kernel
theorem dX0_thingByThumb_53 : decode cX0_thingByThumb 53 = .ok (.iconst 3, 1) := by decide +kernel
theorem dX0_thingByThumb_54 : decode cX0_thingByThumb 54 = .ok (.invokevirtual 64, 3) := by decide +kernel
theorem dX0_thingByThumb_57 : decode cX0_thingByThumb 57 = .ok (.ifCond .eq 5, 3) := by decide +kernel
theorem dX0_thingByThumb_60 : decode cX0_thingByThumb 60 = .ok (.iconst 3, 1) := by decide +kernel
theorem dX0_thingByThumb_61 : decode cX0_thingByThumb 61 = .ok (.ireturn, 1) := by decide +kernel
theorem dX0_thingByThumb_62 : decode cX0_thingByThumb 62 = .ok (.aload_n 0, 1) := by decide +kernel
theorem dX0_thingByThumb_63 : decode cX0_thingByThumb 63 = .ok (.getfield 22, 3) := by decide +kernel
theorem dX0_thingByThumb_66 : decode cX0_thingByThumb 66 = .ok (.aload_n 0, 1) := by decide +kernel
theorem dX0_thingByThumb_67 : decode cX0_thingByThumb 67 = .ok (.getfield 26, 3) := by decide +kernel
theorem dX0_thingByThumb_70 : decode cX0_thingByThumb 70 = .ok (.iconst 2, 1) := by decide +kernel
theorem dX0_thingByThumb_71 : decode cX0_thingByThumb 71 = .ok (.invokevirtual 64, 3) := by decide +kernel
theorem dX0_thingByThumb_74 : decode cX0_thingByThumb 74 = .ok (.ifCond .eq 7, 3) := by decide +kernel
theorem dX0_thingByThumb_77 : decode cX0_thingByThumb 77 = .ok (.iconst 2, 1) := by decide +kernel
theorem dX0_thingByThumb_78 : decode cX0_thingByThumb 78 = .ok (.goto 4, 3) := by decide +kernel
theorem dX0_thingByThumb_81 : decode cX0_thingByThumb 81 = .ok (.iconst 0, 1) := by decide +kernel
theorem dX0_thingByThumb_82 : decode cX0_thingByThumb 82 = .ok (.ireturn, 1) := by decide +kernel
theorem dX0_saidByThumb_0 : decode cX0_saidByThumb 0 = .ok (.iload_n 1, 1) := by decide +kernel
theorem dX0_saidByThumb_1 : decode cX0_saidByThumb 1 = .ok (.lookupswitch 72 #[(1, 27), (2, 42)], 27) := by decide +kernel
theorem dX0_saidByThumb_28 : decode cX0_saidByThumb 28 = .ok (.aload_n 0, 1) := by decide +kernel
theorem dX0_saidByThumb_29 : decode cX0_saidByThumb 29 = .ok (.getfield 30, 3) := by decide +kernel
theorem dX0_saidByThumb_32 : decode cX0_saidByThumb 32 = .ok (.bipush 8, 2) := by decide +kernel
theorem dX0_saidByThumb_34 : decode cX0_saidByThumb 34 = .ok (.if_icmp .lt 7, 3) := by decide +kernel
theorem dX0_saidByThumb_37 : decode cX0_saidByThumb 37 = .ok (.iconst 1, 1) := by decide +kernel
theorem dX0_saidByThumb_38 : decode cX0_saidByThumb 38 = .ok (.goto 4, 3) := by decide +kernel
theorem dX0_saidByThumb_41 : decode cX0_saidByThumb 41 = .ok (.iconst 0, 1) := by decide +kernel
theorem dX0_saidByThumb_42 : decode cX0_saidByThumb 42 = .ok (.ireturn, 1) := by decide +kernel
theorem dX0_saidByThumb_43 : decode cX0_saidByThumb 43 = .ok (.aload_n 0, 1) := by decide +kernel
theorem dX0_saidByThumb_44 : decode cX0_saidByThumb 44 = .ok (.getfield 30, 3) := by decide +kernel
theorem dX0_saidByThumb_47 : decode cX0_saidByThumb 47 = .ok (.iconst 4, 1) := by decide +kernel
theorem dX0_saidByThumb_48 : decode cX0_saidByThumb 48 = .ok (.if_icmp .lt 23, 3) := by decide +kernel
theorem dX0_saidByThumb_51 : decode cX0_saidByThumb 51 = .ok (.aload_n 0, 1) := by decide +kernel
theorem dX0_saidByThumb_52 : decode cX0_saidByThumb 52 = .ok (.getfield 22, 3) := by decide +kernel
theorem dX0_saidByThumb_55 : decode cX0_saidByThumb 55 = .ok (.aload_n 0, 1) := by decide +kernel
theorem dX0_saidByThumb_56 : decode cX0_saidByThumb 56 = .ok (.getfield 26, 3) := by decide +kernel
theorem dX0_saidByThumb_59 : decode cX0_saidByThumb 59 = .ok (.invokevirtual 71, 3) := by decide +kernel
theorem dX0_saidByThumb_62 : decode cX0_saidByThumb 62 = .ok (.bipush 50, 2) := by decide +kernel
theorem dX0_saidByThumb_64 : decode cX0_saidByThumb 64 = .ok (.if_icmp .ge 7, 3) := by decide +kernel
theorem dX0_saidByThumb_67 : decode cX0_saidByThumb 67 = .ok (.iconst 1, 1) := by decide +kernel
theorem dX0_saidByThumb_68 : decode cX0_saidByThumb 68 = .ok (.goto 4, 3) := by decide +kernel
theorem dX0_saidByThumb_71 : decode cX0_saidByThumb 71 = .ok (.iconst 0, 1) := by decide +kernel
theorem dX0_saidByThumb_72 : decode cX0_saidByThumb 72 = .ok (.ireturn, 1) := by decide +kernel
theorem dX0_saidByThumb_73 : decode cX0_saidByThumb 73 = .ok (.aload_n 0, 1) := by decide +kernel
theorem dX0_saidByThumb_74 : decode cX0_saidByThumb 74 = .ok (.getfield 30, 3) := by decide +kernel
theorem dX0_saidByThumb_77 : decode cX0_saidByThumb 77 = .ok (.iconst 1, 1) := by decide +kernel
theorem dX0_saidByThumb_78 : decode cX0_saidByThumb 78 = .ok (.if_icmp .lt 17, 3) := by decide +kernel
theorem dX0_saidByThumb_81 : decode cX0_saidByThumb 81 = .ok (.aload_n 0, 1) := by decide +kernel
theorem dX0_saidByThumb_82 : decode cX0_saidByThumb 82 = .ok (.getfield 26, 3) := by decide +kernel
theorem dX0_saidByThumb_85 : decode cX0_saidByThumb 85 = .ok (.invokestatic 74, 3) := by decide +kernel
theorem dX0_saidByThumb_88 : decode cX0_saidByThumb 88 = .ok (.ifCond .eq 7, 3) := by decide +kernel
theorem dX0_saidByThumb_91 : decode cX0_saidByThumb 91 = .ok (.iconst 1, 1) := by decide +kernel
theorem dX0_saidByThumb_92 : decode cX0_saidByThumb 92 = .ok (.goto 4, 3) := by decide +kernel
theorem dX0_saidByThumb_95 : decode cX0_saidByThumb 95 = .ok (.iconst 0, 1) := by decide +kernel
theorem dX0_saidByThumb_96 : decode cX0_saidByThumb 96 = .ok (.ireturn, 1) := by decide +kernel
theorem dX0_doDeed_0 : decode cX0_doDeed 0 = .ok (.iload_n 1, 1) := by decide +kernel
theorem dX0_doDeed_1 : decode cX0_doDeed 1 = .ok (.iconst 2, 1) := by decide +kernel
theorem dX0_doDeed_2 : decode cX0_doDeed 2 = .ok (.idiv, 1) := by decide +kernel
theorem dX0_doDeed_3 : decode cX0_doDeed 3 = .ok (.istore_n 2, 1) := by decide +kernel
theorem dX0_doDeed_4 : decode cX0_doDeed 4 = .ok (.aload_n 0, 1) := by decide +kernel
theorem dX0_doDeed_5 : decode cX0_doDeed 5 = .ok (.getfield 22, 3) := by decide +kernel
theorem dX0_doDeed_8 : decode cX0_doDeed 8 = .ok (.ifnull 29, 3) := by decide +kernel
theorem dX0_doDeed_11 : decode cX0_doDeed 11 = .ok (.aload_n 0, 1) := by decide +kernel
theorem dX0_doDeed_12 : decode cX0_doDeed 12 = .ok (.getfield 22, 3) := by decide +kernel
theorem dX0_doDeed_15 : decode cX0_doDeed 15 = .ok (.aload_n 0, 1) := by decide +kernel
theorem dX0_doDeed_16 : decode cX0_doDeed 16 = .ok (.getfield 26, 3) := by decide +kernel
theorem dX0_doDeed_19 : decode cX0_doDeed 19 = .ok (.iload_n 2, 1) := by decide +kernel
theorem dX0_doDeed_20 : decode cX0_doDeed 20 = .ok (.invokevirtual 64, 3) := by decide +kernel
theorem dX0_doDeed_23 : decode cX0_doDeed 23 = .ok (.ifCond .eq 14, 3) := by decide +kernel
theorem dX0_doDeed_26 : decode cX0_doDeed 26 = .ok (.aload_n 0, 1) := by decide +kernel
theorem dX0_doDeed_27 : decode cX0_doDeed 27 = .ok (.getfield 33, 3) := by decide +kernel
theorem dX0_doDeed_30 : decode cX0_doDeed 30 = .ok (.iload_n 1, 1) := by decide +kernel
theorem dX0_doDeed_31 : decode cX0_doDeed 31 = .ok (.invokestatic 77, 3) := by decide +kernel
theorem dX0_doDeed_34 : decode cX0_doDeed 34 = .ok (.if_icmp .ge 5, 3) := by decide +kernel
theorem dX0_doDeed_37 : decode cX0_doDeed 37 = .ok (.iconst 0, 1) := by decide +kernel
theorem dX0_doDeed_38 : decode cX0_doDeed 38 = .ok (.ireturn, 1) := by decide +kernel
theorem dX0_doDeed_39 : decode cX0_doDeed 39 = .ok (.aload_n 0, 1) := by decide +kernel
theorem dX0_doDeed_40 : decode cX0_doDeed 40 = .ok (.getfield 9, 3) := by decide +kernel
theorem dX0_doDeed_43 : decode cX0_doDeed 43 = .ok (.iload_n 1, 1) := by decide +kernel
theorem dX0_doDeed_44 : decode cX0_doDeed 44 = .ok (.aload_n 0, 1) := by decide +kernel
theorem dX0_doDeed_45 : decode cX0_doDeed 45 = .ok (.getfield 30, 3) := by decide +kernel
theorem dX0_doDeed_48 : decode cX0_doDeed 48 = .ok (.invokevirtual 80, 3) := by decide +kernel
theorem dX0_doDeed_51 : decode cX0_doDeed 51 = .ok (.istore_n 3, 1) := by decide +kernel
theorem dX0_doDeed_52 : decode cX0_doDeed 52 = .ok (.aload_n 0, 1) := by decide +kernel
theorem dX0_doDeed_53 : decode cX0_doDeed 53 = .ok (.getfield 18, 3) := by decide +kernel
theorem dX0_doDeed_56 : decode cX0_doDeed 56 = .ok (.aload_n 0, 1) := by decide +kernel
theorem dX0_doDeed_57 : decode cX0_doDeed 57 = .ok (.getfield 22, 3) := by decide +kernel
theorem dX0_doDeed_60 : decode cX0_doDeed 60 = .ok (.aload_n 0, 1) := by decide +kernel
theorem dX0_doDeed_61 : decode cX0_doDeed 61 = .ok (.getfield 26, 3) := by decide +kernel
theorem dX0_doDeed_64 : decode cX0_doDeed 64 = .ok (.invokevirtual 71, 3) := by decide +kernel
theorem dX0_doDeed_67 : decode cX0_doDeed 67 = .ok (.iload_n 3, 1) := by decide +kernel
theorem dX0_doDeed_68 : decode cX0_doDeed 68 = .ok (.invokevirtual 86, 3) := by decide +kernel
theorem dX0_doDeed_71 : decode cX0_doDeed 71 = .ok (.iload_n 2, 1) := by decide +kernel
theorem dX0_doDeed_72 : decode cX0_doDeed 72 = .ok (.iconst 3, 1) := by decide +kernel
theorem dX0_doDeed_73 : decode cX0_doDeed 73 = .ok (.if_icmp .ne 24, 3) := by decide +kernel
theorem dX0_doDeed_76 : decode cX0_doDeed 76 = .ok (.aload_n 0, 1) := by decide +kernel
theorem dX0_doDeed_77 : decode cX0_doDeed 77 = .ok (.getfield 18, 3) := by decide +kernel
theorem dX0_doDeed_80 : decode cX0_doDeed 80 = .ok (.aload_n 0, 1) := by decide +kernel
theorem dX0_doDeed_81 : decode cX0_doDeed 81 = .ok (.getfield 22, 3) := by decide +kernel
theorem dX0_doDeed_84 : decode cX0_doDeed 84 = .ok (.aload_n 0, 1) := by decide +kernel
theorem dX0_doDeed_85 : decode cX0_doDeed 85 = .ok (.getfield 26, 3) := by decide +kernel
theorem dX0_doDeed_88 : decode cX0_doDeed 88 = .ok (.iconst 1, 1) := by decide +kernel
theorem dX0_doDeed_89 : decode cX0_doDeed 89 = .ok (.iadd, 1) := by decide +kernel
theorem dX0_doDeed_90 : decode cX0_doDeed 90 = .ok (.invokevirtual 71, 3) := by decide +kernel
theorem dX0_doDeed_93 : decode cX0_doDeed 93 = .ok (.iload_n 3, 1) := by decide +kernel
theorem dX0_doDeed_94 : decode cX0_doDeed 94 = .ok (.invokevirtual 86, 3) := by decide +kernel
theorem dX0_doDeed_97 : decode cX0_doDeed 97 = .ok (.aload_n 0, 1) := by decide +kernel
theorem dX0_doDeed_98 : decode cX0_doDeed 98 = .ok (.aload_n 0, 1) := by decide +kernel
theorem dX0_doDeed_99 : decode cX0_doDeed 99 = .ok (.getfield 9, 3) := by decide +kernel
theorem dX0_doDeed_102 : decode cX0_doDeed 102 = .ok (.aload_n 0, 1) := by decide +kernel
theorem dX0_doDeed_103 : decode cX0_doDeed 103 = .ok (.getfield 22, 3) := by decide +kernel
theorem dX0_doDeed_106 : decode cX0_doDeed 106 = .ok (.aload_n 0, 1) := by decide +kernel
theorem dX0_doDeed_107 : decode cX0_doDeed 107 = .ok (.getfield 26, 3) := by decide +kernel
theorem dX0_doDeed_110 : decode cX0_doDeed 110 = .ok (.aload_n 0, 1) := by decide +kernel
theorem dX0_doDeed_111 : decode cX0_doDeed 111 = .ok (.getfield 30, 3) := by decide +kernel
theorem dX0_doDeed_114 : decode cX0_doDeed 114 = .ok (.iload_n 2, 1) := by decide +kernel
theorem dX0_doDeed_115 : decode cX0_doDeed 115 = .ok (.invokevirtual 90, 3) := by decide +kernel
theorem dX0_doDeed_118 : decode cX0_doDeed 118 = .ok (.putfield 30, 3) := by decide +kernel
theorem dX0_doDeed_121 : decode cX0_doDeed 121 = .ok (.aload_n 0, 1) := by decide +kernel
theorem dX0_doDeed_122 : decode cX0_doDeed 122 = .ok (.dup, 1) := by decide +kernel
theorem dX0_doDeed_123 : decode cX0_doDeed 123 = .ok (.getfield 33, 3) := by decide +kernel
theorem dX0_doDeed_126 : decode cX0_doDeed 126 = .ok (.iload_n 1, 1) := by decide +kernel
theorem dX0_doDeed_127 : decode cX0_doDeed 127 = .ok (.invokestatic 77, 3) := by decide +kernel
theorem dX0_doDeed_130 : decode cX0_doDeed 130 = .ok (.isub, 1) := by decide +kernel
theorem dX0_doDeed_131 : decode cX0_doDeed 131 = .ok (.putfield 33, 3) := by decide +kernel
theorem dX0_doDeed_134 : decode cX0_doDeed 134 = .ok (.aload_n 0, 1) := by decide +kernel
theorem dX0_doDeed_135 : decode cX0_doDeed 135 = .ok (.dup, 1) := by decide +kernel
theorem dX0_doDeed_136 : decode cX0_doDeed 136 = .ok (.getfield 26, 3) := by decide +kernel
theorem dX0_doDeed_139 : decode cX0_doDeed 139 = .ok (.iload_n 2, 1) := by decide +kernel
theorem dX0_doDeed_140 : decode cX0_doDeed 140 = .ok (.invokestatic 94, 3) := by decide +kernel
theorem dX0_doDeed_143 : decode cX0_doDeed 143 = .ok (.iadd, 1) := by decide +kernel
theorem dX0_doDeed_144 : decode cX0_doDeed 144 = .ok (.putfield 26, 3) := by decide +kernel
theorem dX0_doDeed_147 : decode cX0_doDeed 147 = .ok (.iconst 1, 1) := by decide +kernel
theorem dX0_doDeed_148 : decode cX0_doDeed 148 = .ok (.ireturn, 1) := by decide +kernel
theorem dX0_safeByTurns_0 : decode cX0_safeByTurns 0 = .ok (.iload_n 2, 1) := by decide +kernel
theorem dX0_safeByTurns_1 : decode cX0_safeByTurns 1 = .ok (.istore 4, 2) := by decide +kernel
theorem dX0_safeByTurns_3 : decode cX0_safeByTurns 3 = .ok (.iload_n 2, 1) := by decide +kernel
theorem dX0_safeByTurns_4 : decode cX0_safeByTurns 4 = .ok (.istore 5, 2) := by decide +kernel
theorem dX0_safeByTurns_6 : decode cX0_safeByTurns 6 = .ok (.aload_n 0, 1) := by decide +kernel
theorem dX0_safeByTurns_7 : decode cX0_safeByTurns 7 = .ok (.getfield 18, 3) := by decide +kernel
theorem dX0_safeByTurns_10 : decode cX0_safeByTurns 10 = .ok (.iconst 0, 1) := by decide +kernel
theorem dX0_safeByTurns_11 : decode cX0_safeByTurns 11 = .ok (.putfield 36, 3) := by decide +kernel
theorem dX0_safeByTurns_14 : decode cX0_safeByTurns 14 = .ok (.iconst 0, 1) := by decide +kernel
theorem dX0_safeByTurns_15 : decode cX0_safeByTurns 15 = .ok (.istore 6, 2) := by decide +kernel
theorem dX0_safeByTurns_17 : decode cX0_safeByTurns 17 = .ok (.iload 6, 2) := by decide +kernel
theorem dX0_safeByTurns_19 : decode cX0_safeByTurns 19 = .ok (.aload_n 1, 1) := by decide +kernel
theorem dX0_safeByTurns_20 : decode cX0_safeByTurns 20 = .ok (.getfield 56, 3) := by decide +kernel
theorem dX0_safeByTurns_23 : decode cX0_safeByTurns 23 = .ok (.if_icmp .ge 162, 3) := by decide +kernel
theorem dX0_safeByTurns_26 : decode cX0_safeByTurns 26 = .ok (.aload_n 1, 1) := by decide +kernel
theorem dX0_safeByTurns_27 : decode cX0_safeByTurns 27 = .ok (.iload 6, 2) := by decide +kernel
theorem dX0_safeByTurns_29 : decode cX0_safeByTurns 29 = .ok (.invokevirtual 97, 3) := by decide +kernel
theorem dX0_safeByTurns_32 : decode cX0_safeByTurns 32 = .ok (.istore 7, 2) := by decide +kernel
theorem dX0_safeByTurns_34 : decode cX0_safeByTurns 34 = .ok (.iload_n 3, 1) := by decide +kernel
theorem dX0_safeByTurns_35 : decode cX0_safeByTurns 35 = .ok (.iconst 1, 1) := by decide +kernel
theorem dX0_safeByTurns_36 : decode cX0_safeByTurns 36 = .ok (.if_icmp .lt 12, 3) := by decide +kernel
theorem dX0_safeByTurns_39 : decode cX0_safeByTurns 39 = .ok (.iload 6, 2) := by decide +kernel
theorem dX0_safeByTurns_41 : decode cX0_safeByTurns 41 = .ok (.iload_n 3, 1) := by decide +kernel
theorem dX0_safeByTurns_42 : decode cX0_safeByTurns 42 = .ok (.idiv, 1) := by decide +kernel
theorem dX0_safeByTurns_43 : decode cX0_safeByTurns 43 = .ok (.iconst 2, 1) := by decide +kernel
theorem dX0_safeByTurns_44 : decode cX0_safeByTurns 44 = .ok (.irem, 1) := by decide +kernel
theorem dX0_safeByTurns_45 : decode cX0_safeByTurns 45 = .ok (.ifCond .ne 7, 3) := by decide +kernel
theorem dX0_safeByTurns_48 : decode cX0_safeByTurns 48 = .ok (.iconst 1, 1) := by decide +kernel
theorem dX0_safeByTurns_49 : decode cX0_safeByTurns 49 = .ok (.goto 4, 3) := by decide +kernel
theorem dX0_safeByTurns_52 : decode cX0_safeByTurns 52 = .ok (.iconst 0, 1) := by decide +kernel
theorem dX0_safeByTurns_53 : decode cX0_safeByTurns 53 = .ok (.istore 8, 2) := by decide +kernel
theorem dX0_safeByTurns_55 : decode cX0_safeByTurns 55 = .ok (.iload 7, 2) := by decide +kernel
theorem dX0_safeByTurns_57 : decode cX0_safeByTurns 57 = .ok (.ifCond .eq 13, 3) := by decide +kernel
theorem dX0_safeByTurns_60 : decode cX0_safeByTurns 60 = .ok (.iload 4, 2) := by decide +kernel
theorem dX0_safeByTurns_62 : decode cX0_safeByTurns 62 = .ok (.iload 5, 2) := by decide +kernel
theorem dX0_safeByTurns_64 : decode cX0_safeByTurns 64 = .ok (.invokestatic 100, 3) := by decide +kernel
theorem dX0_safeByTurns_67 : decode cX0_safeByTurns 67 = .ok (.goto 15, 3) := by decide +kernel
theorem dX0_safeByTurns_70 : decode cX0_safeByTurns 70 = .ok (.iload 8, 2) := by decide +kernel
theorem dX0_safeByTurns_72 : decode cX0_safeByTurns 72 = .ok (.ifCond .eq 8, 3) := by decide +kernel
theorem dX0_safeByTurns_75 : decode cX0_safeByTurns 75 = .ok (.iload 4, 2) := by decide +kernel
theorem dX0_safeByTurns_77 : decode cX0_safeByTurns 77 = .ok (.goto 5, 3) := by decide +kernel
theorem dX0_safeByTurns_80 : decode cX0_safeByTurns 80 = .ok (.iload 5, 2) := by decide +kernel
theorem dX0_safeByTurns_82 : decode cX0_safeByTurns 82 = .ok (.istore 9, 2) := by decide +kernel
theorem dX0_safeByTurns_84 : decode cX0_safeByTurns 84 = .ok (.aload_n 0, 1) := by decide +kernel
theorem dX0_safeByTurns_85 : decode cX0_safeByTurns 85 = .ok (.getfield 18, 3) := by decide +kernel
theorem dX0_safeByTurns_88 : decode cX0_safeByTurns 88 = .ok (.aload_n 1, 1) := by decide +kernel
theorem dX0_safeByTurns_89 : decode cX0_safeByTurns 89 = .ok (.iload 6, 2) := by decide +kernel
theorem dX0_safeByTurns_91 : decode cX0_safeByTurns 91 = .ok (.invokevirtual 71, 3) := by decide +kernel
theorem dX0_safeByTurns_94 : decode cX0_safeByTurns 94 = .ok (.aload_n 0, 1) := by decide +kernel
theorem dX0_safeByTurns_95 : decode cX0_safeByTurns 95 = .ok (.getfield 9, 3) := by decide +kernel
theorem dX0_safeByTurns_98 : decode cX0_safeByTurns 98 = .ok (.iconst 0, 1) := by decide +kernel
theorem dX0_safeByTurns_99 : decode cX0_safeByTurns 99 = .ok (.iload 9, 2) := by decide +kernel
theorem dX0_safeByTurns_101 : decode cX0_safeByTurns 101 = .ok (.invokevirtual 80, 3) := by decide +kernel
theorem dX0_safeByTurns_104 : decode cX0_safeByTurns 104 = .ok (.invokevirtual 86, 3) := by decide +kernel
theorem dX0_safeByTurns_107 : decode cX0_safeByTurns 107 = .ok (.iload 7, 2) := by decide +kernel
theorem dX0_safeByTurns_109 : decode cX0_safeByTurns 109 = .ok (.ifCond .ne 8, 3) := by decide +kernel
theorem dX0_safeByTurns_112 : decode cX0_safeByTurns 112 = .ok (.iload 8, 2) := by decide +kernel
theorem dX0_safeByTurns_114 : decode cX0_safeByTurns 114 = .ok (.ifCond .eq 19, 3) := by decide +kernel
theorem dX0_safeByTurns_117 : decode cX0_safeByTurns 117 = .ok (.aload_n 0, 1) := by decide +kernel
theorem dX0_safeByTurns_118 : decode cX0_safeByTurns 118 = .ok (.getfield 9, 3) := by decide +kernel
theorem dX0_safeByTurns_121 : decode cX0_safeByTurns 121 = .ok (.aload_n 1, 1) := by decide +kernel
theorem dX0_safeByTurns_122 : decode cX0_safeByTurns 122 = .ok (.iload 6, 2) := by decide +kernel
theorem dX0_safeByTurns_124 : decode cX0_safeByTurns 124 = .ok (.iload 4, 2) := by decide +kernel
theorem dX0_safeByTurns_126 : decode cX0_safeByTurns 126 = .ok (.iconst 0, 1) := by decide +kernel
theorem dX0_safeByTurns_127 : decode cX0_safeByTurns 127 = .ok (.invokevirtual 90, 3) := by decide +kernel
theorem dX0_safeByTurns_130 : decode cX0_safeByTurns 130 = .ok (.goto 11, 3) := by decide +kernel
theorem dX0_safeByTurns_133 : decode cX0_safeByTurns 133 = .ok (.iconst 0, 1) := by decide +kernel
theorem dX0_safeByTurns_134 : decode cX0_safeByTurns 134 = .ok (.iload 4, 2) := by decide +kernel
theorem dX0_safeByTurns_136 : decode cX0_safeByTurns 136 = .ok (.iconst 2, 1) := by decide +kernel
theorem dX0_safeByTurns_137 : decode cX0_safeByTurns 137 = .ok (.isub, 1) := by decide +kernel
theorem dX0_safeByTurns_138 : decode cX0_safeByTurns 138 = .ok (.invokestatic 105, 3) := by decide +kernel
theorem dX0_safeByTurns_141 : decode cX0_safeByTurns 141 = .ok (.istore 4, 2) := by decide +kernel
theorem dX0_safeByTurns_143 : decode cX0_safeByTurns 143 = .ok (.iload 7, 2) := by decide +kernel
theorem dX0_safeByTurns_145 : decode cX0_safeByTurns 145 = .ok (.ifCond .ne 8, 3) := by decide +kernel
theorem dX0_safeByTurns_148 : decode cX0_safeByTurns 148 = .ok (.iload 8, 2) := by decide +kernel
theorem dX0_safeByTurns_150 : decode cX0_safeByTurns 150 = .ok (.ifCond .ne 19, 3) := by decide +kernel
theorem dX0_safeByTurns_153 : decode cX0_safeByTurns 153 = .ok (.aload_n 0, 1) := by decide +kernel
theorem dX0_safeByTurns_154 : decode cX0_safeByTurns 154 = .ok (.getfield 9, 3) := by decide +kernel
theorem dX0_safeByTurns_157 : decode cX0_safeByTurns 157 = .ok (.aload_n 1, 1) := by decide +kernel
theorem dX0_safeByTurns_158 : decode cX0_safeByTurns 158 = .ok (.iload 6, 2) := by decide +kernel
theorem dX0_safeByTurns_160 : decode cX0_safeByTurns 160 = .ok (.iload 5, 2) := by decide +kernel
theorem dX0_safeByTurns_162 : decode cX0_safeByTurns 162 = .ok (.iconst 0, 1) := by decide +kernel
theorem dX0_safeByTurns_163 : decode cX0_safeByTurns 163 = .ok (.invokevirtual 90, 3) := by decide +kernel
theorem dX0_safeByTurns_166 : decode cX0_safeByTurns 166 = .ok (.goto 11, 3) := by decide +kernel
theorem dX0_safeByTurns_169 : decode cX0_safeByTurns 169 = .ok (.iconst 0, 1) := by decide +kernel
theorem dX0_safeByTurns_170 : decode cX0_safeByTurns 170 = .ok (.iload 5, 2) := by decide +kernel
theorem dX0_safeByTurns_172 : decode cX0_safeByTurns 172 = .ok (.iconst 2, 1) := by decide +kernel
theorem dX0_safeByTurns_173 : decode cX0_safeByTurns 173 = .ok (.isub, 1) := by decide +kernel
theorem dX0_safeByTurns_174 : decode cX0_safeByTurns 174 = .ok (.invokestatic 105, 3) := by decide +kernel
theorem dX0_safeByTurns_177 : decode cX0_safeByTurns 177 = .ok (.istore 5, 2) := by decide +kernel
theorem dX0_safeByTurns_179 : decode cX0_safeByTurns 179 = .ok (.iinc 6 1, 3) := by decide +kernel
theorem dX0_safeByTurns_182 : decode cX0_safeByTurns 182 = .ok (.goto (-165), 3) := by decide +kernel
theorem dX0_safeByTurns_185 : decode cX0_safeByTurns 185 = .ok (.aload_n 0, 1) := by decide +kernel
theorem dX0_safeByTurns_186 : decode cX0_safeByTurns 186 = .ok (.getfield 18, 3) := by decide +kernel
theorem dX0_safeByTurns_189 : decode cX0_safeByTurns 189 = .ok (.invokevirtual 108, 3) := by decide +kernel
theorem dX0_safeByTurns_192 : decode cX0_safeByTurns 192 = .ok (.ireturn, 1) := by decide +kernel
theorem dX4_init_0 : decode cX4_init 0 = .ok (.aload_n 0, 1) := by decide +kernel
theorem dX4_init_1 : decode cX4_init 1 = .ok (.invokespecial 3, 3) := by decide +kernel
theorem dX4_init_4 : decode cX4_init 4 = .ok (.aload_n 0, 1) := by decide +kernel
theorem dX4_init_5 : decode cX4_init 5 = .ok (.aload_n 1, 1) := by decide +kernel
theorem dX4_init_6 : decode cX4_init 6 = .ok (.putfield 9, 3) := by decide +kernel
theorem dX4_init_9 : decode cX4_init 9 = .ok (.aload_n 0, 1) := by decide +kernel
theorem dX4_init_10 : decode cX4_init 10 = .ok (.aload_n 2, 1) := by decide +kernel
theorem dX4_init_11 : decode cX4_init 11 = .ok (.putfield 15, 3) := by decide +kernel
theorem dX4_init_14 : decode cX4_init 14 = .ok (.aload_n 0, 1) := by decide +kernel
theorem dX4_init_15 : decode cX4_init 15 = .ok (.aload_n 3, 1) := by decide +kernel
theorem dX4_init_16 : decode cX4_init 16 = .ok (.putfield 19, 3) := by decide +kernel
theorem dX4_init_19 : decode cX4_init 19 = .ok (.aload_n 0, 1) := by decide +kernel
theorem dX4_init_20 : decode cX4_init 20 = .ok (.bipush 125, 2) := by decide +kernel
theorem dX4_init_22 : decode cX4_init 22 = .ok (.anewarray 23, 3) := by decide +kernel
theorem dX4_init_25 : decode cX4_init 25 = .ok (.putfield 25, 3) := by decide +kernel
theorem dX4_init_28 : decode cX4_init 28 = .ok (.return_, 1) := by decide +kernel
theorem dX4_forget_0 : decode cX4_forget 0 = .ok (.iconst 0, 1) := by decide +kernel
theorem dX4_forget_1 : decode cX4_forget 1 = .ok (.istore_n 1, 1) := by decide +kernel
theorem dX4_forget_2 : decode cX4_forget 2 = .ok (.iload_n 1, 1) := by decide +kernel
theorem dX4_forget_3 : decode cX4_forget 3 = .ok (.aload_n 0, 1) := by decide +kernel
theorem dX4_forget_4 : decode cX4_forget 4 = .ok (.getfield 25, 3) := by decide +kernel
theorem dX4_forget_7 : decode cX4_forget 7 = .ok (.arraylength, 1) := by decide +kernel
theorem dX4_forget_8 : decode cX4_forget 8 = .ok (.if_icmp .ge 29, 3) := by decide +kernel
theorem dX4_forget_11 : decode cX4_forget 11 = .ok (.aload_n 0, 1) := by decide +kernel
theorem dX4_forget_12 : decode cX4_forget 12 = .ok (.getfield 25, 3) := by decide +kernel
theorem dX4_forget_15 : decode cX4_forget 15 = .ok (.iload_n 1, 1) := by decide +kernel
theorem dX4_forget_16 : decode cX4_forget 16 = .ok (.aaload, 1) := by decide +kernel
theorem dX4_forget_17 : decode cX4_forget 17 = .ok (.ifnull 14, 3) := by decide +kernel
theorem dX4_forget_20 : decode cX4_forget 20 = .ok (.aload_n 0, 1) := by decide +kernel
theorem dX4_forget_21 : decode cX4_forget 21 = .ok (.getfield 25, 3) := by decide +kernel
theorem dX4_forget_24 : decode cX4_forget 24 = .ok (.iload_n 1, 1) := by decide +kernel
theorem dX4_forget_25 : decode cX4_forget 25 = .ok (.aaload, 1) := by decide +kernel
theorem dX4_forget_26 : decode cX4_forget 26 = .ok (.bipush 49, 2) := by decide +kernel
theorem dX4_forget_28 : decode cX4_forget 28 = .ok (.putfield 29, 3) := by decide +kernel
theorem dX4_forget_31 : decode cX4_forget 31 = .ok (.iinc 1 1, 3) := by decide +kernel
theorem dX4_forget_34 : decode cX4_forget 34 = .ok (.goto (-32), 3) := by decide +kernel
theorem dX4_forget_37 : decode cX4_forget 37 = .ok (.return_, 1) := by decide +kernel
theorem dX4_reaches_0 : decode cX4_reaches 0 = .ok (.iload_n 1, 1) := by decide +kernel
theorem dX4_reaches_1 : decode cX4_reaches 1 = .ok (.iconst 0, 1) := by decide +kernel
theorem dX4_reaches_2 : decode cX4_reaches 2 = .ok (.aload_n 0, 1) := by decide +kernel
theorem dX4_reaches_3 : decode cX4_reaches 3 = .ok (.getfield 9, 3) := by decide +kernel
theorem dX4_reaches_6 : decode cX4_reaches 6 = .ok (.getfield 33, 3) := by decide +kernel
theorem dX4_reaches_9 : decode cX4_reaches 9 = .ok (.invokestatic 38, 3) := by decide +kernel
theorem dX4_reaches_12 : decode cX4_reaches 12 = .ok (.ifCond .eq 16, 3) := by decide +kernel
theorem dX4_reaches_15 : decode cX4_reaches 15 = .ok (.iload_n 2, 1) := by decide +kernel
theorem dX4_reaches_16 : decode cX4_reaches 16 = .ok (.iconst 0, 1) := by decide +kernel
theorem dX4_reaches_17 : decode cX4_reaches 17 = .ok (.iconst 4, 1) := by decide +kernel
theorem dX4_reaches_18 : decode cX4_reaches 18 = .ok (.invokestatic 38, 3) := by decide +kernel
theorem dX4_reaches_21 : decode cX4_reaches 21 = .ok (.ifCond .eq 7, 3) := by decide +kernel
theorem dX4_reaches_24 : decode cX4_reaches 24 = .ok (.iconst 1, 1) := by decide +kernel
theorem dX4_reaches_25 : decode cX4_reaches 25 = .ok (.goto 4, 3) := by decide +kernel
theorem dX4_reaches_28 : decode cX4_reaches 28 = .ok (.iconst 0, 1) := by decide +kernel
theorem dX4_reaches_29 : decode cX4_reaches 29 = .ok (.ireturn, 1) := by decide +kernel
theorem dX4_bestFrom_0 : decode cX4_bestFrom 0 = .ok (.aload_n 0, 1) := by decide +kernel
theorem dX4_bestFrom_1 : decode cX4_bestFrom 1 = .ok (.iload_n 1, 1) := by decide +kernel
theorem dX4_bestFrom_2 : decode cX4_bestFrom 2 = .ok (.iload_n 3, 1) := by decide +kernel
theorem dX4_bestFrom_3 : decode cX4_bestFrom 3 = .ok (.iload 4, 2) := by decide +kernel
theorem dX4_bestFrom_5 : decode cX4_bestFrom 5 = .ok (.invokevirtual 42, 3) := by decide +kernel
theorem dX4_bestFrom_8 : decode cX4_bestFrom 8 = .ok (.aload_n 0, 1) := by decide +kernel
theorem dX4_bestFrom_9 : decode cX4_bestFrom 9 = .ok (.iload_n 1, 1) := by decide +kernel
theorem dX4_bestFrom_10 : decode cX4_bestFrom 10 = .ok (.iload_n 3, 1) := by decide +kernel
theorem dX4_bestFrom_11 : decode cX4_bestFrom 11 = .ok (.iload 4, 2) := by decide +kernel
theorem dX4_bestFrom_13 : decode cX4_bestFrom 13 = .ok (.invokevirtual 46, 3) := by decide +kernel
theorem dX4_bestFrom_16 : decode cX4_bestFrom 16 = .ok (.astore 5, 2) := by decide +kernel
theorem dX4_bestFrom_18 : decode cX4_bestFrom 18 = .ok (.aload 5, 2) := by decide +kernel
theorem dX4_bestFrom_20 : decode cX4_bestFrom 20 = .ok (.ifnonnull 7, 3) := by decide +kernel
theorem dX4_bestFrom_23 : decode cX4_bestFrom 23 = .ok (.iconst 0, 1) := by decide +kernel
theorem dX4_bestFrom_24 : decode cX4_bestFrom 24 = .ok (.goto 14, 3) := by decide +kernel
theorem dX4_bestFrom_27 : decode cX4_bestFrom 27 = .ok (.aload 5, 2) := by decide +kernel
theorem dX4_bestFrom_29 : decode cX4_bestFrom 29 = .ok (.iload_n 1, 1) := by decide +kernel
theorem dX4_bestFrom_30 : decode cX4_bestFrom 30 = .ok (.bipush 21, 2) := by decide +kernel
theorem dX4_bestFrom_32 : decode cX4_bestFrom 32 = .ok (.imul, 1) := by decide +kernel
theorem dX4_bestFrom_33 : decode cX4_bestFrom 33 = .ok (.iload_n 2, 1) := by decide +kernel
theorem dX4_bestFrom_34 : decode cX4_bestFrom 34 = .ok (.iadd, 1) := by decide +kernel
theorem dX4_bestFrom_35 : decode cX4_bestFrom 35 = .ok (.invokevirtual 50, 3) := by decide +kernel
theorem dX4_bestFrom_38 : decode cX4_bestFrom 38 = .ok (.ireturn, 1) := by decide +kernel
theorem dX4_firstDeed_0 : decode cX4_firstDeed 0 = .ok (.aload_n 0, 1) := by decide +kernel
theorem dX4_firstDeed_1 : decode cX4_firstDeed 1 = .ok (.iload_n 1, 1) := by decide +kernel
theorem dX4_firstDeed_2 : decode cX4_firstDeed 2 = .ok (.iload_n 3, 1) := by decide +kernel
theorem dX4_firstDeed_3 : decode cX4_firstDeed 3 = .ok (.iload 4, 2) := by decide +kernel
theorem dX4_firstDeed_5 : decode cX4_firstDeed 5 = .ok (.invokevirtual 42, 3) := by decide +kernel
theorem dX4_firstDeed_8 : decode cX4_firstDeed 8 = .ok (.aload_n 0, 1) := by decide +kernel
theorem dX4_firstDeed_9 : decode cX4_firstDeed 9 = .ok (.iload_n 1, 1) := by decide +kernel
theorem dX4_firstDeed_10 : decode cX4_firstDeed 10 = .ok (.iload_n 2, 1) := by decide +kernel
theorem dX4_firstDeed_11 : decode cX4_firstDeed 11 = .ok (.iload_n 3, 1) := by decide +kernel
theorem dX4_firstDeed_12 : decode cX4_firstDeed 12 = .ok (.iload 4, 2) := by decide +kernel
theorem dX4_firstDeed_14 : decode cX4_firstDeed 14 = .ok (.invokevirtual 54, 3) := by decide +kernel
theorem dX4_firstDeed_17 : decode cX4_firstDeed 17 = .ok (.ireturn, 1) := by decide +kernel
theorem dX4_follow_0 : decode cX4_follow 0 = .ok (.iconst 0, 1) := by decide +kernel
theorem dX4_follow_1 : decode cX4_follow 1 = .ok (.istore 4, 2) := by decide +kernel
theorem dX4_follow_3 : decode cX4_follow 3 = .ok (.iload_n 1, 1) := by decide +kernel
theorem dX4_follow_4 : decode cX4_follow 4 = .ok (.istore 5, 2) := by decide +kernel
theorem dX4_follow_6 : decode cX4_follow 6 = .ok (.iload_n 2, 1) := by decide +kernel
theorem dX4_follow_7 : decode cX4_follow 7 = .ok (.istore 6, 2) := by decide +kernel
theorem dX4_follow_9 : decode cX4_follow 9 = .ok (.iconst 4, 1) := by decide +kernel
theorem dX4_follow_10 : decode cX4_follow 10 = .ok (.istore 7, 2) := by decide +kernel
theorem dX4_follow_12 : decode cX4_follow 12 = .ok (.aload_n 0, 1) := by decide +kernel
theorem dX4_follow_13 : decode cX4_follow 13 = .ok (.iload 4, 2) := by decide +kernel
theorem dX4_follow_15 : decode cX4_follow 15 = .ok (.iload 6, 2) := by decide +kernel
theorem dX4_follow_17 : decode cX4_follow 17 = .ok (.iload 7, 2) := by decide +kernel
theorem dX4_follow_19 : decode cX4_follow 19 = .ok (.invokevirtual 42, 3) := by decide +kernel
theorem dX4_follow_22 : decode cX4_follow 22 = .ok (.iconst 0, 1) := by decide +kernel
theorem dX4_follow_23 : decode cX4_follow 23 = .ok (.istore 8, 2) := by decide +kernel
theorem dX4_follow_25 : decode cX4_follow 25 = .ok (.iload 8, 2) := by decide +kernel
theorem dX4_follow_27 : decode cX4_follow 27 = .ok (.bipush 52, 2) := by decide +kernel
theorem dX4_follow_29 : decode cX4_follow 29 = .ok (.if_icmp .gt 116, 3) := by decide +kernel
theorem dX4_follow_32 : decode cX4_follow 32 = .ok (.aload_n 0, 1) := by decide +kernel
theorem dX4_follow_33 : decode cX4_follow 33 = .ok (.iload 4, 2) := by decide +kernel
theorem dX4_follow_35 : decode cX4_follow 35 = .ok (.iload 5, 2) := by decide +kernel
theorem dX4_follow_37 : decode cX4_follow 37 = .ok (.iload 6, 2) := by decide +kernel
theorem dX4_follow_39 : decode cX4_follow 39 = .ok (.iload 7, 2) := by decide +kernel
theorem dX4_follow_41 : decode cX4_follow 41 = .ok (.invokevirtual 54, 3) := by decide +kernel
theorem dX4_follow_44 : decode cX4_follow 44 = .ok (.istore 9, 2) := by decide +kernel
theorem dX4_follow_46 : decode cX4_follow 46 = .ok (.iload 9, 2) := by decide +kernel
theorem dX4_follow_48 : decode cX4_follow 48 = .ok (.bipush (-6), 2) := by decide +kernel
theorem dX4_follow_50 : decode cX4_follow 50 = .ok (.if_icmp .ne 16, 3) := by decide +kernel
theorem dX4_follow_53 : decode cX4_follow 53 = .ok (.iload_n 3, 1) := by decide +kernel
theorem dX4_follow_54 : decode cX4_follow 54 = .ok (.iconst (-1), 1) := by decide +kernel
theorem dX4_follow_55 : decode cX4_follow 55 = .ok (.if_icmp .ne 8, 3) := by decide +kernel
theorem dX4_follow_58 : decode cX4_follow 58 = .ok (.iload 8, 2) := by decide +kernel
theorem dX4_follow_60 : decode cX4_follow 60 = .ok (.goto 5, 3) := by decide +kernel
theorem dX4_follow_63 : decode cX4_follow 63 = .ok (.bipush (-6), 2) := by decide +kernel
theorem dX4_follow_65 : decode cX4_follow 65 = .ok (.ireturn, 1) := by decide +kernel
theorem dX4_follow_66 : decode cX4_follow 66 = .ok (.iload 8, 2) := by decide +kernel
theorem dX4_follow_68 : decode cX4_follow 68 = .ok (.iload_n 3, 1) := by decide +kernel
theorem dX4_follow_69 : decode cX4_follow 69 = .ok (.if_icmp .ne 9, 3) := by decide +kernel
theorem dX4_follow_72 : decode cX4_follow 72 = .ok (.iload 9, 2) := by decide +kernel
theorem dX4_follow_74 : decode cX4_follow 74 = .ok (.invokestatic 58, 3) := by decide +kernel
theorem dX4_follow_77 : decode cX4_follow 77 = .ok (.ireturn, 1) := by decide +kernel
theorem dX4_follow_78 : decode cX4_follow 78 = .ok (.aload_n 0, 1) := by decide +kernel
theorem dX4_follow_79 : decode cX4_follow 79 = .ok (.getfield 15, 3) := by decide +kernel
theorem dX4_follow_82 : decode cX4_follow 82 = .ok (.aload_n 0, 1) := by decide +kernel
theorem dX4_follow_83 : decode cX4_follow 83 = .ok (.getfield 9, 3) := by decide +kernel
theorem dX4_follow_86 : decode cX4_follow 86 = .ok (.iload 4, 2) := by decide +kernel
theorem dX4_follow_88 : decode cX4_follow 88 = .ok (.iload 5, 2) := by decide +kernel
theorem dX4_follow_90 : decode cX4_follow 90 = .ok (.iload 9, 2) := by decide +kernel
theorem dX4_follow_92 : decode cX4_follow 92 = .ok (.iconst 2, 1) := by decide +kernel
theorem dX4_follow_93 : decode cX4_follow 93 = .ok (.idiv, 1) := by decide +kernel
theorem dX4_follow_94 : decode cX4_follow 94 = .ok (.invokevirtual 61, 3) := by decide +kernel
theorem dX4_follow_97 : decode cX4_follow 97 = .ok (.istore 5, 2) := by decide +kernel
theorem dX4_follow_99 : decode cX4_follow 99 = .ok (.iload 6, 2) := by decide +kernel
theorem dX4_follow_101 : decode cX4_follow 101 = .ok (.iload 9, 2) := by decide +kernel
theorem dX4_follow_103 : decode cX4_follow 103 = .ok (.invokestatic 67, 3) := by decide +kernel
theorem dX4_follow_106 : decode cX4_follow 106 = .ok (.isub, 1) := by decide +kernel
theorem dX4_follow_107 : decode cX4_follow 107 = .ok (.istore 6, 2) := by decide +kernel
theorem dX4_follow_109 : decode cX4_follow 109 = .ok (.iload 7, 2) := by decide +kernel
theorem dX4_follow_111 : decode cX4_follow 111 = .ok (.iload 9, 2) := by decide +kernel
theorem dX4_follow_113 : decode cX4_follow 113 = .ok (.iconst 2, 1) := by decide +kernel
theorem dX4_follow_114 : decode cX4_follow 114 = .ok (.idiv, 1) := by decide +kernel
theorem dX4_follow_115 : decode cX4_follow 115 = .ok (.iconst 4, 1) := by decide +kernel
theorem dX4_follow_116 : decode cX4_follow 116 = .ok (.if_icmp .ne 7, 3) := by decide +kernel
theorem dX4_follow_119 : decode cX4_follow 119 = .ok (.iconst 1, 1) := by decide +kernel
theorem dX4_follow_120 : decode cX4_follow 120 = .ok (.goto 4, 3) := by decide +kernel
theorem dX4_follow_123 : decode cX4_follow 123 = .ok (.iconst 0, 1) := by decide +kernel
theorem dX4_follow_124 : decode cX4_follow 124 = .ok (.isub, 1) := by decide +kernel
theorem dX4_follow_125 : decode cX4_follow 125 = .ok (.istore 7, 2) := by decide +kernel
theorem dX4_follow_127 : decode cX4_follow 127 = .ok (.iload 4, 2) := by decide +kernel
theorem dX4_follow_129 : decode cX4_follow 129 = .ok (.iload 9, 2) := by decide +kernel
theorem dX4_follow_131 : decode cX4_follow 131 = .ok (.iconst 2, 1) := by decide +kernel
theorem dX4_follow_132 : decode cX4_follow 132 = .ok (.idiv, 1) := by decide +kernel
theorem dX4_follow_133 : decode cX4_follow 133 = .ok (.invokestatic 70, 3) := by decide +kernel
theorem dX4_follow_136 : decode cX4_follow 136 = .ok (.iadd, 1) := by decide +kernel
theorem dX4_follow_137 : decode cX4_follow 137 = .ok (.istore 4, 2) := by decide +kernel
theorem dX4_follow_139 : decode cX4_follow 139 = .ok (.iinc 8 1, 3) := by decide +kernel
theorem dX4_follow_142 : decode cX4_follow 142 = .ok (.goto (-117), 3) := by decide +kernel
theorem dX4_follow_145 : decode cX4_follow 145 = .ok (.bipush (-6), 2) := by decide +kernel
theorem dX4_follow_147 : decode cX4_follow 147 = .ok (.ireturn, 1) := by decide +kernel
theorem dX4_fill_0 : decode cX4_fill 0 = .ok (.aload_n 0, 1) := by decide +kernel
theorem dX4_fill_1 : decode cX4_fill 1 = .ok (.iload_n 1, 1) := by decide +kernel
theorem dX4_fill_2 : decode cX4_fill 2 = .ok (.iload_n 2, 1) := by decide +kernel
theorem dX4_fill_3 : decode cX4_fill 3 = .ok (.iload_n 3, 1) := by decide +kernel
theorem dX4_fill_4 : decode cX4_fill 4 = .ok (.invokevirtual 46, 3) := by decide +kernel
theorem dX4_fill_7 : decode cX4_fill 7 = .ok (.astore 4, 2) := by decide +kernel
theorem dX4_fill_9 : decode cX4_fill 9 = .ok (.aload 4, 2) := by decide +kernel
theorem dX4_fill_11 : decode cX4_fill 11 = .ok (.ifnull 12, 3) := by decide +kernel
theorem dX4_fill_14 : decode cX4_fill 14 = .ok (.aload 4, 2) := by decide +kernel
theorem dX4_fill_16 : decode cX4_fill 16 = .ok (.getfield 29, 3) := by decide +kernel
theorem dX4_fill_19 : decode cX4_fill 19 = .ok (.iload_n 1, 1) := by decide +kernel
theorem dX4_fill_20 : decode cX4_fill 20 = .ok (.if_icmp .gt 4, 3) := by decide +kernel
theorem dX4_fill_23 : decode cX4_fill 23 = .ok (.return_, 1) := by decide +kernel
theorem dX4_fill_24 : decode cX4_fill 24 = .ok (.aload_n 0, 1) := by decide +kernel
theorem dX4_fill_25 : decode cX4_fill 25 = .ok (.getfield 9, 3) := by decide +kernel
theorem dX4_fill_28 : decode cX4_fill 28 = .ok (.getfield 33, 3) := by decide +kernel
theorem dX4_fill_31 : decode cX4_fill 31 = .ok (.istore 5, 2) := by decide +kernel
theorem dX4_fill_33 : decode cX4_fill 33 = .ok (.iload 5, 2) := by decide +kernel
theorem dX4_fill_35 : decode cX4_fill 35 = .ok (.iload_n 1, 1) := by decide +kernel
theorem dX4_fill_36 : decode cX4_fill 36 = .ok (.if_icmp .lt 78, 3) := by decide +kernel
theorem dX4_fill_39 : decode cX4_fill 39 = .ok (.aload_n 0, 1) := by decide +kernel
theorem dX4_fill_40 : decode cX4_fill 40 = .ok (.getfield 19, 3) := by decide +kernel
theorem dX4_fill_43 : decode cX4_fill 43 = .ok (.aload_n 0, 1) := by decide +kernel
theorem dX4_fill_44 : decode cX4_fill 44 = .ok (.getfield 9, 3) := by decide +kernel
theorem dX4_fill_47 : decode cX4_fill 47 = .ok (.aload_n 0, 1) := by decide +kernel
theorem dX4_fill_48 : decode cX4_fill 48 = .ok (.getfield 15, 3) := by decide +kernel
theorem dX4_fill_51 : decode cX4_fill 51 = .ok (.iload 5, 2) := by decide +kernel
theorem dX4_fill_53 : decode cX4_fill 53 = .ok (.invokevirtual 73, 3) := by decide +kernel
theorem dX4_fill_56 : decode cX4_fill 56 = .ok (.iconst 0, 1) := by decide +kernel
theorem dX4_fill_57 : decode cX4_fill 57 = .ok (.istore 6, 2) := by decide +kernel
theorem dX4_fill_59 : decode cX4_fill 59 = .ok (.iload 6, 2) := by decide +kernel
theorem dX4_fill_61 : decode cX4_fill 61 = .ok (.iload_n 3, 1) := by decide +kernel
theorem dX4_fill_62 : decode cX4_fill 62 = .ok (.if_icmp .gt 46, 3) := by decide +kernel
theorem dX4_fill_65 : decode cX4_fill 65 = .ok (.aload_n 0, 1) := by decide +kernel
theorem dX4_fill_66 : decode cX4_fill 66 = .ok (.iload 5, 2) := by decide +kernel
theorem dX4_fill_68 : decode cX4_fill 68 = .ok (.iload_n 2, 1) := by decide +kernel
theorem dX4_fill_69 : decode cX4_fill 69 = .ok (.iload 6, 2) := by decide +kernel
theorem dX4_fill_71 : decode cX4_fill 71 = .ok (.invokevirtual 79, 3) := by decide +kernel
theorem dX4_fill_74 : decode cX4_fill 74 = .ok (.istore 7, 2) := by decide +kernel
theorem dX4_fill_76 : decode cX4_fill 76 = .ok (.iconst 0, 1) := by decide +kernel
theorem dX4_fill_77 : decode cX4_fill 77 = .ok (.istore 8, 2) := by decide +kernel
theorem dX4_fill_79 : decode cX4_fill 79 = .ok (.iload 8, 2) := by decide +kernel
theorem dX4_fill_81 : decode cX4_fill 81 = .ok (.iload 7, 2) := by decide +kernel
theorem dX4_fill_83 : decode cX4_fill 83 = .ok (.if_icmp .gt 19, 3) := by decide +kernel
theorem dX4_fill_86 : decode cX4_fill 86 = .ok (.aload_n 0, 1) := by decide +kernel
theorem dX4_fill_87 : decode cX4_fill 87 = .ok (.iload 5, 2) := by decide +kernel
theorem dX4_fill_89 : decode cX4_fill 89 = .ok (.iload 8, 2) := by decide +kernel
theorem dX4_fill_91 : decode cX4_fill 91 = .ok (.iload 6, 2) := by decide +kernel
theorem dX4_fill_93 : decode cX4_fill 93 = .ok (.invokevirtual 83, 3) := by decide +kernel
theorem dX4_fill_96 : decode cX4_fill 96 = .ok (.iinc 8 1, 3) := by decide +kernel
theorem dX4_fill_99 : decode cX4_fill 99 = .ok (.goto (-20), 3) := by decide +kernel
theorem dX4_fill_102 : decode cX4_fill 102 = .ok (.iinc 6 1, 3) := by decide +kernel
theorem dX4_fill_105 : decode cX4_fill 105 = .ok (.goto (-46), 3) := by decide +kernel
theorem dX4_fill_108 : decode cX4_fill 108 = .ok (.iinc 5 (-1), 3) := by decide +kernel
theorem dX4_fill_111 : decode cX4_fill 111 = .ok (.goto (-78), 3) := by decide +kernel
theorem dX4_fill_114 : decode cX4_fill 114 = .ok (.return_, 1) := by decide +kernel
theorem dX4_fillHour_0 : decode cX4_fillHour 0 = .ok (.aload_n 0, 1) := by decide +kernel
theorem dX4_fillHour_1 : decode cX4_fillHour 1 = .ok (.iload_n 1, 1) := by decide +kernel
theorem dX4_fillHour_2 : decode cX4_fillHour 2 = .ok (.iload_n 2, 1) := by decide +kernel
theorem dX4_fillHour_3 : decode cX4_fillHour 3 = .ok (.iload_n 3, 1) := by decide +kernel
theorem dX4_fillHour_4 : decode cX4_fillHour 4 = .ok (.invokevirtual 46, 3) := by decide +kernel
theorem dX4_fillHour_7 : decode cX4_fillHour 7 = .ok (.astore 4, 2) := by decide +kernel
theorem dX4_fillHour_9 : decode cX4_fillHour 9 = .ok (.aload 4, 2) := by decide +kernel
theorem dX4_fillHour_11 : decode cX4_fillHour 11 = .ok (.ifnull 12, 3) := by decide +kernel
theorem dX4_fillHour_14 : decode cX4_fillHour 14 = .ok (.aload 4, 2) := by decide +kernel
theorem dX4_fillHour_16 : decode cX4_fillHour 16 = .ok (.getfield 29, 3) := by decide +kernel
theorem dX4_fillHour_19 : decode cX4_fillHour 19 = .ok (.iload_n 1, 1) := by decide +kernel
theorem dX4_fillHour_20 : decode cX4_fillHour 20 = .ok (.if_icmp .gt 4, 3) := by decide +kernel
theorem dX4_fillHour_23 : decode cX4_fillHour 23 = .ok (.return_, 1) := by decide +kernel
theorem dX4_fillHour_24 : decode cX4_fillHour 24 = .ok (.aload 4, 2) := by decide +kernel
theorem dX4_fillHour_26 : decode cX4_fillHour 26 = .ok (.iload_n 1, 1) := by decide +kernel
theorem dX4_fillHour_27 : decode cX4_fillHour 27 = .ok (.putfield 29, 3) := by decide +kernel
theorem dX4_fillHour_30 : decode cX4_fillHour 30 = .ok (.iconst 0, 1) := by decide +kernel
theorem dX4_fillHour_31 : decode cX4_fillHour 31 = .ok (.istore 5, 2) := by decide +kernel
theorem dX4_fillHour_33 : decode cX4_fillHour 33 = .ok (.iload 5, 2) := by decide +kernel
theorem dX4_fillHour_35 : decode cX4_fillHour 35 = .ok (.bipush 21, 2) := by decide +kernel
theorem dX4_fillHour_37 : decode cX4_fillHour 37 = .ok (.if_icmp .ge 38, 3) := by decide +kernel
theorem dX4_fillHour_40 : decode cX4_fillHour 40 = .ok (.aload 4, 2) := by decide +kernel
theorem dX4_fillHour_42 : decode cX4_fillHour 42 = .ok (.iload_n 1, 1) := by decide +kernel
theorem dX4_fillHour_43 : decode cX4_fillHour 43 = .ok (.bipush 21, 2) := by decide +kernel
theorem dX4_fillHour_45 : decode cX4_fillHour 45 = .ok (.imul, 1) := by decide +kernel
theorem dX4_fillHour_46 : decode cX4_fillHour 46 = .ok (.iload 5, 2) := by decide +kernel
theorem dX4_fillHour_48 : decode cX4_fillHour 48 = .ok (.iadd, 1) := by decide +kernel
theorem dX4_fillHour_49 : decode cX4_fillHour 49 = .ok (.iload_n 1, 1) := by decide +kernel
theorem dX4_fillHour_50 : decode cX4_fillHour 50 = .ok (.aload_n 0, 1) := by decide +kernel
theorem dX4_fillHour_51 : decode cX4_fillHour 51 = .ok (.getfield 9, 3) := by decide +kernel
theorem dX4_fillHour_54 : decode cX4_fillHour 54 = .ok (.getfield 33, 3) := by decide +kernel
theorem dX4_fillHour_57 : decode cX4_fillHour 57 = .ok (.if_icmp .ne 8, 3) := by decide +kernel
theorem dX4_fillHour_60 : decode cX4_fillHour 60 = .ok (.ldc 86, 2) := by decide +kernel
theorem dX4_fillHour_62 : decode cX4_fillHour 62 = .ok (.goto 4, 3) := by decide +kernel
theorem dX4_fillHour_65 : decode cX4_fillHour 65 = .ok (.iconst 0, 1) := by decide +kernel
theorem dX4_fillHour_66 : decode cX4_fillHour 66 = .ok (.invokevirtual 87, 3) := by decide +kernel
theorem dX4_fillHour_69 : decode cX4_fillHour 69 = .ok (.iinc 5 1, 3) := by decide +kernel
theorem dX4_fillHour_72 : decode cX4_fillHour 72 = .ok (.goto (-39), 3) := by decide +kernel
theorem dX4_fillHour_75 : decode cX4_fillHour 75 = .ok (.iconst 0, 1) := by decide +kernel
theorem dX4_fillHour_76 : decode cX4_fillHour 76 = .ok (.istore 5, 2) := by decide +kernel
theorem dX4_fillHour_78 : decode cX4_fillHour 78 = .ok (.iload 5, 2) := by decide +kernel
theorem dX4_fillHour_80 : decode cX4_fillHour 80 = .ok (.bipush 10, 2) := by decide +kernel
theorem dX4_fillHour_82 : decode cX4_fillHour 82 = .ok (.if_icmp .ge 36, 3) := by decide +kernel
theorem dX4_fillHour_85 : decode cX4_fillHour 85 = .ok (.aload_n 0, 1) := by decide +kernel
theorem dX4_fillHour_86 : decode cX4_fillHour 86 = .ok (.iload_n 1, 1) := by decide +kernel
theorem dX4_fillHour_87 : decode cX4_fillHour 87 = .ok (.iload_n 2, 1) := by decide +kernel
theorem dX4_fillHour_88 : decode cX4_fillHour 88 = .ok (.iload_n 3, 1) := by decide +kernel
theorem dX4_fillHour_89 : decode cX4_fillHour 89 = .ok (.iload 5, 2) := by decide +kernel
theorem dX4_fillHour_91 : decode cX4_fillHour 91 = .ok (.invokevirtual 91, 3) := by decide +kernel
theorem dX4_fillHour_94 : decode cX4_fillHour 94 = .ok (.astore 6, 2) := by decide +kernel
theorem dX4_fillHour_96 : decode cX4_fillHour 96 = .ok (.aload 6, 2) := by decide +kernel
theorem dX4_fillHour_98 : decode cX4_fillHour 98 = .ok (.ifnull 14, 3) := by decide +kernel
theorem dX4_fillHour_101 : decode cX4_fillHour 101 = .ok (.aload_n 0, 1) := by decide +kernel
theorem dX4_fillHour_102 : decode cX4_fillHour 102 = .ok (.aload 4, 2) := by decide +kernel
theorem dX4_fillHour_104 : decode cX4_fillHour 104 = .ok (.iload_n 1, 1) := by decide +kernel
theorem dX4_fillHour_105 : decode cX4_fillHour 105 = .ok (.iload 5, 2) := by decide +kernel
theorem dX4_fillHour_107 : decode cX4_fillHour 107 = .ok (.aload 6, 2) := by decide +kernel
theorem dX4_fillHour_109 : decode cX4_fillHour 109 = .ok (.invokevirtual 95, 3) := by decide +kernel
theorem dX4_fillHour_112 : decode cX4_fillHour 112 = .ok (.iinc 5 1, 3) := by decide +kernel
theorem dX4_fillHour_115 : decode cX4_fillHour 115 = .ok (.goto (-37), 3) := by decide +kernel
theorem dX4_fillHour_118 : decode cX4_fillHour 118 = .ok (.return_, 1) := by decide +kernel
theorem dX4_weigh_0 : decode cX4_weigh 0 = .ok (.iconst 0, 1) := by decide +kernel
theorem dX4_weigh_1 : decode cX4_weigh 1 = .ok (.istore 5, 2) := by decide +kernel
theorem dX4_weigh_3 : decode cX4_weigh 3 = .ok (.iload 5, 2) := by decide +kernel
theorem dX4_weigh_5 : decode cX4_weigh 5 = .ok (.bipush 21, 2) := by decide +kernel
theorem dX4_weigh_7 : decode cX4_weigh 7 = .ok (.if_icmp .ge 52, 3) := by decide +kernel
theorem dX4_weigh_10 : decode cX4_weigh 10 = .ok (.aload_n 0, 1) := by decide +kernel
theorem dX4_weigh_11 : decode cX4_weigh 11 = .ok (.getfield 19, 3) := by decide +kernel
theorem dX4_weigh_14 : decode cX4_weigh 14 = .ok (.iload_n 3, 1) := by decide +kernel
theorem dX4_weigh_15 : decode cX4_weigh 15 = .ok (.iload 5, 2) := by decide +kernel
theorem dX4_weigh_17 : decode cX4_weigh 17 = .ok (.aload 4, 2) := by decide +kernel
theorem dX4_weigh_19 : decode cX4_weigh 19 = .ok (.invokevirtual 99, 3) := by decide +kernel
theorem dX4_weigh_22 : decode cX4_weigh 22 = .ok (.istore 6, 2) := by decide +kernel
theorem dX4_weigh_24 : decode cX4_weigh 24 = .ok (.iload 6, 2) := by decide +kernel
theorem dX4_weigh_26 : decode cX4_weigh 26 = .ok (.aload_n 1, 1) := by decide +kernel
theorem dX4_weigh_27 : decode cX4_weigh 27 = .ok (.iload_n 2, 1) := by decide +kernel
theorem dX4_weigh_28 : decode cX4_weigh 28 = .ok (.bipush 21, 2) := by decide +kernel
theorem dX4_weigh_30 : decode cX4_weigh 30 = .ok (.imul, 1) := by decide +kernel
theorem dX4_weigh_31 : decode cX4_weigh 31 = .ok (.iload 5, 2) := by decide +kernel
theorem dX4_weigh_33 : decode cX4_weigh 33 = .ok (.iadd, 1) := by decide +kernel
theorem dX4_weigh_34 : decode cX4_weigh 34 = .ok (.invokevirtual 50, 3) := by decide +kernel
theorem dX4_weigh_37 : decode cX4_weigh 37 = .ok (.if_icmp .le 16, 3) := by decide +kernel
theorem dX4_weigh_40 : decode cX4_weigh 40 = .ok (.aload_n 1, 1) := by decide +kernel
theorem dX4_weigh_41 : decode cX4_weigh 41 = .ok (.iload_n 2, 1) := by decide +kernel
theorem dX4_weigh_42 : decode cX4_weigh 42 = .ok (.bipush 21, 2) := by decide +kernel
theorem dX4_weigh_44 : decode cX4_weigh 44 = .ok (.imul, 1) := by decide +kernel
theorem dX4_weigh_45 : decode cX4_weigh 45 = .ok (.iload 5, 2) := by decide +kernel
theorem dX4_weigh_47 : decode cX4_weigh 47 = .ok (.iadd, 1) := by decide +kernel
theorem dX4_weigh_48 : decode cX4_weigh 48 = .ok (.iload 6, 2) := by decide +kernel
theorem dX4_weigh_50 : decode cX4_weigh 50 = .ok (.invokevirtual 87, 3) := by decide +kernel
theorem dX4_weigh_53 : decode cX4_weigh 53 = .ok (.iinc 5 1, 3) := by decide +kernel
theorem dX4_weigh_56 : decode cX4_weigh 56 = .ok (.goto (-53), 3) := by decide +kernel
theorem dX4_weigh_59 : decode cX4_weigh 59 = .ok (.return_, 1) := by decide +kernel
theorem dX4_deedThere_0 : decode cX4_deedThere 0 = .ok (.aload_n 0, 1) := by decide +kernel
theorem dX4_deedThere_1 : decode cX4_deedThere 1 = .ok (.iload_n 1, 1) := by decide +kernel
theorem dX4_deedThere_2 : decode cX4_deedThere 2 = .ok (.iload_n 3, 1) := by decide +kernel
theorem dX4_deedThere_3 : decode cX4_deedThere 3 = .ok (.iload 4, 2) := by decide +kernel
theorem dX4_deedThere_5 : decode cX4_deedThere 5 = .ok (.invokevirtual 46, 3) := by decide +kernel
theorem dX4_deedThere_8 : decode cX4_deedThere 8 = .ok (.astore 5, 2) := by decide +kernel
theorem dX4_deedThere_10 : decode cX4_deedThere 10 = .ok (.aload 5, 2) := by decide +kernel
theorem dX4_deedThere_12 : decode cX4_deedThere 12 = .ok (.ifnonnull 6, 3) := by decide +kernel
theorem dX4_deedThere_15 : decode cX4_deedThere 15 = .ok (.bipush (-6), 2) := by decide +kernel
theorem dX4_deedThere_17 : decode cX4_deedThere 17 = .ok (.ireturn, 1) := by decide +kernel
theorem dX4_deedThere_18 : decode cX4_deedThere 18 = .ok (.aload_n 0, 1) := by decide +kernel
theorem dX4_deedThere_19 : decode cX4_deedThere 19 = .ok (.getfield 19, 3) := by decide +kernel
theorem dX4_deedThere_22 : decode cX4_deedThere 22 = .ok (.aload_n 0, 1) := by decide +kernel
theorem dX4_deedThere_23 : decode cX4_deedThere 23 = .ok (.getfield 9, 3) := by decide +kernel
theorem dX4_deedThere_26 : decode cX4_deedThere 26 = .ok (.aload_n 0, 1) := by decide +kernel
theorem dX4_deedThere_27 : decode cX4_deedThere 27 = .ok (.getfield 15, 3) := by decide +kernel
theorem dX4_deedThere_30 : decode cX4_deedThere 30 = .ok (.iload_n 1, 1) := by decide +kernel
theorem dX4_deedThere_31 : decode cX4_deedThere 31 = .ok (.iload_n 2, 1) := by decide +kernel
theorem dX4_deedThere_32 : decode cX4_deedThere 32 = .ok (.invokevirtual 103, 3) := by decide +kernel
theorem dX4_deedThere_35 : decode cX4_deedThere 35 = .ok (.iconst 0, 1) := by decide +kernel
theorem dX4_deedThere_36 : decode cX4_deedThere 36 = .ok (.istore 6, 2) := by decide +kernel
theorem dX4_deedThere_38 : decode cX4_deedThere 38 = .ok (.iload 6, 2) := by decide +kernel
theorem dX4_deedThere_40 : decode cX4_deedThere 40 = .ok (.bipush 10, 2) := by decide +kernel
theorem dX4_deedThere_42 : decode cX4_deedThere 42 = .ok (.if_icmp .ge 55, 3) := by decide +kernel
theorem dX4_deedThere_45 : decode cX4_deedThere 45 = .ok (.aload_n 0, 1) := by decide +kernel
theorem dX4_deedThere_46 : decode cX4_deedThere 46 = .ok (.iload_n 1, 1) := by decide +kernel
theorem dX4_deedThere_47 : decode cX4_deedThere 47 = .ok (.iload_n 3, 1) := by decide +kernel
theorem dX4_deedThere_48 : decode cX4_deedThere 48 = .ok (.iload 4, 2) := by decide +kernel
theorem dX4_deedThere_50 : decode cX4_deedThere 50 = .ok (.iload 6, 2) := by decide +kernel
theorem dX4_deedThere_52 : decode cX4_deedThere 52 = .ok (.invokevirtual 91, 3) := by decide +kernel
theorem dX4_deedThere_55 : decode cX4_deedThere 55 = .ok (.astore 7, 2) := by decide +kernel
theorem dX4_deedThere_57 : decode cX4_deedThere 57 = .ok (.aload 7, 2) := by decide +kernel
theorem dX4_deedThere_59 : decode cX4_deedThere 59 = .ok (.ifnull 32, 3) := by decide +kernel
theorem dX4_deedThere_62 : decode cX4_deedThere 62 = .ok (.aload_n 0, 1) := by decide +kernel
theorem dX4_deedThere_63 : decode cX4_deedThere 63 = .ok (.getfield 19, 3) := by decide +kernel
theorem dX4_deedThere_66 : decode cX4_deedThere 66 = .ok (.iload 6, 2) := by decide +kernel
theorem dX4_deedThere_68 : decode cX4_deedThere 68 = .ok (.iload_n 2, 1) := by decide +kernel
theorem dX4_deedThere_69 : decode cX4_deedThere 69 = .ok (.aload 7, 2) := by decide +kernel
theorem dX4_deedThere_71 : decode cX4_deedThere 71 = .ok (.invokevirtual 99, 3) := by decide +kernel
theorem dX4_deedThere_74 : decode cX4_deedThere 74 = .ok (.aload 5, 2) := by decide +kernel
theorem dX4_deedThere_76 : decode cX4_deedThere 76 = .ok (.iload_n 1, 1) := by decide +kernel
theorem dX4_deedThere_77 : decode cX4_deedThere 77 = .ok (.bipush 21, 2) := by decide +kernel
theorem dX4_deedThere_79 : decode cX4_deedThere 79 = .ok (.imul, 1) := by decide +kernel
theorem dX4_deedThere_80 : decode cX4_deedThere 80 = .ok (.iload_n 2, 1) := by decide +kernel
theorem dX4_deedThere_81 : decode cX4_deedThere 81 = .ok (.iadd, 1) := by decide +kernel
theorem dX4_deedThere_82 : decode cX4_deedThere 82 = .ok (.invokevirtual 50, 3) := by decide +kernel
theorem dX4_deedThere_85 : decode cX4_deedThere 85 = .ok (.if_icmp .ne 6, 3) := by decide +kernel
theorem dX4_deedThere_88 : decode cX4_deedThere 88 = .ok (.iload 6, 2) := by decide +kernel
theorem dX4_deedThere_90 : decode cX4_deedThere 90 = .ok (.ireturn, 1) := by decide +kernel
theorem dX4_deedThere_91 : decode cX4_deedThere 91 = .ok (.iinc 6 1, 3) := by decide +kernel
theorem dX4_deedThere_94 : decode cX4_deedThere 94 = .ok (.goto (-56), 3) := by decide +kernel
theorem dX4_deedThere_97 : decode cX4_deedThere 97 = .ok (.bipush (-6), 2) := by decide +kernel
theorem dX4_deedThere_99 : decode cX4_deedThere 99 = .ok (.ireturn, 1) := by decide +kernel
theorem dX4_planeBehind_0 : decode cX4_planeBehind 0 = .ok (.iload 4, 2) := by decide +kernel
theorem dX4_planeBehind_2 : decode cX4_planeBehind 2 = .ok (.iconst 2, 1) := by decide +kernel
theorem dX4_planeBehind_3 : decode cX4_planeBehind 3 = .ok (.idiv, 1) := by decide +kernel
theorem dX4_planeBehind_4 : decode cX4_planeBehind 4 = .ok (.istore 5, 2) := by decide +kernel
theorem dX4_planeBehind_6 : decode cX4_planeBehind 6 = .ok (.iload 4, 2) := by decide +kernel
theorem dX4_planeBehind_8 : decode cX4_planeBehind 8 = .ok (.iconst 1, 1) := by decide +kernel
theorem dX4_planeBehind_9 : decode cX4_planeBehind 9 = .ok (.if_icmp .eq 16, 3) := by decide +kernel
theorem dX4_planeBehind_12 : decode cX4_planeBehind 12 = .ok (.aload_n 0, 1) := by decide +kernel
theorem dX4_planeBehind_13 : decode cX4_planeBehind 13 = .ok (.getfield 9, 3) := by decide +kernel
theorem dX4_planeBehind_16 : decode cX4_planeBehind 16 = .ok (.iload_n 1, 1) := by decide +kernel
theorem dX4_planeBehind_17 : decode cX4_planeBehind 17 = .ok (.iload 5, 2) := by decide +kernel
theorem dX4_planeBehind_19 : decode cX4_planeBehind 19 = .ok (.invokevirtual 107, 3) := by decide +kernel
theorem dX4_planeBehind_22 : decode cX4_planeBehind 22 = .ok (.ifCond .ne 5, 3) := by decide +kernel
theorem dX4_planeBehind_25 : decode cX4_planeBehind 25 = .ok (.aconst_null, 1) := by decide +kernel
theorem dX4_planeBehind_26 : decode cX4_planeBehind 26 = .ok (.areturn, 1) := by decide +kernel
theorem dX4_planeBehind_27 : decode cX4_planeBehind 27 = .ok (.aload_n 0, 1) := by decide +kernel
theorem dX4_planeBehind_28 : decode cX4_planeBehind 28 = .ok (.iload_n 1, 1) := by decide +kernel
theorem dX4_planeBehind_29 : decode cX4_planeBehind 29 = .ok (.iload 5, 2) := by decide +kernel
theorem dX4_planeBehind_31 : decode cX4_planeBehind 31 = .ok (.invokestatic 70, 3) := by decide +kernel
theorem dX4_planeBehind_34 : decode cX4_planeBehind 34 = .ok (.iadd, 1) := by decide +kernel
theorem dX4_planeBehind_35 : decode cX4_planeBehind 35 = .ok (.iload_n 2, 1) := by decide +kernel
theorem dX4_planeBehind_36 : decode cX4_planeBehind 36 = .ok (.iload 4, 2) := by decide +kernel
theorem dX4_planeBehind_38 : decode cX4_planeBehind 38 = .ok (.invokestatic 67, 3) := by decide +kernel
theorem dX4_planeBehind_41 : decode cX4_planeBehind 41 = .ok (.isub, 1) := by decide +kernel
theorem dX4_planeBehind_42 : decode cX4_planeBehind 42 = .ok (.iload 5, 2) := by decide +kernel
theorem dX4_planeBehind_44 : decode cX4_planeBehind 44 = .ok (.iconst 4, 1) := by decide +kernel
theorem dX4_planeBehind_45 : decode cX4_planeBehind 45 = .ok (.if_icmp .ne 9, 3) := by decide +kernel
theorem dX4_planeBehind_48 : decode cX4_planeBehind 48 = .ok (.iload_n 3, 1) := by decide +kernel
theorem dX4_planeBehind_49 : decode cX4_planeBehind 49 = .ok (.iconst 1, 1) := by decide +kernel
theorem dX4_planeBehind_50 : decode cX4_planeBehind 50 = .ok (.isub, 1) := by decide +kernel
theorem dX4_planeBehind_51 : decode cX4_planeBehind 51 = .ok (.goto 4, 3) := by decide +kernel
theorem dX4_planeBehind_54 : decode cX4_planeBehind 54 = .ok (.iload_n 3, 1) := by decide +kernel
theorem dX4_planeBehind_55 : decode cX4_planeBehind 55 = .ok (.invokevirtual 46, 3) := by decide +kernel
theorem dX4_planeBehind_58 : decode cX4_planeBehind 58 = .ok (.areturn, 1) := by decide +kernel
theorem dX4_planeOf_0 : decode cX4_planeOf 0 = .ok (.aload_n 0, 1) := by decide +kernel
theorem dX4_planeOf_1 : decode cX4_planeOf 1 = .ok (.iload_n 1, 1) := by decide +kernel
theorem dX4_planeOf_2 : decode cX4_planeOf 2 = .ok (.iload_n 2, 1) := by decide +kernel
theorem dX4_planeOf_3 : decode cX4_planeOf 3 = .ok (.iload_n 3, 1) := by decide +kernel
theorem dX4_planeOf_4 : decode cX4_planeOf 4 = .ok (.invokevirtual 79, 3) := by decide +kernel
theorem dX4_planeOf_7 : decode cX4_planeOf 7 = .ok (.istore 4, 2) := by decide +kernel
theorem dX4_planeOf_9 : decode cX4_planeOf 9 = .ok (.iload 4, 2) := by decide +kernel
theorem dX4_planeOf_11 : decode cX4_planeOf 11 = .ok (.iconst 0, 1) := by decide +kernel
theorem dX4_planeOf_12 : decode cX4_planeOf 12 = .ok (.bipush 24, 2) := by decide +kernel
theorem dX4_planeOf_14 : decode cX4_planeOf 14 = .ok (.invokestatic 38, 3) := by decide +kernel
theorem dX4_planeOf_17 : decode cX4_planeOf 17 = .ok (.ifCond .eq 12, 3) := by decide +kernel
theorem dX4_planeOf_20 : decode cX4_planeOf 20 = .ok (.iload_n 3, 1) := by decide +kernel
theorem dX4_planeOf_21 : decode cX4_planeOf 21 = .ok (.iconst 0, 1) := by decide +kernel
theorem dX4_planeOf_22 : decode cX4_planeOf 22 = .ok (.iconst 4, 1) := by decide +kernel
theorem dX4_planeOf_23 : decode cX4_planeOf 23 = .ok (.invokestatic 38, 3) := by decide +kernel
theorem dX4_planeOf_26 : decode cX4_planeOf 26 = .ok (.ifCond .ne 5, 3) := by decide +kernel
theorem dX4_planeOf_29 : decode cX4_planeOf 29 = .ok (.aconst_null, 1) := by decide +kernel
theorem dX4_planeOf_30 : decode cX4_planeOf 30 = .ok (.areturn, 1) := by decide +kernel
theorem dX4_planeOf_31 : decode cX4_planeOf 31 = .ok (.iload 4, 2) := by decide +kernel
theorem dX4_planeOf_33 : decode cX4_planeOf 33 = .ok (.iconst 5, 1) := by decide +kernel
theorem dX4_planeOf_34 : decode cX4_planeOf 34 = .ok (.imul, 1) := by decide +kernel
theorem dX4_planeOf_35 : decode cX4_planeOf 35 = .ok (.iload_n 3, 1) := by decide +kernel
theorem dX4_planeOf_36 : decode cX4_planeOf 36 = .ok (.iadd, 1) := by decide +kernel
theorem dX4_planeOf_37 : decode cX4_planeOf 37 = .ok (.istore 5, 2) := by decide +kernel
theorem dX4_planeOf_39 : decode cX4_planeOf 39 = .ok (.aload_n 0, 1) := by decide +kernel
theorem dX4_planeOf_40 : decode cX4_planeOf 40 = .ok (.getfield 25, 3) := by decide +kernel
theorem dX4_planeOf_43 : decode cX4_planeOf 43 = .ok (.iload 5, 2) := by decide +kernel
theorem dX4_planeOf_45 : decode cX4_planeOf 45 = .ok (.aaload, 1) := by decide +kernel
theorem dX4_planeOf_46 : decode cX4_planeOf 46 = .ok (.ifnonnull 17, 3) := by decide +kernel
theorem dX4_planeOf_49 : decode cX4_planeOf 49 = .ok (.aload_n 0, 1) := by decide +kernel
theorem dX4_planeOf_50 : decode cX4_planeOf 50 = .ok (.getfield 25, 3) := by decide +kernel
theorem dX4_planeOf_53 : decode cX4_planeOf 53 = .ok (.iload 5, 2) := by decide +kernel
theorem dX4_planeOf_55 : decode cX4_planeOf 55 = .ok (.new 23, 3) := by decide +kernel
theorem dX4_planeOf_58 : decode cX4_planeOf 58 = .ok (.dup, 1) := by decide +kernel
theorem dX4_planeOf_59 : decode cX4_planeOf 59 = .ok (.invokespecial 111, 3) := by decide +kernel
theorem dX4_planeOf_62 : decode cX4_planeOf 62 = .ok (.aastore, 1) := by decide +kernel
theorem dX4_planeOf_63 : decode cX4_planeOf 63 = .ok (.aload_n 0, 1) := by decide +kernel
theorem dX4_planeOf_64 : decode cX4_planeOf 64 = .ok (.getfield 25, 3) := by decide +kernel
theorem dX4_planeOf_67 : decode cX4_planeOf 67 = .ok (.iload 5, 2) := by decide +kernel
theorem dX4_planeOf_69 : decode cX4_planeOf 69 = .ok (.aaload, 1) := by decide +kernel
theorem dX4_planeOf_70 : decode cX4_planeOf 70 = .ok (.areturn, 1) := by decide +kernel
theorem dX4_spendable_0 : decode cX4_spendable 0 = .ok (.aload_n 0, 1) := by decide +kernel
theorem dX4_spendable_1 : decode cX4_spendable 1 = .ok (.getfield 9, 3) := by decide +kernel
theorem dX4_spendable_4 : decode cX4_spendable 4 = .ok (.getfield 33, 3) := by decide +kernel
theorem dX4_spendable_7 : decode cX4_spendable 7 = .ok (.iload_n 1, 1) := by decide +kernel
theorem dX4_spendable_8 : decode cX4_spendable 8 = .ok (.isub, 1) := by decide +kernel
theorem dX4_spendable_9 : decode cX4_spendable 9 = .ok (.iload_n 3, 1) := by decide +kernel
theorem dX4_spendable_10 : decode cX4_spendable 10 = .ok (.iadd, 1) := by decide +kernel
theorem dX4_spendable_11 : decode cX4_spendable 11 = .ok (.istore 4, 2) := by decide +kernel
theorem dX4_spendable_13 : decode cX4_spendable 13 = .ok (.iload_n 2, 1) := by decide +kernel
theorem dX4_spendable_14 : decode cX4_spendable 14 = .ok (.iload 4, 2) := by decide +kernel
theorem dX4_spendable_16 : decode cX4_spendable 16 = .ok (.if_icmp .ge 7, 3) := by decide +kernel
theorem dX4_spendable_19 : decode cX4_spendable 19 = .ok (.iload_n 2, 1) := by decide +kernel
theorem dX4_spendable_20 : decode cX4_spendable 20 = .ok (.goto 5, 3) := by decide +kernel
theorem dX4_spendable_23 : decode cX4_spendable 23 = .ok (.iload 4, 2) := by decide +kernel
theorem dX4_spendable_25 : decode cX4_spendable 25 = .ok (.ireturn, 1) := by decide +kernel
end
section
theorem dX9_init_0 : decode cX9_init 0 = .ok (.aload_n 0, 1) := by decide +kernel
theorem dX9_init_1 : decode cX9_init 1 = .ok (.invokespecial 3, 3) := by decide +kernel
theorem dX9_init_4 : decode cX9_init 4 = .ok (.aload_n 0, 1) := by decide +kernel
theorem dX9_init_5 : decode cX9_init 5 = .ok (.new 9, 3) := by decide +kernel
theorem dX9_init_8 : decode cX9_init 8 = .ok (.dup, 1) := by decide +kernel
theorem dX9_init_9 : decode cX9_init 9 = .ok (.invokespecial 11, 3) := by decide +kernel
theorem dX9_init_12 : decode cX9_init 12 = .ok (.putfield 12, 3) := by decide +kernel
theorem dX9_init_15 : decode cX9_init 15 = .ok (.aload_n 0, 1) := by decide +kernel
theorem dX9_init_16 : decode cX9_init 16 = .ok (.iconst 2, 1) := by decide +kernel
theorem dX9_init_17 : decode cX9_init 17 = .ok (.anewarray 9, 3) := by decide +kernel
theorem dX9_init_20 : decode cX9_init 20 = .ok (.putfield 16, 3) := by decide +kernel
theorem dX9_init_23 : decode cX9_init 23 = .ok (.aload_n 0, 1) := by decide +kernel
theorem dX9_init_24 : decode cX9_init 24 = .ok (.iconst 2, 1) := by decide +kernel
theorem dX9_init_25 : decode cX9_init 25 = .ok (.newarray .boolean, 2) := by decide +kernel
theorem dX9_init_27 : decode cX9_init 27 = .ok (.putfield 20, 3) := by decide +kernel
theorem dX9_init_30 : decode cX9_init 30 = .ok (.iconst 0, 1) := by decide +kernel
theorem dX9_init_31 : decode cX9_init 31 = .ok (.istore_n 1, 1) := by decide +kernel
theorem dX9_init_32 : decode cX9_init 32 = .ok (.iload_n 1, 1) := by decide +kernel
theorem dX9_init_33 : decode cX9_init 33 = .ok (.iconst 2, 1) := by decide +kernel
theorem dX9_init_34 : decode cX9_init 34 = .ok (.if_icmp .ge 22, 3) := by decide +kernel
theorem dX9_init_37 : decode cX9_init 37 = .ok (.aload_n 0, 1) := by decide +kernel
theorem dX9_init_38 : decode cX9_init 38 = .ok (.getfield 16, 3) := by decide +kernel
theorem dX9_init_41 : decode cX9_init 41 = .ok (.iload_n 1, 1) := by decide +kernel
theorem dX9_init_42 : decode cX9_init 42 = .ok (.new 9, 3) := by decide +kernel
theorem dX9_init_45 : decode cX9_init 45 = .ok (.dup, 1) := by decide +kernel
theorem dX9_init_46 : decode cX9_init 46 = .ok (.invokespecial 11, 3) := by decide +kernel
theorem dX9_init_49 : decode cX9_init 49 = .ok (.aastore, 1) := by decide +kernel
theorem dX9_init_50 : decode cX9_init 50 = .ok (.iinc 1 1, 3) := by decide +kernel
theorem dX9_init_53 : decode cX9_init 53 = .ok (.goto (-21), 3) := by decide +kernel
theorem dX9_init_56 : decode cX9_init 56 = .ok (.aload_n 0, 1) := by decide +kernel
theorem dX9_init_57 : decode cX9_init 57 = .ok (.iconst 2, 1) := by decide +kernel
theorem dX9_init_58 : decode cX9_init 58 = .ok (.anewarray 24, 3) := by decide +kernel
theorem dX9_init_61 : decode cX9_init 61 = .ok (.putfield 26, 3) := by decide +kernel
theorem dX9_init_64 : decode cX9_init 64 = .ok (.new 30, 3) := by decide +kernel
theorem dX9_init_67 : decode cX9_init 67 = .ok (.dup, 1) := by decide +kernel
theorem dX9_init_68 : decode cX9_init 68 = .ok (.invokespecial 32, 3) := by decide +kernel
theorem dX9_init_71 : decode cX9_init 71 = .ok (.astore_n 1, 1) := by decide +kernel
theorem dX9_init_72 : decode cX9_init 72 = .ok (.iconst 0, 1) := by decide +kernel
theorem dX9_init_73 : decode cX9_init 73 = .ok (.istore_n 2, 1) := by decide +kernel
theorem dX9_init_74 : decode cX9_init 74 = .ok (.iload_n 2, 1) := by decide +kernel
theorem dX9_init_75 : decode cX9_init 75 = .ok (.iconst 2, 1) := by decide +kernel
theorem dX9_init_76 : decode cX9_init 76 = .ok (.if_icmp .ge 39, 3) := by decide +kernel
theorem dX9_init_79 : decode cX9_init 79 = .ok (.aload_n 0, 1) := by decide +kernel
theorem dX9_init_80 : decode cX9_init 80 = .ok (.getfield 26, 3) := by decide +kernel
theorem dX9_init_83 : decode cX9_init 83 = .ok (.iload_n 2, 1) := by decide +kernel
theorem dX9_init_84 : decode cX9_init 84 = .ok (.new 24, 3) := by decide +kernel
theorem dX9_init_87 : decode cX9_init 87 = .ok (.dup, 1) := by decide +kernel
theorem dX9_init_88 : decode cX9_init 88 = .ok (.aload_n 0, 1) := by decide +kernel
theorem dX9_init_89 : decode cX9_init 89 = .ok (.getfield 12, 3) := by decide +kernel
theorem dX9_init_92 : decode cX9_init 92 = .ok (.getfield 33, 3) := by decide +kernel
theorem dX9_init_95 : decode cX9_init 95 = .ok (.iload_n 2, 1) := by decide +kernel
theorem dX9_init_96 : decode cX9_init 96 = .ok (.aaload, 1) := by decide +kernel
theorem dX9_init_97 : decode cX9_init 97 = .ok (.aload_n 0, 1) := by decide +kernel
theorem dX9_init_98 : decode cX9_init 98 = .ok (.getfield 12, 3) := by decide +kernel
theorem dX9_init_101 : decode cX9_init 101 = .ok (.getfield 37, 3) := by decide +kernel
theorem dX9_init_104 : decode cX9_init 104 = .ok (.aload_n 1, 1) := by decide +kernel
theorem dX9_init_105 : decode cX9_init 105 = .ok (.invokespecial 41, 3) := by decide +kernel
theorem dX9_init_108 : decode cX9_init 108 = .ok (.aastore, 1) := by decide +kernel
theorem dX9_init_109 : decode cX9_init 109 = .ok (.iinc 2 1, 3) := by decide +kernel
theorem dX9_init_112 : decode cX9_init 112 = .ok (.goto (-38), 3) := by decide +kernel
theorem dX9_init_115 : decode cX9_init 115 = .ok (.aload_n 0, 1) := by decide +kernel
theorem dX9_init_116 : decode cX9_init 116 = .ok (.new 44, 3) := by decide +kernel
theorem dX9_init_119 : decode cX9_init 119 = .ok (.dup, 1) := by decide +kernel
theorem dX9_init_120 : decode cX9_init 120 = .ok (.invokespecial 46, 3) := by decide +kernel
theorem dX9_init_123 : decode cX9_init 123 = .ok (.putfield 47, 3) := by decide +kernel
theorem dX9_init_126 : decode cX9_init 126 = .ok (.aload_n 0, 1) := by decide +kernel
theorem dX9_init_127 : decode cX9_init 127 = .ok (.new 51, 3) := by decide +kernel
theorem dX9_init_130 : decode cX9_init 130 = .ok (.dup, 1) := by decide +kernel
theorem dX9_init_131 : decode cX9_init 131 = .ok (.aload_n 0, 1) := by decide +kernel
theorem dX9_init_132 : decode cX9_init 132 = .ok (.getfield 12, 3) := by decide +kernel
theorem dX9_init_135 : decode cX9_init 135 = .ok (.getfield 37, 3) := by decide +kernel
theorem dX9_init_138 : decode cX9_init 138 = .ok (.invokespecial 53, 3) := by decide +kernel
theorem dX9_init_141 : decode cX9_init 141 = .ok (.putfield 56, 3) := by decide +kernel
theorem dX9_init_144 : decode cX9_init 144 = .ok (.return_, 1) := by decide +kernel
theorem dX9_leg_0 : decode cX9_leg 0 = .ok (.aload_n 0, 1) := by decide +kernel
theorem dX9_leg_1 : decode cX9_leg 1 = .ok (.iload_n 1, 1) := by decide +kernel
theorem dX9_leg_2 : decode cX9_leg 2 = .ok (.invokevirtual 60, 3) := by decide +kernel
theorem dX9_leg_5 : decode cX9_leg 5 = .ok (.astore 5, 2) := by decide +kernel
theorem dX9_leg_7 : decode cX9_leg 7 = .ok (.aload 5, 2) := by decide +kernel
theorem dX9_leg_9 : decode cX9_leg 9 = .ok (.ifnonnull 5, 3) := by decide +kernel
theorem dX9_leg_12 : decode cX9_leg 12 = .ok (.iconst (-1), 1) := by decide +kernel
theorem dX9_leg_13 : decode cX9_leg 13 = .ok (.ireturn, 1) := by decide +kernel
theorem dX9_leg_14 : decode cX9_leg 14 = .ok (.iload_n 2, 1) := by decide +kernel
theorem dX9_leg_15 : decode cX9_leg 15 = .ok (.iconst 1, 1) := by decide +kernel
theorem dX9_leg_16 : decode cX9_leg 16 = .ok (.bipush 24, 2) := by decide +kernel
theorem dX9_leg_18 : decode cX9_leg 18 = .ok (.invokestatic 64, 3) := by decide +kernel
theorem dX9_leg_21 : decode cX9_leg 21 = .ok (.ifCond .eq 24, 3) := by decide +kernel
theorem dX9_leg_24 : decode cX9_leg 24 = .ok (.iload_n 3, 1) := by decide +kernel
theorem dX9_leg_25 : decode cX9_leg 25 = .ok (.iconst 0, 1) := by decide +kernel
theorem dX9_leg_26 : decode cX9_leg 26 = .ok (.sipush 500, 3) := by decide +kernel
theorem dX9_leg_29 : decode cX9_leg 29 = .ok (.invokestatic 64, 3) := by decide +kernel
theorem dX9_leg_32 : decode cX9_leg 32 = .ok (.ifCond .eq 13, 3) := by decide +kernel
theorem dX9_leg_35 : decode cX9_leg 35 = .ok (.iload 4, 2) := by decide +kernel
theorem dX9_leg_37 : decode cX9_leg 37 = .ok (.iconst 0, 1) := by decide +kernel
theorem dX9_leg_38 : decode cX9_leg 38 = .ok (.iconst 1, 1) := by decide +kernel
theorem dX9_leg_39 : decode cX9_leg 39 = .ok (.invokestatic 64, 3) := by decide +kernel
theorem dX9_leg_42 : decode cX9_leg 42 = .ok (.ifCond .ne 6, 3) := by decide +kernel
theorem dX9_leg_45 : decode cX9_leg 45 = .ok (.bipush (-2), 2) := by decide +kernel
theorem dX9_leg_47 : decode cX9_leg 47 = .ok (.ireturn, 1) := by decide +kernel
theorem dX9_leg_48 : decode cX9_leg 48 = .ok (.aload 5, 2) := by decide +kernel
theorem dX9_leg_50 : decode cX9_leg 50 = .ok (.getfield 68, 3) := by decide +kernel
theorem dX9_leg_53 : decode cX9_leg 53 = .ok (.iload_n 2, 1) := by decide +kernel
theorem dX9_leg_54 : decode cX9_leg 54 = .ok (.invokevirtual 72, 3) := by decide +kernel
theorem dX9_leg_57 : decode cX9_leg 57 = .ok (.ifCond .ne 6, 3) := by decide +kernel
theorem dX9_leg_60 : decode cX9_leg 60 = .ok (.bipush (-4), 2) := by decide +kernel
theorem dX9_leg_62 : decode cX9_leg 62 = .ok (.ireturn, 1) := by decide +kernel
theorem dX9_leg_63 : decode cX9_leg 63 = .ok (.aload 5, 2) := by decide +kernel
theorem dX9_leg_65 : decode cX9_leg 65 = .ok (.getfield 68, 3) := by decide +kernel
theorem dX9_leg_68 : decode cX9_leg 68 = .ok (.iload_n 2, 1) := by decide +kernel
theorem dX9_leg_69 : decode cX9_leg 69 = .ok (.iload_n 3, 1) := by decide +kernel
theorem dX9_leg_70 : decode cX9_leg 70 = .ok (.iload 4, 2) := by decide +kernel
theorem dX9_leg_72 : decode cX9_leg 72 = .ok (.invokevirtual 78, 3) := by decide +kernel
theorem dX9_leg_75 : decode cX9_leg 75 = .ok (.aload 5, 2) := by decide +kernel
theorem dX9_leg_77 : decode cX9_leg 77 = .ok (.invokevirtual 82, 3) := by decide +kernel
theorem dX9_leg_80 : decode cX9_leg 80 = .ok (.aload 5, 2) := by decide +kernel
theorem dX9_leg_82 : decode cX9_leg 82 = .ok (.getfield 68, 3) := by decide +kernel
theorem dX9_leg_85 : decode cX9_leg 85 = .ok (.getfield 85, 3) := by decide +kernel
theorem dX9_leg_88 : decode cX9_leg 88 = .ok (.ireturn, 1) := by decide +kernel
theorem dX9_cut_0 : decode cX9_cut 0 = .ok (.aload_n 0, 1) := by decide +kernel
theorem dX9_cut_1 : decode cX9_cut 1 = .ok (.iload_n 1, 1) := by decide +kernel
theorem dX9_cut_2 : decode cX9_cut 2 = .ok (.invokevirtual 60, 3) := by decide +kernel
theorem dX9_cut_5 : decode cX9_cut 5 = .ok (.astore_n 2, 1) := by decide +kernel
theorem dX9_cut_6 : decode cX9_cut 6 = .ok (.aload_n 2, 1) := by decide +kernel
theorem dX9_cut_7 : decode cX9_cut 7 = .ok (.ifnonnull 5, 3) := by decide +kernel
theorem dX9_cut_10 : decode cX9_cut 10 = .ok (.iconst (-1), 1) := by decide +kernel
theorem dX9_cut_11 : decode cX9_cut 11 = .ok (.ireturn, 1) := by decide +kernel
theorem dX9_cut_12 : decode cX9_cut 12 = .ok (.aload_n 2, 1) := by decide +kernel
theorem dX9_cut_13 : decode cX9_cut 13 = .ok (.getfield 68, 3) := by decide +kernel
theorem dX9_cut_16 : decode cX9_cut 16 = .ok (.getfield 89, 3) := by decide +kernel
theorem dX9_cut_19 : decode cX9_cut 19 = .ok (.ifCond .ne 6, 3) := by decide +kernel
theorem dX9_cut_22 : decode cX9_cut 22 = .ok (.bipush (-5), 2) := by decide +kernel
theorem dX9_cut_24 : decode cX9_cut 24 = .ok (.ireturn, 1) := by decide +kernel
theorem dX9_cut_25 : decode cX9_cut 25 = .ok (.aload_n 2, 1) := by decide +kernel
theorem dX9_cut_26 : decode cX9_cut 26 = .ok (.getfield 68, 3) := by decide +kernel
theorem dX9_cut_29 : decode cX9_cut 29 = .ok (.invokevirtual 92, 3) := by decide +kernel
theorem dX9_cut_32 : decode cX9_cut 32 = .ok (.aload_n 2, 1) := by decide +kernel
theorem dX9_cut_33 : decode cX9_cut 33 = .ok (.invokevirtual 82, 3) := by decide +kernel
theorem dX9_cut_36 : decode cX9_cut 36 = .ok (.aload_n 2, 1) := by decide +kernel
theorem dX9_cut_37 : decode cX9_cut 37 = .ok (.getfield 68, 3) := by decide +kernel
theorem dX9_cut_40 : decode cX9_cut 40 = .ok (.getfield 89, 3) := by decide +kernel
theorem dX9_cut_43 : decode cX9_cut 43 = .ok (.ireturn, 1) := by decide +kernel
theorem dX9_about_0 : decode cX9_about 0 = .ok (.aload_n 0, 1) := by decide +kernel
theorem dX9_about_1 : decode cX9_about 1 = .ok (.iload_n 1, 1) := by decide +kernel
theorem dX9_about_2 : decode cX9_about 2 = .ok (.invokevirtual 95, 3) := by decide +kernel
theorem dX9_about_5 : decode cX9_about 5 = .ok (.astore 4, 2) := by decide +kernel
theorem dX9_about_7 : decode cX9_about 7 = .ok (.aload 4, 2) := by decide +kernel
theorem dX9_about_9 : decode cX9_about 9 = .ok (.ifnull 12, 3) := by decide +kernel
theorem dX9_about_12 : decode cX9_about 12 = .ok (.aload 4, 2) := by decide +kernel
theorem dX9_about_14 : decode cX9_about 14 = .ok (.iload_n 2, 1) := by decide +kernel
theorem dX9_about_15 : decode cX9_about 15 = .ok (.invokevirtual 99, 3) := by decide +kernel
theorem dX9_about_18 : decode cX9_about 18 = .ok (.ifCond .ne 5, 3) := by decide +kernel
theorem dX9_about_21 : decode cX9_about 21 = .ok (.iconst (-1), 1) := by decide +kernel
theorem dX9_about_22 : decode cX9_about 22 = .ok (.ireturn, 1) := by decide +kernel
theorem dX9_about_23 : decode cX9_about 23 = .ok (.iload_n 3, 1) := by decide +kernel
theorem dX9_about_24 : decode cX9_about 24 = .ok (.tableswitch 63 0 3 #[32, 40, 48, 56], 32) := by decide +kernel
theorem dX9_about_56 : decode cX9_about 56 = .ok (.aload 4, 2) := by decide +kernel
theorem dX9_about_58 : decode cX9_about 58 = .ok (.getfield 102, 3) := by decide +kernel
theorem dX9_about_61 : decode cX9_about 61 = .ok (.iload_n 2, 1) := by decide +kernel
theorem dX9_about_62 : decode cX9_about 62 = .ok (.iaload, 1) := by decide +kernel
theorem dX9_about_63 : decode cX9_about 63 = .ok (.ireturn, 1) := by decide +kernel
theorem dX9_about_64 : decode cX9_about 64 = .ok (.aload 4, 2) := by decide +kernel
theorem dX9_about_66 : decode cX9_about 66 = .ok (.getfield 106, 3) := by decide +kernel
theorem dX9_about_69 : decode cX9_about 69 = .ok (.iload_n 2, 1) := by decide +kernel
theorem dX9_about_70 : decode cX9_about 70 = .ok (.iaload, 1) := by decide +kernel
theorem dX9_about_71 : decode cX9_about 71 = .ok (.ireturn, 1) := by decide +kernel
theorem dX9_about_72 : decode cX9_about 72 = .ok (.aload 4, 2) := by decide +kernel
theorem dX9_about_74 : decode cX9_about 74 = .ok (.getfield 109, 3) := by decide +kernel
theorem dX9_about_77 : decode cX9_about 77 = .ok (.iload_n 2, 1) := by decide +kernel
theorem dX9_about_78 : decode cX9_about 78 = .ok (.iaload, 1) := by decide +kernel
theorem dX9_about_79 : decode cX9_about 79 = .ok (.ireturn, 1) := by decide +kernel
theorem dX9_about_80 : decode cX9_about 80 = .ok (.aload 4, 2) := by decide +kernel
theorem dX9_about_82 : decode cX9_about 82 = .ok (.iload_n 2, 1) := by decide +kernel
theorem dX9_about_83 : decode cX9_about 83 = .ok (.invokevirtual 112, 3) := by decide +kernel
theorem dX9_about_86 : decode cX9_about 86 = .ok (.ireturn, 1) := by decide +kernel
theorem dX9_about_87 : decode cX9_about 87 = .ok (.bipush (-2), 2) := by decide +kernel
theorem dX9_about_89 : decode cX9_about 89 = .ok (.ireturn, 1) := by decide +kernel
theorem dX9_nap_0 : decode cX9_nap 0 = .ok (.iload_n 1, 1) := by decide +kernel
theorem dX9_nap_1 : decode cX9_nap 1 = .ok (.iconst 1, 1) := by decide +kernel
theorem dX9_nap_2 : decode cX9_nap 2 = .ok (.iconst 3, 1) := by decide +kernel
theorem dX9_nap_3 : decode cX9_nap 3 = .ok (.invokestatic 64, 3) := by decide +kernel
theorem dX9_nap_6 : decode cX9_nap 6 = .ok (.ifCond .eq 12, 3) := by decide +kernel
theorem dX9_nap_9 : decode cX9_nap 9 = .ok (.iload_n 2, 1) := by decide +kernel
theorem dX9_nap_10 : decode cX9_nap 10 = .ok (.iconst 0, 1) := by decide +kernel
theorem dX9_nap_11 : decode cX9_nap 11 = .ok (.iconst 1, 1) := by decide +kernel
theorem dX9_nap_12 : decode cX9_nap 12 = .ok (.invokestatic 64, 3) := by decide +kernel
theorem dX9_nap_15 : decode cX9_nap 15 = .ok (.ifCond .ne 6, 3) := by decide +kernel
theorem dX9_nap_18 : decode cX9_nap 18 = .ok (.bipush (-2), 2) := by decide +kernel
theorem dX9_nap_20 : decode cX9_nap 20 = .ok (.ireturn, 1) := by decide +kernel
theorem dX9_nap_21 : decode cX9_nap 21 = .ok (.iload_n 3, 1) := by decide +kernel
theorem dX9_nap_22 : decode cX9_nap 22 = .ok (.iconst 0, 1) := by decide +kernel
theorem dX9_nap_23 : decode cX9_nap 23 = .ok (.iload_n 2, 1) := by decide +kernel
theorem dX9_nap_24 : decode cX9_nap 24 = .ok (.ifCond .ne 8, 3) := by decide +kernel
theorem dX9_nap_27 : decode cX9_nap 27 = .ok (.bipush 9, 2) := by decide +kernel
theorem dX9_nap_29 : decode cX9_nap 29 = .ok (.goto 6, 3) := by decide +kernel
theorem dX9_nap_32 : decode cX9_nap 32 = .ok (.sipush 1000, 3) := by decide +kernel
theorem dX9_nap_35 : decode cX9_nap 35 = .ok (.invokestatic 64, 3) := by decide +kernel
theorem dX9_nap_38 : decode cX9_nap 38 = .ok (.ifCond .ne 6, 3) := by decide +kernel
theorem dX9_nap_41 : decode cX9_nap 41 = .ok (.bipush (-2), 2) := by decide +kernel
theorem dX9_nap_43 : decode cX9_nap 43 = .ok (.ireturn, 1) := by decide +kernel
theorem dX9_nap_44 : decode cX9_nap 44 = .ok (.iload_n 2, 1) := by decide +kernel
theorem dX9_nap_45 : decode cX9_nap 45 = .ok (.ifCond .ne 18, 3) := by decide +kernel
theorem dX9_nap_48 : decode cX9_nap 48 = .ok (.aload_n 0, 1) := by decide +kernel
theorem dX9_nap_49 : decode cX9_nap 49 = .ok (.getfield 12, 3) := by decide +kernel
theorem dX9_nap_52 : decode cX9_nap 52 = .ok (.getfield 37, 3) := by decide +kernel
theorem dX9_nap_55 : decode cX9_nap 55 = .ok (.iload_n 1, 1) := by decide +kernel
theorem dX9_nap_56 : decode cX9_nap 56 = .ok (.iload_n 3, 1) := by decide +kernel
theorem dX9_nap_57 : decode cX9_nap 57 = .ok (.invokevirtual 116, 3) := by decide +kernel
theorem dX9_nap_60 : decode cX9_nap 60 = .ok (.goto 15, 3) := by decide +kernel
theorem dX9_nap_63 : decode cX9_nap 63 = .ok (.aload_n 0, 1) := by decide +kernel
theorem dX9_nap_64 : decode cX9_nap 64 = .ok (.getfield 12, 3) := by decide +kernel
theorem dX9_nap_67 : decode cX9_nap 67 = .ok (.getfield 37, 3) := by decide +kernel
theorem dX9_nap_70 : decode cX9_nap 70 = .ok (.iload_n 1, 1) := by decide +kernel
theorem dX9_nap_71 : decode cX9_nap 71 = .ok (.iload_n 3, 1) := by decide +kernel
theorem dX9_nap_72 : decode cX9_nap 72 = .ok (.invokevirtual 122, 3) := by decide +kernel
theorem dX9_nap_75 : decode cX9_nap 75 = .ok (.istore 4, 2) := by decide +kernel
theorem dX9_nap_77 : decode cX9_nap 77 = .ok (.aload_n 0, 1) := by decide +kernel
theorem dX9_nap_78 : decode cX9_nap 78 = .ok (.invokevirtual 125, 3) := by decide +kernel
theorem dX9_nap_81 : decode cX9_nap 81 = .ok (.iload 4, 2) := by decide +kernel
theorem dX9_nap_83 : decode cX9_nap 83 = .ok (.ireturn, 1) := by decide +kernel
theorem dX9_owed_0 : decode cX9_owed 0 = .ok (.aload_n 0, 1) := by decide +kernel
theorem dX9_owed_1 : decode cX9_owed 1 = .ok (.iload_n 1, 1) := by decide +kernel
theorem dX9_owed_2 : decode cX9_owed 2 = .ok (.invokevirtual 95, 3) := by decide +kernel
theorem dX9_owed_5 : decode cX9_owed 5 = .ok (.astore 5, 2) := by decide +kernel
theorem dX9_owed_7 : decode cX9_owed 7 = .ok (.aload 5, 2) := by decide +kernel
theorem dX9_owed_9 : decode cX9_owed 9 = .ok (.ifnonnull 5, 3) := by decide +kernel
theorem dX9_owed_12 : decode cX9_owed 12 = .ok (.iconst (-1), 1) := by decide +kernel
theorem dX9_owed_13 : decode cX9_owed 13 = .ok (.ireturn, 1) := by decide +kernel
theorem dX9_owed_14 : decode cX9_owed 14 = .ok (.aload 5, 2) := by decide +kernel
theorem dX9_owed_16 : decode cX9_owed 16 = .ok (.iload_n 2, 1) := by decide +kernel
theorem dX9_owed_17 : decode cX9_owed 17 = .ok (.invokevirtual 128, 3) := by decide +kernel
theorem dX9_owed_20 : decode cX9_owed 20 = .ok (.ifCond .eq 18, 3) := by decide +kernel
theorem dX9_owed_23 : decode cX9_owed 23 = .ok (.iload_n 3, 1) := by decide +kernel
theorem dX9_owed_24 : decode cX9_owed 24 = .ok (.invokestatic 131, 3) := by decide +kernel
theorem dX9_owed_27 : decode cX9_owed 27 = .ok (.ifCond .eq 11, 3) := by decide +kernel
theorem dX9_owed_30 : decode cX9_owed 30 = .ok (.iload 4, 2) := by decide +kernel
theorem dX9_owed_32 : decode cX9_owed 32 = .ok (.invokestatic 134, 3) := by decide +kernel
theorem dX9_owed_35 : decode cX9_owed 35 = .ok (.ifCond .ne 6, 3) := by decide +kernel
theorem dX9_owed_38 : decode cX9_owed 38 = .ok (.bipush (-2), 2) := by decide +kernel
theorem dX9_owed_40 : decode cX9_owed 40 = .ok (.ireturn, 1) := by decide +kernel
theorem dX9_owed_41 : decode cX9_owed 41 = .ok (.aload 5, 2) := by decide +kernel
theorem dX9_owed_43 : decode cX9_owed 43 = .ok (.iload_n 2, 1) := by decide +kernel
theorem dX9_owed_44 : decode cX9_owed 44 = .ok (.iload 4, 2) := by decide +kernel
theorem dX9_owed_46 : decode cX9_owed 46 = .ok (.invokevirtual 137, 3) := by decide +kernel
theorem dX9_owed_49 : decode cX9_owed 49 = .ok (.ifCond .ne 6, 3) := by decide +kernel
theorem dX9_owed_52 : decode cX9_owed 52 = .ok (.bipush (-5), 2) := by decide +kernel
theorem dX9_owed_54 : decode cX9_owed 54 = .ok (.ireturn, 1) := by decide +kernel
theorem dX9_owed_55 : decode cX9_owed 55 = .ok (.aload_n 0, 1) := by decide +kernel
theorem dX9_owed_56 : decode cX9_owed 56 = .ok (.getfield 12, 3) := by decide +kernel
theorem dX9_owed_59 : decode cX9_owed 59 = .ok (.getfield 37, 3) := by decide +kernel
theorem dX9_owed_62 : decode cX9_owed 62 = .ok (.aload 5, 2) := by decide +kernel
theorem dX9_owed_64 : decode cX9_owed 64 = .ok (.iload_n 2, 1) := by decide +kernel
theorem dX9_owed_65 : decode cX9_owed 65 = .ok (.iload_n 3, 1) := by decide +kernel
theorem dX9_owed_66 : decode cX9_owed 66 = .ok (.iload 4, 2) := by decide +kernel
theorem dX9_owed_68 : decode cX9_owed 68 = .ok (.invokevirtual 141, 3) := by decide +kernel
theorem dX9_owed_71 : decode cX9_owed 71 = .ok (.ireturn, 1) := by decide +kernel
theorem dX9_risk_0 : decode cX9_risk 0 = .ok (.aload_n 0, 1) := by decide +kernel
theorem dX9_risk_1 : decode cX9_risk 1 = .ok (.iload_n 1, 1) := by decide +kernel
theorem dX9_risk_2 : decode cX9_risk 2 = .ok (.invokevirtual 95, 3) := by decide +kernel
theorem dX9_risk_5 : decode cX9_risk 5 = .ok (.astore 6, 2) := by decide +kernel
theorem dX9_risk_7 : decode cX9_risk 7 = .ok (.aload 6, 2) := by decide +kernel
theorem dX9_risk_9 : decode cX9_risk 9 = .ok (.ifnonnull 5, 3) := by decide +kernel
theorem dX9_risk_12 : decode cX9_risk 12 = .ok (.iconst (-1), 1) := by decide +kernel
theorem dX9_risk_13 : decode cX9_risk 13 = .ok (.ireturn, 1) := by decide +kernel
theorem dX9_risk_14 : decode cX9_risk 14 = .ok (.aload 6, 2) := by decide +kernel
theorem dX9_risk_16 : decode cX9_risk 16 = .ok (.iload_n 2, 1) := by decide +kernel
theorem dX9_risk_17 : decode cX9_risk 17 = .ok (.invokevirtual 128, 3) := by decide +kernel
theorem dX9_risk_20 : decode cX9_risk 20 = .ok (.ifCond .eq 28, 3) := by decide +kernel
theorem dX9_risk_23 : decode cX9_risk 23 = .ok (.iload_n 3, 1) := by decide +kernel
theorem dX9_risk_24 : decode cX9_risk 24 = .ok (.invokestatic 131, 3) := by decide +kernel
theorem dX9_risk_27 : decode cX9_risk 27 = .ok (.ifCond .eq 21, 3) := by decide +kernel
theorem dX9_risk_30 : decode cX9_risk 30 = .ok (.iload 4, 2) := by decide +kernel
theorem dX9_risk_32 : decode cX9_risk 32 = .ok (.invokestatic 134, 3) := by decide +kernel
theorem dX9_risk_35 : decode cX9_risk 35 = .ok (.ifCond .eq 13, 3) := by decide +kernel
theorem dX9_risk_38 : decode cX9_risk 38 = .ok (.iload 5, 2) := by decide +kernel
theorem dX9_risk_40 : decode cX9_risk 40 = .ok (.iconst 0, 1) := by decide +kernel
theorem dX9_risk_41 : decode cX9_risk 41 = .ok (.iconst 1, 1) := by decide +kernel
theorem dX9_risk_42 : decode cX9_risk 42 = .ok (.invokestatic 64, 3) := by decide +kernel
theorem dX9_risk_45 : decode cX9_risk 45 = .ok (.ifCond .ne 6, 3) := by decide +kernel
theorem dX9_risk_48 : decode cX9_risk 48 = .ok (.bipush (-2), 2) := by decide +kernel
theorem dX9_risk_50 : decode cX9_risk 50 = .ok (.ireturn, 1) := by decide +kernel
theorem dX9_risk_51 : decode cX9_risk 51 = .ok (.iconst 2, 1) := by decide +kernel
theorem dX9_risk_52 : decode cX9_risk 52 = .ok (.iload 4, 2) := by decide +kernel
theorem dX9_risk_54 : decode cX9_risk 54 = .ok (.imul, 1) := by decide +kernel
theorem dX9_risk_55 : decode cX9_risk 55 = .ok (.iload 5, 2) := by decide +kernel
theorem dX9_risk_57 : decode cX9_risk 57 = .ok (.iadd, 1) := by decide +kernel
theorem dX9_risk_58 : decode cX9_risk 58 = .ok (.istore 7, 2) := by decide +kernel
theorem dX9_risk_60 : decode cX9_risk 60 = .ok (.iload 7, 2) := by decide +kernel
theorem dX9_risk_62 : decode cX9_risk 62 = .ok (.iconst 1, 1) := by decide +kernel
theorem dX9_risk_63 : decode cX9_risk 63 = .ok (.if_icmp .eq 14, 3) := by decide +kernel
theorem dX9_risk_66 : decode cX9_risk 66 = .ok (.aload 6, 2) := by decide +kernel
theorem dX9_risk_68 : decode cX9_risk 68 = .ok (.iload_n 2, 1) := by decide +kernel
theorem dX9_risk_69 : decode cX9_risk 69 = .ok (.iload 4, 2) := by decide +kernel
theorem dX9_risk_71 : decode cX9_risk 71 = .ok (.invokevirtual 137, 3) := by decide +kernel
theorem dX9_risk_74 : decode cX9_risk 74 = .ok (.ifCond .ne 6, 3) := by decide +kernel
theorem dX9_risk_77 : decode cX9_risk 77 = .ok (.bipush (-5), 2) := by decide +kernel
theorem dX9_risk_79 : decode cX9_risk 79 = .ok (.ireturn, 1) := by decide +kernel
theorem dX9_risk_80 : decode cX9_risk 80 = .ok (.aload 6, 2) := by decide +kernel
theorem dX9_risk_82 : decode cX9_risk 82 = .ok (.iload_n 2, 1) := by decide +kernel
theorem dX9_risk_83 : decode cX9_risk 83 = .ok (.invokevirtual 145, 3) := by decide +kernel
theorem dX9_risk_86 : decode cX9_risk 86 = .ok (.aload_n 0, 1) := by decide +kernel
theorem dX9_risk_87 : decode cX9_risk 87 = .ok (.getfield 12, 3) := by decide +kernel
theorem dX9_risk_90 : decode cX9_risk 90 = .ok (.getfield 37, 3) := by decide +kernel
theorem dX9_risk_93 : decode cX9_risk 93 = .ok (.iload 7, 2) := by decide +kernel
theorem dX9_risk_95 : decode cX9_risk 95 = .ok (.iload_n 3, 1) := by decide +kernel
theorem dX9_risk_96 : decode cX9_risk 96 = .ok (.invokevirtual 148, 3) := by decide +kernel
theorem dX9_risk_99 : decode cX9_risk 99 = .ok (.imul, 1) := by decide +kernel
theorem dX9_risk_100 : decode cX9_risk 100 = .ok (.ireturn, 1) := by decide +kernel
theorem dX9_say_0 : decode cX9_say 0 = .ok (.iload_n 1, 1) := by decide +kernel
theorem dX9_say_1 : decode cX9_say 1 = .ok (.bipush 33, 2) := by decide +kernel
theorem dX9_say_3 : decode cX9_say 3 = .ok (.bipush 126, 2) := by decide +kernel
theorem dX9_say_5 : decode cX9_say 5 = .ok (.invokestatic 64, 3) := by decide +kernel
theorem dX9_say_8 : decode cX9_say 8 = .ok (.ifCond .ne 6, 3) := by decide +kernel
theorem dX9_say_11 : decode cX9_say 11 = .ok (.bipush (-2), 2) := by decide +kernel
theorem dX9_say_13 : decode cX9_say 13 = .ok (.ireturn, 1) := by decide +kernel
theorem dX9_say_14 : decode cX9_say 14 = .ok (.aload_n 0, 1) := by decide +kernel
theorem dX9_say_15 : decode cX9_say 15 = .ok (.getfield 47, 3) := by decide +kernel
theorem dX9_say_18 : decode cX9_say 18 = .ok (.iload_n 1, 1) := by decide +kernel
theorem dX9_say_19 : decode cX9_say 19 = .ok (.invokevirtual 151, 3) := by decide +kernel
theorem dX9_say_22 : decode cX9_say 22 = .ok (.ifCond .eq 13, 3) := by decide +kernel
theorem dX9_say_25 : decode cX9_say 25 = .ok (.aload_n 0, 1) := by decide +kernel
theorem dX9_say_26 : decode cX9_say 26 = .ok (.getfield 47, 3) := by decide +kernel
theorem dX9_say_29 : decode cX9_say 29 = .ok (.getfield 154, 3) := by decide +kernel
theorem dX9_say_32 : decode cX9_say 32 = .ok (.goto 5, 3) := by decide +kernel
theorem dX9_say_35 : decode cX9_say 35 = .ok (.bipush (-4), 2) := by decide +kernel
theorem dX9_say_37 : decode cX9_say 37 = .ok (.ireturn, 1) := by decide +kernel
theorem dX9_wipe_0 : decode cX9_wipe 0 = .ok (.aload_n 0, 1) := by decide +kernel
theorem dX9_wipe_1 : decode cX9_wipe 1 = .ok (.getfield 47, 3) := by decide +kernel
theorem dX9_wipe_4 : decode cX9_wipe 4 = .ok (.getfield 154, 3) := by decide +kernel
theorem dX9_wipe_7 : decode cX9_wipe 7 = .ok (.istore_n 1, 1) := by decide +kernel
theorem dX9_wipe_8 : decode cX9_wipe 8 = .ok (.aload_n 0, 1) := by decide +kernel
theorem dX9_wipe_9 : decode cX9_wipe 9 = .ok (.getfield 47, 3) := by decide +kernel
theorem dX9_wipe_12 : decode cX9_wipe 12 = .ok (.iconst 0, 1) := by decide +kernel
theorem dX9_wipe_13 : decode cX9_wipe 13 = .ok (.putfield 154, 3) := by decide +kernel
theorem dX9_wipe_16 : decode cX9_wipe 16 = .ok (.iload_n 1, 1) := by decide +kernel
theorem dX9_wipe_17 : decode cX9_wipe 17 = .ok (.ireturn, 1) := by decide +kernel
theorem dX9_fault_0 : decode cX9_fault 0 = .ok (.aload_n 0, 1) := by decide +kernel
theorem dX9_fault_1 : decode cX9_fault 1 = .ok (.getfield 47, 3) := by decide +kernel
theorem dX9_fault_4 : decode cX9_fault 4 = .ok (.invokevirtual 157, 3) := by decide +kernel
theorem dX9_fault_7 : decode cX9_fault 7 = .ok (.ireturn, 1) := by decide +kernel
theorem dX9_judge_0 : decode cX9_judge 0 = .ok (.aload_n 0, 1) := by decide +kernel
theorem dX9_judge_1 : decode cX9_judge 1 = .ok (.iload_n 1, 1) := by decide +kernel
theorem dX9_judge_2 : decode cX9_judge 2 = .ok (.invokevirtual 95, 3) := by decide +kernel
theorem dX9_judge_5 : decode cX9_judge 5 = .ok (.astore 5, 2) := by decide +kernel
theorem dX9_judge_7 : decode cX9_judge 7 = .ok (.aload 5, 2) := by decide +kernel
theorem dX9_judge_9 : decode cX9_judge 9 = .ok (.ifnonnull 5, 3) := by decide +kernel
theorem dX9_judge_12 : decode cX9_judge 12 = .ok (.iconst (-1), 1) := by decide +kernel
theorem dX9_judge_13 : decode cX9_judge 13 = .ok (.ireturn, 1) := by decide +kernel
theorem dX9_judge_14 : decode cX9_judge 14 = .ok (.iload_n 2, 1) := by decide +kernel
theorem dX9_judge_15 : decode cX9_judge 15 = .ok (.invokestatic 131, 3) := by decide +kernel
theorem dX9_judge_18 : decode cX9_judge 18 = .ok (.ifCond .eq 21, 3) := by decide +kernel
theorem dX9_judge_21 : decode cX9_judge 21 = .ok (.iload_n 3, 1) := by decide +kernel
theorem dX9_judge_22 : decode cX9_judge 22 = .ok (.invokestatic 161, 3) := by decide +kernel
theorem dX9_judge_25 : decode cX9_judge 25 = .ok (.ifCond .eq 14, 3) := by decide +kernel
theorem dX9_judge_28 : decode cX9_judge 28 = .ok (.iload 4, 2) := by decide +kernel
theorem dX9_judge_30 : decode cX9_judge 30 = .ok (.iconst 0, 1) := by decide +kernel
theorem dX9_judge_31 : decode cX9_judge 31 = .ok (.bipush 6, 2) := by decide +kernel
theorem dX9_judge_33 : decode cX9_judge 33 = .ok (.invokestatic 64, 3) := by decide +kernel
theorem dX9_judge_36 : decode cX9_judge 36 = .ok (.ifCond .ne 6, 3) := by decide +kernel
theorem dX9_judge_39 : decode cX9_judge 39 = .ok (.bipush (-2), 2) := by decide +kernel
theorem dX9_judge_41 : decode cX9_judge 41 = .ok (.ireturn, 1) := by decide +kernel
theorem dX9_judge_42 : decode cX9_judge 42 = .ok (.aload_n 0, 1) := by decide +kernel
theorem dX9_judge_43 : decode cX9_judge 43 = .ok (.getfield 47, 3) := by decide +kernel
theorem dX9_judge_46 : decode cX9_judge 46 = .ok (.invokevirtual 157, 3) := by decide +kernel
theorem dX9_judge_49 : decode cX9_judge 49 = .ok (.bipush (-6), 2) := by decide +kernel
theorem dX9_judge_51 : decode cX9_judge 51 = .ok (.if_icmp .eq 6, 3) := by decide +kernel
theorem dX9_judge_54 : decode cX9_judge 54 = .ok (.bipush (-5), 2) := by decide +kernel
theorem dX9_judge_56 : decode cX9_judge 56 = .ok (.ireturn, 1) := by decide +kernel
theorem dX9_judge_57 : decode cX9_judge 57 = .ok (.aload_n 0, 1) := by decide +kernel
theorem dX9_judge_58 : decode cX9_judge 58 = .ok (.getfield 56, 3) := by decide +kernel
theorem dX9_judge_61 : decode cX9_judge 61 = .ok (.aload 5, 2) := by decide +kernel
theorem dX9_judge_63 : decode cX9_judge 63 = .ok (.iload_n 2, 1) := by decide +kernel
theorem dX9_judge_64 : decode cX9_judge 64 = .ok (.iload_n 3, 1) := by decide +kernel
theorem dX9_judge_65 : decode cX9_judge 65 = .ok (.invokevirtual 164, 3) := by decide +kernel
theorem dX9_judge_68 : decode cX9_judge 68 = .ok (.aload_n 0, 1) := by decide +kernel
theorem dX9_judge_69 : decode cX9_judge 69 = .ok (.getfield 56, 3) := by decide +kernel
theorem dX9_judge_72 : decode cX9_judge 72 = .ok (.aload_n 0, 1) := by decide +kernel
theorem dX9_judge_73 : decode cX9_judge 73 = .ok (.getfield 47, 3) := by decide +kernel
theorem dX9_judge_76 : decode cX9_judge 76 = .ok (.invokevirtual 168, 3) := by decide +kernel
theorem dX9_judge_79 : decode cX9_judge 79 = .ok (.istore 6, 2) := by decide +kernel
theorem dX9_judge_81 : decode cX9_judge 81 = .ok (.iload 4, 2) := by decide +kernel
theorem dX9_judge_83 : decode cX9_judge 83 = .ok (.tableswitch 89 0 5 #[37, 40, 51, 59, 70, 81], 37) := by decide +kernel
theorem dX9_judge_120 : decode cX9_judge 120 = .ok (.iload 6, 2) := by decide +kernel
theorem dX9_judge_122 : decode cX9_judge 122 = .ok (.ireturn, 1) := by decide +kernel
theorem dX9_judge_123 : decode cX9_judge 123 = .ok (.aload_n 0, 1) := by decide +kernel
theorem dX9_judge_124 : decode cX9_judge 124 = .ok (.getfield 56, 3) := by decide +kernel
theorem dX9_judge_127 : decode cX9_judge 127 = .ok (.getfield 172, 3) := by decide +kernel
theorem dX9_judge_130 : decode cX9_judge 130 = .ok (.getfield 176, 3) := by decide +kernel
theorem dX9_judge_133 : decode cX9_judge 133 = .ok (.ireturn, 1) := by decide +kernel
theorem dX9_judge_134 : decode cX9_judge 134 = .ok (.aload_n 0, 1) := by decide +kernel
theorem dX9_judge_135 : decode cX9_judge 135 = .ok (.getfield 56, 3) := by decide +kernel
theorem dX9_judge_138 : decode cX9_judge 138 = .ok (.getfield 181, 3) := by decide +kernel
theorem dX9_judge_141 : decode cX9_judge 141 = .ok (.ireturn, 1) := by decide +kernel
theorem dX9_judge_142 : decode cX9_judge 142 = .ok (.aload_n 0, 1) := by decide +kernel
theorem dX9_judge_143 : decode cX9_judge 143 = .ok (.getfield 56, 3) := by decide +kernel
theorem dX9_judge_146 : decode cX9_judge 146 = .ok (.getfield 172, 3) := by decide +kernel
theorem dX9_judge_149 : decode cX9_judge 149 = .ok (.invokevirtual 184, 3) := by decide +kernel
theorem dX9_judge_152 : decode cX9_judge 152 = .ok (.ireturn, 1) := by decide +kernel
theorem dX9_judge_153 : decode cX9_judge 153 = .ok (.aload_n 0, 1) := by decide +kernel
theorem dX9_judge_154 : decode cX9_judge 154 = .ok (.getfield 56, 3) := by decide +kernel
theorem dX9_judge_157 : decode cX9_judge 157 = .ok (.getfield 172, 3) := by decide +kernel
theorem dX9_judge_160 : decode cX9_judge 160 = .ok (.invokevirtual 187, 3) := by decide +kernel
theorem dX9_judge_163 : decode cX9_judge 163 = .ok (.ireturn, 1) := by decide +kernel
theorem dX9_judge_164 : decode cX9_judge 164 = .ok (.aload_n 0, 1) := by decide +kernel
theorem dX9_judge_165 : decode cX9_judge 165 = .ok (.getfield 56, 3) := by decide +kernel
theorem dX9_judge_168 : decode cX9_judge 168 = .ok (.getfield 190, 3) := by decide +kernel
theorem dX9_judge_171 : decode cX9_judge 171 = .ok (.ireturn, 1) := by decide +kernel
theorem dX9_judge_172 : decode cX9_judge 172 = .ok (.aload_n 0, 1) := by decide +kernel
theorem dX9_judge_173 : decode cX9_judge 173 = .ok (.getfield 56, 3) := by decide +kernel
theorem dX9_judge_176 : decode cX9_judge 176 = .ok (.getfield 193, 3) := by decide +kernel
theorem dX9_judge_179 : decode cX9_judge 179 = .ok (.ireturn, 1) := by decide +kernel
theorem dX9_best_0 : decode cX9_best 0 = .ok (.aload_n 0, 1) := by decide +kernel
theorem dX9_best_1 : decode cX9_best 1 = .ok (.iload_n 1, 1) := by decide +kernel
theorem dX9_best_2 : decode cX9_best 2 = .ok (.invokevirtual 60, 3) := by decide +kernel
theorem dX9_best_5 : decode cX9_best 5 = .ok (.astore 6, 2) := by decide +kernel
theorem dX9_best_7 : decode cX9_best 7 = .ok (.aload 6, 2) := by decide +kernel
theorem dX9_best_9 : decode cX9_best 9 = .ok (.ifnonnull 5, 3) := by decide +kernel
theorem dX9_best_12 : decode cX9_best 12 = .ok (.iconst (-1), 1) := by decide +kernel
theorem dX9_best_13 : decode cX9_best 13 = .ok (.ireturn, 1) := by decide +kernel
theorem dX9_best_14 : decode cX9_best 14 = .ok (.aload 6, 2) := by decide +kernel
theorem dX9_best_16 : decode cX9_best 16 = .ok (.iload_n 2, 1) := by decide +kernel
theorem dX9_best_17 : decode cX9_best 17 = .ok (.iload 5, 2) := by decide +kernel
theorem dX9_best_19 : decode cX9_best 19 = .ok (.invokevirtual 196, 3) := by decide +kernel
theorem dX9_best_22 : decode cX9_best 22 = .ok (.ifCond .eq 18, 3) := by decide +kernel
theorem dX9_best_25 : decode cX9_best 25 = .ok (.iload_n 3, 1) := by decide +kernel
theorem dX9_best_26 : decode cX9_best 26 = .ok (.invokestatic 131, 3) := by decide +kernel
theorem dX9_best_29 : decode cX9_best 29 = .ok (.ifCond .eq 11, 3) := by decide +kernel
theorem dX9_best_32 : decode cX9_best 32 = .ok (.iload 4, 2) := by decide +kernel
theorem dX9_best_34 : decode cX9_best 34 = .ok (.invokestatic 161, 3) := by decide +kernel
theorem dX9_best_37 : decode cX9_best 37 = .ok (.ifCond .ne 6, 3) := by decide +kernel
theorem dX9_best_40 : decode cX9_best 40 = .ok (.bipush (-2), 2) := by decide +kernel
theorem dX9_best_42 : decode cX9_best 42 = .ok (.ireturn, 1) := by decide +kernel
theorem dX9_best_43 : decode cX9_best 43 = .ok (.aload 6, 2) := by decide +kernel
theorem dX9_best_45 : decode cX9_best 45 = .ok (.iload_n 2, 1) := by decide +kernel
theorem dX9_best_46 : decode cX9_best 46 = .ok (.iload_n 3, 1) := by decide +kernel
theorem dX9_best_47 : decode cX9_best 47 = .ok (.iload 4, 2) := by decide +kernel
theorem dX9_best_49 : decode cX9_best 49 = .ok (.iload 5, 2) := by decide +kernel
theorem dX9_best_51 : decode cX9_best 51 = .ok (.invokevirtual 199, 3) := by decide +kernel
theorem dX9_best_54 : decode cX9_best 54 = .ok (.ireturn, 1) := by decide +kernel
theorem dX9_does_0 : decode cX9_does 0 = .ok (.aload_n 0, 1) := by decide +kernel
theorem dX9_does_1 : decode cX9_does 1 = .ok (.iload_n 1, 1) := by decide +kernel
theorem dX9_does_2 : decode cX9_does 2 = .ok (.invokevirtual 60, 3) := by decide +kernel
theorem dX9_does_5 : decode cX9_does 5 = .ok (.astore 6, 2) := by decide +kernel
theorem dX9_does_7 : decode cX9_does 7 = .ok (.aload 6, 2) := by decide +kernel
theorem dX9_does_9 : decode cX9_does 9 = .ok (.ifnonnull 5, 3) := by decide +kernel
theorem dX9_does_12 : decode cX9_does 12 = .ok (.iconst (-1), 1) := by decide +kernel
theorem dX9_does_13 : decode cX9_does 13 = .ok (.ireturn, 1) := by decide +kernel
theorem dX9_does_14 : decode cX9_does 14 = .ok (.aload 6, 2) := by decide +kernel
theorem dX9_does_16 : decode cX9_does 16 = .ok (.iload_n 2, 1) := by decide +kernel
theorem dX9_does_17 : decode cX9_does 17 = .ok (.iload 5, 2) := by decide +kernel
theorem dX9_does_19 : decode cX9_does 19 = .ok (.invokevirtual 196, 3) := by decide +kernel
theorem dX9_does_22 : decode cX9_does 22 = .ok (.ifCond .eq 18, 3) := by decide +kernel
theorem dX9_does_25 : decode cX9_does 25 = .ok (.iload_n 3, 1) := by decide +kernel
theorem dX9_does_26 : decode cX9_does 26 = .ok (.invokestatic 131, 3) := by decide +kernel
theorem dX9_does_29 : decode cX9_does 29 = .ok (.ifCond .eq 11, 3) := by decide +kernel
theorem dX9_does_32 : decode cX9_does 32 = .ok (.iload 4, 2) := by decide +kernel
theorem dX9_does_34 : decode cX9_does 34 = .ok (.invokestatic 161, 3) := by decide +kernel
theorem dX9_does_37 : decode cX9_does 37 = .ok (.ifCond .ne 6, 3) := by decide +kernel
theorem dX9_does_40 : decode cX9_does 40 = .ok (.bipush (-2), 2) := by decide +kernel
theorem dX9_does_42 : decode cX9_does 42 = .ok (.ireturn, 1) := by decide +kernel
theorem dX9_does_43 : decode cX9_does 43 = .ok (.aload 6, 2) := by decide +kernel
theorem dX9_does_45 : decode cX9_does 45 = .ok (.iload_n 2, 1) := by decide +kernel
theorem dX9_does_46 : decode cX9_does 46 = .ok (.iload_n 3, 1) := by decide +kernel
theorem dX9_does_47 : decode cX9_does 47 = .ok (.iload 4, 2) := by decide +kernel
theorem dX9_does_49 : decode cX9_does 49 = .ok (.iload 5, 2) := by decide +kernel
theorem dX9_does_51 : decode cX9_does 51 = .ok (.invokevirtual 203, 3) := by decide +kernel
theorem dX9_does_54 : decode cX9_does 54 = .ok (.invokestatic 206, 3) := by decide +kernel
theorem dX9_does_57 : decode cX9_does 57 = .ok (.ireturn, 1) := by decide +kernel
theorem dX9_logged_0 : decode cX9_logged 0 = .ok (.aload_n 0, 1) := by decide +kernel
theorem dX9_logged_1 : decode cX9_logged 1 = .ok (.iload_n 1, 1) := by decide +kernel
theorem dX9_logged_2 : decode cX9_logged 2 = .ok (.invokevirtual 60, 3) := by decide +kernel
theorem dX9_logged_5 : decode cX9_logged 5 = .ok (.astore 5, 2) := by decide +kernel
theorem dX9_logged_7 : decode cX9_logged 7 = .ok (.aload 5, 2) := by decide +kernel
theorem dX9_logged_9 : decode cX9_logged 9 = .ok (.ifnonnull 5, 3) := by decide +kernel
theorem dX9_logged_12 : decode cX9_logged 12 = .ok (.iconst (-1), 1) := by decide +kernel
theorem dX9_logged_13 : decode cX9_logged 13 = .ok (.ireturn, 1) := by decide +kernel
theorem dX9_logged_14 : decode cX9_logged 14 = .ok (.iload_n 2, 1) := by decide +kernel
theorem dX9_logged_15 : decode cX9_logged 15 = .ok (.invokestatic 131, 3) := by decide +kernel
theorem dX9_logged_18 : decode cX9_logged 18 = .ok (.ifCond .eq 10, 3) := by decide +kernel
theorem dX9_logged_21 : decode cX9_logged 21 = .ok (.iload_n 3, 1) := by decide +kernel
theorem dX9_logged_22 : decode cX9_logged 22 = .ok (.invokestatic 161, 3) := by decide +kernel
theorem dX9_logged_25 : decode cX9_logged 25 = .ok (.ifCond .ne 6, 3) := by decide +kernel
theorem dX9_logged_28 : decode cX9_logged 28 = .ok (.bipush (-2), 2) := by decide +kernel
theorem dX9_logged_30 : decode cX9_logged 30 = .ok (.ireturn, 1) := by decide +kernel
theorem dX9_logged_31 : decode cX9_logged 31 = .ok (.aload 5, 2) := by decide +kernel
theorem dX9_logged_33 : decode cX9_logged 33 = .ok (.iload_n 2, 1) := by decide +kernel
theorem dX9_logged_34 : decode cX9_logged 34 = .ok (.iload_n 3, 1) := by decide +kernel
theorem dX9_logged_35 : decode cX9_logged 35 = .ok (.iload 4, 2) := by decide +kernel
theorem dX9_logged_37 : decode cX9_logged 37 = .ok (.invokevirtual 209, 3) := by decide +kernel
theorem dX9_logged_40 : decode cX9_logged 40 = .ok (.ireturn, 1) := by decide +kernel
theorem dX9_thumb_0 : decode cX9_thumb 0 = .ok (.aload_n 0, 1) := by decide +kernel
theorem dX9_thumb_1 : decode cX9_thumb 1 = .ok (.iload_n 1, 1) := by decide +kernel
theorem dX9_thumb_2 : decode cX9_thumb 2 = .ok (.invokevirtual 60, 3) := by decide +kernel
theorem dX9_thumb_5 : decode cX9_thumb 5 = .ok (.astore 5, 2) := by decide +kernel
theorem dX9_thumb_7 : decode cX9_thumb 7 = .ok (.aload 5, 2) := by decide +kernel
theorem dX9_thumb_9 : decode cX9_thumb 9 = .ok (.ifnonnull 5, 3) := by decide +kernel
theorem dX9_thumb_12 : decode cX9_thumb 12 = .ok (.iconst (-1), 1) := by decide +kernel
theorem dX9_thumb_13 : decode cX9_thumb 13 = .ok (.ireturn, 1) := by decide +kernel
theorem dX9_thumb_14 : decode cX9_thumb 14 = .ok (.iload_n 2, 1) := by decide +kernel
theorem dX9_thumb_15 : decode cX9_thumb 15 = .ok (.iconst 0, 1) := by decide +kernel
theorem dX9_thumb_16 : decode cX9_thumb 16 = .ok (.iconst 3, 1) := by decide +kernel
theorem dX9_thumb_17 : decode cX9_thumb 17 = .ok (.invokestatic 64, 3) := by decide +kernel
theorem dX9_thumb_20 : decode cX9_thumb 20 = .ok (.ifCond .eq 20, 3) := by decide +kernel
theorem dX9_thumb_23 : decode cX9_thumb 23 = .ok (.iload_n 3, 1) := by decide +kernel
theorem dX9_thumb_24 : decode cX9_thumb 24 = .ok (.invokestatic 131, 3) := by decide +kernel
theorem dX9_thumb_27 : decode cX9_thumb 27 = .ok (.ifCond .eq 13, 3) := by decide +kernel
theorem dX9_thumb_30 : decode cX9_thumb 30 = .ok (.iload 4, 2) := by decide +kernel
theorem dX9_thumb_32 : decode cX9_thumb 32 = .ok (.iconst 0, 1) := by decide +kernel
theorem dX9_thumb_33 : decode cX9_thumb 33 = .ok (.iconst 2, 1) := by decide +kernel
theorem dX9_thumb_34 : decode cX9_thumb 34 = .ok (.invokestatic 64, 3) := by decide +kernel
theorem dX9_thumb_37 : decode cX9_thumb 37 = .ok (.ifCond .ne 6, 3) := by decide +kernel
theorem dX9_thumb_40 : decode cX9_thumb 40 = .ok (.bipush (-2), 2) := by decide +kernel
theorem dX9_thumb_42 : decode cX9_thumb 42 = .ok (.ireturn, 1) := by decide +kernel
theorem dX9_thumb_43 : decode cX9_thumb 43 = .ok (.aload_n 0, 1) := by decide +kernel
theorem dX9_thumb_44 : decode cX9_thumb 44 = .ok (.getfield 56, 3) := by decide +kernel
theorem dX9_thumb_47 : decode cX9_thumb 47 = .ok (.aload 5, 2) := by decide +kernel
theorem dX9_thumb_49 : decode cX9_thumb 49 = .ok (.getfield 68, 3) := by decide +kernel
theorem dX9_thumb_52 : decode cX9_thumb 52 = .ok (.iload_n 3, 1) := by decide +kernel
theorem dX9_thumb_53 : decode cX9_thumb 53 = .ok (.iconst 0, 1) := by decide +kernel
theorem dX9_thumb_54 : decode cX9_thumb 54 = .ok (.invokevirtual 164, 3) := by decide +kernel
theorem dX9_thumb_57 : decode cX9_thumb 57 = .ok (.aload_n 0, 1) := by decide +kernel
theorem dX9_thumb_58 : decode cX9_thumb 58 = .ok (.getfield 56, 3) := by decide +kernel
theorem dX9_thumb_61 : decode cX9_thumb 61 = .ok (.iload_n 2, 1) := by decide +kernel
theorem dX9_thumb_62 : decode cX9_thumb 62 = .ok (.invokevirtual 213, 3) := by decide +kernel
theorem dX9_thumb_65 : decode cX9_thumb 65 = .ok (.iload 4, 2) := by decide +kernel
theorem dX9_thumb_67 : decode cX9_thumb 67 = .ok (.lookupswitch 57 #[(0, 25), (1, 36)], 25) := by decide +kernel
theorem dX9_thumb_92 : decode cX9_thumb 92 = .ok (.aload_n 0, 1) := by decide +kernel
theorem dX9_thumb_93 : decode cX9_thumb 93 = .ok (.getfield 56, 3) := by decide +kernel
theorem dX9_thumb_96 : decode cX9_thumb 96 = .ok (.getfield 172, 3) := by decide +kernel
theorem dX9_thumb_99 : decode cX9_thumb 99 = .ok (.invokevirtual 184, 3) := by decide +kernel
theorem dX9_thumb_102 : decode cX9_thumb 102 = .ok (.ireturn, 1) := by decide +kernel
theorem dX9_thumb_103 : decode cX9_thumb 103 = .ok (.aload 5, 2) := by decide +kernel
theorem dX9_thumb_105 : decode cX9_thumb 105 = .ok (.iconst 0, 1) := by decide +kernel
theorem dX9_thumb_106 : decode cX9_thumb 106 = .ok (.iload_n 3, 1) := by decide +kernel
theorem dX9_thumb_107 : decode cX9_thumb 107 = .ok (.iconst 0, 1) := by decide +kernel
theorem dX9_thumb_108 : decode cX9_thumb 108 = .ok (.iconst 4, 1) := by decide +kernel
theorem dX9_thumb_109 : decode cX9_thumb 109 = .ok (.invokevirtual 199, 3) := by decide +kernel
theorem dX9_thumb_112 : decode cX9_thumb 112 = .ok (.aload_n 0, 1) := by decide +kernel
theorem dX9_thumb_113 : decode cX9_thumb 113 = .ok (.getfield 56, 3) := by decide +kernel
theorem dX9_thumb_116 : decode cX9_thumb 116 = .ok (.getfield 172, 3) := by decide +kernel
theorem dX9_thumb_119 : decode cX9_thumb 119 = .ok (.invokevirtual 184, 3) := by decide +kernel
theorem dX9_thumb_122 : decode cX9_thumb 122 = .ok (.isub, 1) := by decide +kernel
theorem dX9_thumb_123 : decode cX9_thumb 123 = .ok (.ireturn, 1) := by decide +kernel
theorem dX9_thumb_124 : decode cX9_thumb 124 = .ok (.aload_n 0, 1) := by decide +kernel
theorem dX9_thumb_125 : decode cX9_thumb 125 = .ok (.getfield 56, 3) := by decide +kernel
theorem dX9_thumb_128 : decode cX9_thumb 128 = .ok (.getfield 181, 3) := by decide +kernel
theorem dX9_thumb_131 : decode cX9_thumb 131 = .ok (.ireturn, 1) := by decide +kernel
theorem dX9_worth_0 : decode cX9_worth 0 = .ok (.aload_n 0, 1) := by decide +kernel
theorem dX9_worth_1 : decode cX9_worth 1 = .ok (.iload_n 1, 1) := by decide +kernel
theorem dX9_worth_2 : decode cX9_worth 2 = .ok (.invokevirtual 60, 3) := by decide +kernel
theorem dX9_worth_5 : decode cX9_worth 5 = .ok (.astore 5, 2) := by decide +kernel
theorem dX9_worth_7 : decode cX9_worth 7 = .ok (.aload 5, 2) := by decide +kernel
theorem dX9_worth_9 : decode cX9_worth 9 = .ok (.ifnonnull 5, 3) := by decide +kernel
theorem dX9_worth_12 : decode cX9_worth 12 = .ok (.iconst (-1), 1) := by decide +kernel
theorem dX9_worth_13 : decode cX9_worth 13 = .ok (.ireturn, 1) := by decide +kernel
theorem dX9_worth_14 : decode cX9_worth 14 = .ok (.iload_n 2, 1) := by decide +kernel
theorem dX9_worth_15 : decode cX9_worth 15 = .ok (.invokestatic 131, 3) := by decide +kernel
theorem dX9_worth_18 : decode cX9_worth 18 = .ok (.ifCond .eq 23, 3) := by decide +kernel
theorem dX9_worth_21 : decode cX9_worth 21 = .ok (.iload_n 3, 1) := by decide +kernel
theorem dX9_worth_22 : decode cX9_worth 22 = .ok (.invokestatic 161, 3) := by decide +kernel
theorem dX9_worth_25 : decode cX9_worth 25 = .ok (.ifCond .eq 16, 3) := by decide +kernel
theorem dX9_worth_28 : decode cX9_worth 28 = .ok (.iload 4, 2) := by decide +kernel
theorem dX9_worth_30 : decode cX9_worth 30 = .ok (.iconst 0, 1) := by decide +kernel
theorem dX9_worth_31 : decode cX9_worth 31 = .ok (.bipush 24, 2) := by decide +kernel
theorem dX9_worth_33 : decode cX9_worth 33 = .ok (.iload_n 3, 1) := by decide +kernel
theorem dX9_worth_34 : decode cX9_worth 34 = .ok (.isub, 1) := by decide +kernel
theorem dX9_worth_35 : decode cX9_worth 35 = .ok (.invokestatic 64, 3) := by decide +kernel
theorem dX9_worth_38 : decode cX9_worth 38 = .ok (.ifCond .ne 6, 3) := by decide +kernel
theorem dX9_worth_41 : decode cX9_worth 41 = .ok (.bipush (-2), 2) := by decide +kernel
theorem dX9_worth_43 : decode cX9_worth 43 = .ok (.ireturn, 1) := by decide +kernel
theorem dX9_worth_44 : decode cX9_worth 44 = .ok (.aload 5, 2) := by decide +kernel
theorem dX9_worth_46 : decode cX9_worth 46 = .ok (.iconst 0, 1) := by decide +kernel
theorem dX9_worth_47 : decode cX9_worth 47 = .ok (.iload_n 2, 1) := by decide +kernel
theorem dX9_worth_48 : decode cX9_worth 48 = .ok (.iload_n 3, 1) := by decide +kernel
theorem dX9_worth_49 : decode cX9_worth 49 = .ok (.iload 4, 2) := by decide +kernel
theorem dX9_worth_51 : decode cX9_worth 51 = .ok (.iadd, 1) := by decide +kernel
theorem dX9_worth_52 : decode cX9_worth 52 = .ok (.iconst 4, 1) := by decide +kernel
theorem dX9_worth_53 : decode cX9_worth 53 = .ok (.invokevirtual 199, 3) := by decide +kernel
theorem dX9_worth_56 : decode cX9_worth 56 = .ok (.aload 5, 2) := by decide +kernel
theorem dX9_worth_58 : decode cX9_worth 58 = .ok (.iconst 0, 1) := by decide +kernel
theorem dX9_worth_59 : decode cX9_worth 59 = .ok (.iload_n 2, 1) := by decide +kernel
theorem dX9_worth_60 : decode cX9_worth 60 = .ok (.iload_n 3, 1) := by decide +kernel
theorem dX9_worth_61 : decode cX9_worth 61 = .ok (.iconst 4, 1) := by decide +kernel
theorem dX9_worth_62 : decode cX9_worth 62 = .ok (.invokevirtual 199, 3) := by decide +kernel
theorem dX9_worth_65 : decode cX9_worth 65 = .ok (.isub, 1) := by decide +kernel
theorem dX9_worth_66 : decode cX9_worth 66 = .ok (.ireturn, 1) := by decide +kernel
theorem dX9_round_0 : decode cX9_round 0 = .ok (.iload_n 1, 1) := by decide +kernel
theorem dX9_round_1 : decode cX9_round 1 = .ok (.invokestatic 131, 3) := by decide +kernel
theorem dX9_round_4 : decode cX9_round 4 = .ok (.ifCond .eq 10, 3) := by decide +kernel
theorem dX9_round_7 : decode cX9_round 7 = .ok (.iload_n 2, 1) := by decide +kernel
theorem dX9_round_8 : decode cX9_round 8 = .ok (.invokestatic 161, 3) := by decide +kernel
theorem dX9_round_11 : decode cX9_round 11 = .ok (.ifCond .ne 6, 3) := by decide +kernel
theorem dX9_round_14 : decode cX9_round 14 = .ok (.bipush (-2), 2) := by decide +kernel
theorem dX9_round_16 : decode cX9_round 16 = .ok (.ireturn, 1) := by decide +kernel
theorem dX9_round_17 : decode cX9_round 17 = .ok (.aload_n 0, 1) := by decide +kernel
theorem dX9_round_18 : decode cX9_round 18 = .ok (.getfield 26, 3) := by decide +kernel
theorem dX9_round_21 : decode cX9_round 21 = .ok (.iconst 0, 1) := by decide +kernel
theorem dX9_round_22 : decode cX9_round 22 = .ok (.aaload, 1) := by decide +kernel
theorem dX9_round_23 : decode cX9_round 23 = .ok (.iconst 0, 1) := by decide +kernel
theorem dX9_round_24 : decode cX9_round 24 = .ok (.iload_n 1, 1) := by decide +kernel
theorem dX9_round_25 : decode cX9_round 25 = .ok (.iload_n 2, 1) := by decide +kernel
theorem dX9_round_26 : decode cX9_round 26 = .ok (.iconst 4, 1) := by decide +kernel
theorem dX9_round_27 : decode cX9_round 27 = .ok (.invokevirtual 199, 3) := by decide +kernel
theorem dX9_round_30 : decode cX9_round 30 = .ok (.istore_n 3, 1) := by decide +kernel
theorem dX9_round_31 : decode cX9_round 31 = .ok (.aload_n 0, 1) := by decide +kernel
theorem dX9_round_32 : decode cX9_round 32 = .ok (.getfield 26, 3) := by decide +kernel
theorem dX9_round_35 : decode cX9_round 35 = .ok (.iconst 1, 1) := by decide +kernel
theorem dX9_round_36 : decode cX9_round 36 = .ok (.aaload, 1) := by decide +kernel
theorem dX9_round_37 : decode cX9_round 37 = .ok (.iconst 0, 1) := by decide +kernel
theorem dX9_round_38 : decode cX9_round 38 = .ok (.iload_n 1, 1) := by decide +kernel
theorem dX9_round_39 : decode cX9_round 39 = .ok (.iload_n 2, 1) := by decide +kernel
theorem dX9_round_40 : decode cX9_round 40 = .ok (.iconst 4, 1) := by decide +kernel
theorem dX9_round_41 : decode cX9_round 41 = .ok (.invokevirtual 199, 3) := by decide +kernel
theorem dX9_round_44 : decode cX9_round 44 = .ok (.istore 4, 2) := by decide +kernel
theorem dX9_round_46 : decode cX9_round 46 = .ok (.iload 4, 2) := by decide +kernel
theorem dX9_round_48 : decode cX9_round 48 = .ok (.iload_n 3, 1) := by decide +kernel
theorem dX9_round_49 : decode cX9_round 49 = .ok (.if_icmp .le 7, 3) := by decide +kernel
theorem dX9_round_52 : decode cX9_round 52 = .ok (.iconst 1, 1) := by decide +kernel
theorem dX9_round_53 : decode cX9_round 53 = .ok (.goto 4, 3) := by decide +kernel
theorem dX9_round_56 : decode cX9_round 56 = .ok (.iconst 0, 1) := by decide +kernel
theorem dX9_round_57 : decode cX9_round 57 = .ok (.ireturn, 1) := by decide +kernel
theorem dX9_soonest_0 : decode cX9_soonest 0 = .ok (.aload_n 0, 1) := by decide +kernel
theorem dX9_soonest_1 : decode cX9_soonest 1 = .ok (.iload_n 1, 1) := by decide +kernel
theorem dX9_soonest_2 : decode cX9_soonest 2 = .ok (.invokevirtual 60, 3) := by decide +kernel
theorem dX9_soonest_5 : decode cX9_soonest 5 = .ok (.astore 5, 2) := by decide +kernel
theorem dX9_soonest_7 : decode cX9_soonest 7 = .ok (.aload 5, 2) := by decide +kernel
theorem dX9_soonest_9 : decode cX9_soonest 9 = .ok (.ifnonnull 5, 3) := by decide +kernel
theorem dX9_soonest_12 : decode cX9_soonest 12 = .ok (.iconst (-1), 1) := by decide +kernel
theorem dX9_soonest_13 : decode cX9_soonest 13 = .ok (.ireturn, 1) := by decide +kernel
theorem dX9_soonest_14 : decode cX9_soonest 14 = .ok (.iload_n 2, 1) := by decide +kernel
theorem dX9_soonest_15 : decode cX9_soonest 15 = .ok (.invokestatic 131, 3) := by decide +kernel
theorem dX9_soonest_18 : decode cX9_soonest 18 = .ok (.ifCond .eq 21, 3) := by decide +kernel
theorem dX9_soonest_21 : decode cX9_soonest 21 = .ok (.iload_n 3, 1) := by decide +kernel
theorem dX9_soonest_22 : decode cX9_soonest 22 = .ok (.invokestatic 161, 3) := by decide +kernel
theorem dX9_soonest_25 : decode cX9_soonest 25 = .ok (.ifCond .eq 14, 3) := by decide +kernel
theorem dX9_soonest_28 : decode cX9_soonest 28 = .ok (.iload 4, 2) := by decide +kernel
theorem dX9_soonest_30 : decode cX9_soonest 30 = .ok (.iconst 0, 1) := by decide +kernel
theorem dX9_soonest_31 : decode cX9_soonest 31 = .ok (.ldc 217, 2) := by decide +kernel
theorem dX9_soonest_33 : decode cX9_soonest 33 = .ok (.invokestatic 64, 3) := by decide +kernel
theorem dX9_soonest_36 : decode cX9_soonest 36 = .ok (.ifCond .ne 6, 3) := by decide +kernel
theorem dX9_soonest_39 : decode cX9_soonest 39 = .ok (.bipush (-2), 2) := by decide +kernel
theorem dX9_soonest_41 : decode cX9_soonest 41 = .ok (.ireturn, 1) := by decide +kernel
theorem dX9_soonest_42 : decode cX9_soonest 42 = .ok (.iconst 0, 1) := by decide +kernel
theorem dX9_soonest_43 : decode cX9_soonest 43 = .ok (.istore 6, 2) := by decide +kernel
theorem dX9_soonest_45 : decode cX9_soonest 45 = .ok (.iload 6, 2) := by decide +kernel
theorem dX9_soonest_47 : decode cX9_soonest 47 = .ok (.iconst 4, 1) := by decide +kernel
theorem dX9_soonest_48 : decode cX9_soonest 48 = .ok (.if_icmp .gt 36, 3) := by decide +kernel
theorem dX9_soonest_51 : decode cX9_soonest 51 = .ok (.aload 5, 2) := by decide +kernel
theorem dX9_soonest_53 : decode cX9_soonest 53 = .ok (.iconst 0, 1) := by decide +kernel
theorem dX9_soonest_54 : decode cX9_soonest 54 = .ok (.iload_n 2, 1) := by decide +kernel
theorem dX9_soonest_55 : decode cX9_soonest 55 = .ok (.iload_n 3, 1) := by decide +kernel
theorem dX9_soonest_56 : decode cX9_soonest 56 = .ok (.iload 6, 2) := by decide +kernel
theorem dX9_soonest_58 : decode cX9_soonest 58 = .ok (.invokevirtual 199, 3) := by decide +kernel
theorem dX9_soonest_61 : decode cX9_soonest 61 = .ok (.iload 4, 2) := by decide +kernel
theorem dX9_soonest_63 : decode cX9_soonest 63 = .ok (.if_icmp .lt 15, 3) := by decide +kernel
theorem dX9_soonest_66 : decode cX9_soonest 66 = .ok (.aload 5, 2) := by decide +kernel
theorem dX9_soonest_68 : decode cX9_soonest 68 = .ok (.getfield 68, 3) := by decide +kernel
theorem dX9_soonest_71 : decode cX9_soonest 71 = .ok (.getfield 85, 3) := by decide +kernel
theorem dX9_soonest_74 : decode cX9_soonest 74 = .ok (.iload 6, 2) := by decide +kernel
theorem dX9_soonest_76 : decode cX9_soonest 76 = .ok (.iadd, 1) := by decide +kernel
theorem dX9_soonest_77 : decode cX9_soonest 77 = .ok (.ireturn, 1) := by decide +kernel
theorem dX9_soonest_78 : decode cX9_soonest 78 = .ok (.iinc 6 1, 3) := by decide +kernel
theorem dX9_soonest_81 : decode cX9_soonest 81 = .ok (.goto (-36), 3) := by decide +kernel
theorem dX9_soonest_84 : decode cX9_soonest 84 = .ok (.bipush (-6), 2) := by decide +kernel
theorem dX9_soonest_86 : decode cX9_soonest 86 = .ok (.ireturn, 1) := by decide +kernel
theorem dX9_two_0 : decode cX9_two 0 = .ok (.aload_n 0, 1) := by decide +kernel
theorem dX9_two_1 : decode cX9_two 1 = .ok (.iload_n 1, 1) := by decide +kernel
theorem dX9_two_2 : decode cX9_two 2 = .ok (.invokevirtual 95, 3) := by decide +kernel
theorem dX9_two_5 : decode cX9_two 5 = .ok (.astore 4, 2) := by decide +kernel
theorem dX9_two_7 : decode cX9_two 7 = .ok (.aload 4, 2) := by decide +kernel
theorem dX9_two_9 : decode cX9_two 9 = .ok (.ifnonnull 5, 3) := by decide +kernel
theorem dX9_two_12 : decode cX9_two 12 = .ok (.iconst (-1), 1) := by decide +kernel
theorem dX9_two_13 : decode cX9_two 13 = .ok (.ireturn, 1) := by decide +kernel
theorem dX9_two_14 : decode cX9_two 14 = .ok (.iload_n 2, 1) := by decide +kernel
theorem dX9_two_15 : decode cX9_two 15 = .ok (.invokestatic 131, 3) := by decide +kernel
theorem dX9_two_18 : decode cX9_two 18 = .ok (.ifCond .eq 13, 3) := by decide +kernel
theorem dX9_two_21 : decode cX9_two 21 = .ok (.iload_n 3, 1) := by decide +kernel
theorem dX9_two_22 : decode cX9_two 22 = .ok (.iconst 1, 1) := by decide +kernel
theorem dX9_two_23 : decode cX9_two 23 = .ok (.bipush 6, 2) := by decide +kernel
theorem dX9_two_25 : decode cX9_two 25 = .ok (.invokestatic 64, 3) := by decide +kernel
theorem dX9_two_28 : decode cX9_two 28 = .ok (.ifCond .ne 6, 3) := by decide +kernel
theorem dX9_two_31 : decode cX9_two 31 = .ok (.bipush (-2), 2) := by decide +kernel
theorem dX9_two_33 : decode cX9_two 33 = .ok (.ireturn, 1) := by decide +kernel
theorem dX9_two_34 : decode cX9_two 34 = .ok (.aload_n 0, 1) := by decide +kernel
theorem dX9_two_35 : decode cX9_two 35 = .ok (.getfield 56, 3) := by decide +kernel
theorem dX9_two_38 : decode cX9_two 38 = .ok (.aload 4, 2) := by decide +kernel
theorem dX9_two_40 : decode cX9_two 40 = .ok (.iload_n 2, 1) := by decide +kernel
theorem dX9_two_41 : decode cX9_two 41 = .ok (.iload_n 3, 1) := by decide +kernel
theorem dX9_two_42 : decode cX9_two 42 = .ok (.invokevirtual 218, 3) := by decide +kernel
theorem dX9_two_45 : decode cX9_two 45 = .ok (.ireturn, 1) := by decide +kernel
theorem dX9_share_0 : decode cX9_share 0 = .ok (.aload_n 0, 1) := by decide +kernel
theorem dX9_share_1 : decode cX9_share 1 = .ok (.iload_n 1, 1) := by decide +kernel
theorem dX9_share_2 : decode cX9_share 2 = .ok (.invokevirtual 95, 3) := by decide +kernel
theorem dX9_share_5 : decode cX9_share 5 = .ok (.astore_n 3, 1) := by decide +kernel
theorem dX9_share_6 : decode cX9_share 6 = .ok (.aload_n 3, 1) := by decide +kernel
theorem dX9_share_7 : decode cX9_share 7 = .ok (.ifnonnull 5, 3) := by decide +kernel
theorem dX9_share_10 : decode cX9_share 10 = .ok (.iconst (-1), 1) := by decide +kernel
theorem dX9_share_11 : decode cX9_share 11 = .ok (.ireturn, 1) := by decide +kernel
theorem dX9_share_12 : decode cX9_share 12 = .ok (.iload_n 2, 1) := by decide +kernel
theorem dX9_share_13 : decode cX9_share 13 = .ok (.invokestatic 131, 3) := by decide +kernel
theorem dX9_share_16 : decode cX9_share 16 = .ok (.ifCond .ne 6, 3) := by decide +kernel
theorem dX9_share_19 : decode cX9_share 19 = .ok (.bipush (-2), 2) := by decide +kernel
theorem dX9_share_21 : decode cX9_share 21 = .ok (.ireturn, 1) := by decide +kernel
theorem dX9_share_22 : decode cX9_share 22 = .ok (.iconst 1, 1) := by decide +kernel
theorem dX9_share_23 : decode cX9_share 23 = .ok (.istore 4, 2) := by decide +kernel
theorem dX9_share_25 : decode cX9_share 25 = .ok (.aload_n 0, 1) := by decide +kernel
theorem dX9_share_26 : decode cX9_share 26 = .ok (.getfield 56, 3) := by decide +kernel
theorem dX9_share_29 : decode cX9_share 29 = .ok (.aload_n 3, 1) := by decide +kernel
theorem dX9_share_30 : decode cX9_share 30 = .ok (.iload_n 2, 1) := by decide +kernel
theorem dX9_share_31 : decode cX9_share 31 = .ok (.iconst 1, 1) := by decide +kernel
theorem dX9_share_32 : decode cX9_share 32 = .ok (.invokevirtual 218, 3) := by decide +kernel
theorem dX9_share_35 : decode cX9_share 35 = .ok (.istore 5, 2) := by decide +kernel
theorem dX9_share_37 : decode cX9_share 37 = .ok (.iconst 2, 1) := by decide +kernel
theorem dX9_share_38 : decode cX9_share 38 = .ok (.istore 6, 2) := by decide +kernel
theorem dX9_share_40 : decode cX9_share 40 = .ok (.iload 6, 2) := by decide +kernel
theorem dX9_share_42 : decode cX9_share 42 = .ok (.bipush 6, 2) := by decide +kernel
theorem dX9_share_44 : decode cX9_share 44 = .ok (.if_icmp .gt 37, 3) := by decide +kernel
theorem dX9_share_47 : decode cX9_share 47 = .ok (.aload_n 0, 1) := by decide +kernel
theorem dX9_share_48 : decode cX9_share 48 = .ok (.getfield 56, 3) := by decide +kernel
theorem dX9_share_51 : decode cX9_share 51 = .ok (.aload_n 3, 1) := by decide +kernel
theorem dX9_share_52 : decode cX9_share 52 = .ok (.iload_n 2, 1) := by decide +kernel
theorem dX9_share_53 : decode cX9_share 53 = .ok (.iload 6, 2) := by decide +kernel
theorem dX9_share_55 : decode cX9_share 55 = .ok (.invokevirtual 218, 3) := by decide +kernel
theorem dX9_share_58 : decode cX9_share 58 = .ok (.istore 7, 2) := by decide +kernel
theorem dX9_share_60 : decode cX9_share 60 = .ok (.iload 7, 2) := by decide +kernel
theorem dX9_share_62 : decode cX9_share 62 = .ok (.iload 5, 2) := by decide +kernel
theorem dX9_share_64 : decode cX9_share 64 = .ok (.if_icmp .le 11, 3) := by decide +kernel
theorem dX9_share_67 : decode cX9_share 67 = .ok (.iload 7, 2) := by decide +kernel
theorem dX9_share_69 : decode cX9_share 69 = .ok (.istore 5, 2) := by decide +kernel
theorem dX9_share_71 : decode cX9_share 71 = .ok (.iload 6, 2) := by decide +kernel
theorem dX9_share_73 : decode cX9_share 73 = .ok (.istore 4, 2) := by decide +kernel
theorem dX9_share_75 : decode cX9_share 75 = .ok (.iinc 6 1, 3) := by decide +kernel
theorem dX9_share_78 : decode cX9_share 78 = .ok (.goto (-38), 3) := by decide +kernel
theorem dX9_share_81 : decode cX9_share 81 = .ok (.iload 4, 2) := by decide +kernel
theorem dX9_share_83 : decode cX9_share 83 = .ok (.ireturn, 1) := by decide +kernel
theorem dX9_up_0 : decode cX9_up 0 = .ok (.iload_n 1, 1) := by decide +kernel
theorem dX9_up_1 : decode cX9_up 1 = .ok (.iconst 0, 1) := by decide +kernel
theorem dX9_up_2 : decode cX9_up 2 = .ok (.sipush 1000, 3) := by decide +kernel
theorem dX9_up_5 : decode cX9_up 5 = .ok (.invokestatic 64, 3) := by decide +kernel
theorem dX9_up_8 : decode cX9_up 8 = .ok (.ifCond .eq 21, 3) := by decide +kernel
theorem dX9_up_11 : decode cX9_up 11 = .ok (.iload_n 2, 1) := by decide +kernel
theorem dX9_up_12 : decode cX9_up 12 = .ok (.iconst 0, 1) := by decide +kernel
theorem dX9_up_13 : decode cX9_up 13 = .ok (.sipush 10000, 3) := by decide +kernel
theorem dX9_up_16 : decode cX9_up 16 = .ok (.invokestatic 64, 3) := by decide +kernel
theorem dX9_up_19 : decode cX9_up 19 = .ok (.ifCond .eq 10, 3) := by decide +kernel
theorem dX9_up_22 : decode cX9_up 22 = .ok (.iload_n 3, 1) := by decide +kernel
theorem dX9_up_23 : decode cX9_up 23 = .ok (.invokestatic 131, 3) := by decide +kernel
theorem dX9_up_26 : decode cX9_up 26 = .ok (.ifCond .ne 6, 3) := by decide +kernel
theorem dX9_up_29 : decode cX9_up 29 = .ok (.bipush (-2), 2) := by decide +kernel
theorem dX9_up_31 : decode cX9_up 31 = .ok (.ireturn, 1) := by decide +kernel
theorem dX9_up_32 : decode cX9_up 32 = .ok (.iload_n 1, 1) := by decide +kernel
theorem dX9_up_33 : decode cX9_up 33 = .ok (.iload_n 2, 1) := by decide +kernel
theorem dX9_up_34 : decode cX9_up 34 = .ok (.iload_n 3, 1) := by decide +kernel
theorem dX9_up_35 : decode cX9_up 35 = .ok (.invokestatic 222, 3) := by decide +kernel
theorem dX9_up_38 : decode cX9_up 38 = .ok (.ifCond .eq 7, 3) := by decide +kernel
theorem dX9_up_41 : decode cX9_up 41 = .ok (.iconst 1, 1) := by decide +kernel
theorem dX9_up_42 : decode cX9_up 42 = .ok (.goto 4, 3) := by decide +kernel
theorem dX9_up_45 : decode cX9_up 45 = .ok (.iconst 0, 1) := by decide +kernel
theorem dX9_up_46 : decode cX9_up 46 = .ok (.ireturn, 1) := by decide +kernel
theorem dX9_trust_0 : decode cX9_trust 0 = .ok (.iload_n 1, 1) := by decide +kernel
theorem dX9_trust_1 : decode cX9_trust 1 = .ok (.iconst 0, 1) := by decide +kernel
theorem dX9_trust_2 : decode cX9_trust 2 = .ok (.sipush 10000, 3) := by decide +kernel
theorem dX9_trust_5 : decode cX9_trust 5 = .ok (.invokestatic 64, 3) := by decide +kernel
theorem dX9_trust_8 : decode cX9_trust 8 = .ok (.ifCond .eq 10, 3) := by decide +kernel
theorem dX9_trust_11 : decode cX9_trust 11 = .ok (.iload_n 2, 1) := by decide +kernel
theorem dX9_trust_12 : decode cX9_trust 12 = .ok (.invokestatic 131, 3) := by decide +kernel
theorem dX9_trust_15 : decode cX9_trust 15 = .ok (.ifCond .ne 6, 3) := by decide +kernel
theorem dX9_trust_18 : decode cX9_trust 18 = .ok (.bipush (-2), 2) := by decide +kernel
theorem dX9_trust_20 : decode cX9_trust 20 = .ok (.ireturn, 1) := by decide +kernel
theorem dX9_trust_21 : decode cX9_trust 21 = .ok (.iconst 0, 1) := by decide +kernel
theorem dX9_trust_22 : decode cX9_trust 22 = .ok (.istore_n 3, 1) := by decide +kernel
theorem dX9_trust_23 : decode cX9_trust 23 = .ok (.iload_n 3, 1) := by decide +kernel
theorem dX9_trust_24 : decode cX9_trust 24 = .ok (.sipush 1000, 3) := by decide +kernel
theorem dX9_trust_27 : decode cX9_trust 27 = .ok (.if_icmp .gt 20, 3) := by decide +kernel
theorem dX9_trust_30 : decode cX9_trust 30 = .ok (.iload_n 3, 1) := by decide +kernel
theorem dX9_trust_31 : decode cX9_trust 31 = .ok (.iload_n 1, 1) := by decide +kernel
theorem dX9_trust_32 : decode cX9_trust 32 = .ok (.iload_n 2, 1) := by decide +kernel
theorem dX9_trust_33 : decode cX9_trust 33 = .ok (.invokestatic 222, 3) := by decide +kernel
theorem dX9_trust_36 : decode cX9_trust 36 = .ok (.ifCond .eq 5, 3) := by decide +kernel
theorem dX9_trust_39 : decode cX9_trust 39 = .ok (.iload_n 3, 1) := by decide +kernel
theorem dX9_trust_40 : decode cX9_trust 40 = .ok (.ireturn, 1) := by decide +kernel
theorem dX9_trust_41 : decode cX9_trust 41 = .ok (.iinc 3 1, 3) := by decide +kernel
theorem dX9_trust_44 : decode cX9_trust 44 = .ok (.goto (-21), 3) := by decide +kernel
theorem dX9_trust_47 : decode cX9_trust 47 = .ok (.sipush 1001, 3) := by decide +kernel
theorem dX9_trust_50 : decode cX9_trust 50 = .ok (.ireturn, 1) := by decide +kernel
theorem dX9_draw_0 : decode cX9_draw 0 = .ok (.aload_n 0, 1) := by decide +kernel
theorem dX9_draw_1 : decode cX9_draw 1 = .ok (.iload_n 1, 1) := by decide +kernel
theorem dX9_draw_2 : decode cX9_draw 2 = .ok (.invokevirtual 95, 3) := by decide +kernel
theorem dX9_draw_5 : decode cX9_draw 5 = .ok (.astore 5, 2) := by decide +kernel
theorem dX9_draw_7 : decode cX9_draw 7 = .ok (.aload 5, 2) := by decide +kernel
theorem dX9_draw_9 : decode cX9_draw 9 = .ok (.ifnonnull 5, 3) := by decide +kernel
theorem dX9_draw_12 : decode cX9_draw 12 = .ok (.iconst (-1), 1) := by decide +kernel
theorem dX9_draw_13 : decode cX9_draw 13 = .ok (.ireturn, 1) := by decide +kernel
theorem dX9_draw_14 : decode cX9_draw 14 = .ok (.iload_n 2, 1) := by decide +kernel
theorem dX9_draw_15 : decode cX9_draw 15 = .ok (.invokestatic 131, 3) := by decide +kernel
theorem dX9_draw_18 : decode cX9_draw 18 = .ok (.ifCond .eq 22, 3) := by decide +kernel
theorem dX9_draw_21 : decode cX9_draw 21 = .ok (.iload_n 3, 1) := by decide +kernel
theorem dX9_draw_22 : decode cX9_draw 22 = .ok (.invokestatic 161, 3) := by decide +kernel
theorem dX9_draw_25 : decode cX9_draw 25 = .ok (.ifCond .eq 15, 3) := by decide +kernel
theorem dX9_draw_28 : decode cX9_draw 28 = .ok (.iload 4, 2) := by decide +kernel
theorem dX9_draw_30 : decode cX9_draw 30 = .ok (.iconst 0, 1) := by decide +kernel
theorem dX9_draw_31 : decode cX9_draw 31 = .ok (.sipush 9999, 3) := by decide +kernel
theorem dX9_draw_34 : decode cX9_draw 34 = .ok (.invokestatic 64, 3) := by decide +kernel
theorem dX9_draw_37 : decode cX9_draw 37 = .ok (.ifCond .ne 6, 3) := by decide +kernel
theorem dX9_draw_40 : decode cX9_draw 40 = .ok (.bipush (-2), 2) := by decide +kernel
theorem dX9_draw_42 : decode cX9_draw 42 = .ok (.ireturn, 1) := by decide +kernel
theorem dX9_draw_43 : decode cX9_draw 43 = .ok (.aload_n 0, 1) := by decide +kernel
theorem dX9_draw_44 : decode cX9_draw 44 = .ok (.getfield 47, 3) := by decide +kernel
theorem dX9_draw_47 : decode cX9_draw 47 = .ok (.invokevirtual 157, 3) := by decide +kernel
theorem dX9_draw_50 : decode cX9_draw 50 = .ok (.bipush (-6), 2) := by decide +kernel
theorem dX9_draw_52 : decode cX9_draw 52 = .ok (.if_icmp .eq 6, 3) := by decide +kernel
theorem dX9_draw_55 : decode cX9_draw 55 = .ok (.bipush (-5), 2) := by decide +kernel
theorem dX9_draw_57 : decode cX9_draw 57 = .ok (.ireturn, 1) := by decide +kernel
theorem dX9_draw_58 : decode cX9_draw 58 = .ok (.aload_n 0, 1) := by decide +kernel
theorem dX9_draw_59 : decode cX9_draw 59 = .ok (.getfield 56, 3) := by decide +kernel
theorem dX9_draw_62 : decode cX9_draw 62 = .ok (.aload 5, 2) := by decide +kernel
theorem dX9_draw_64 : decode cX9_draw 64 = .ok (.iload_n 2, 1) := by decide +kernel
theorem dX9_draw_65 : decode cX9_draw 65 = .ok (.iload_n 3, 1) := by decide +kernel
theorem dX9_draw_66 : decode cX9_draw 66 = .ok (.invokevirtual 164, 3) := by decide +kernel
theorem dX9_draw_69 : decode cX9_draw 69 = .ok (.aload_n 0, 1) := by decide +kernel
theorem dX9_draw_70 : decode cX9_draw 70 = .ok (.getfield 56, 3) := by decide +kernel
theorem dX9_draw_73 : decode cX9_draw 73 = .ok (.aload_n 0, 1) := by decide +kernel
theorem dX9_draw_74 : decode cX9_draw 74 = .ok (.getfield 47, 3) := by decide +kernel
theorem dX9_draw_77 : decode cX9_draw 77 = .ok (.invokevirtual 168, 3) := by decide +kernel
theorem dX9_draw_80 : decode cX9_draw 80 = .ok (.pop, 1) := by decide +kernel
theorem dX9_draw_81 : decode cX9_draw 81 = .ok (.aload_n 0, 1) := by decide +kernel
theorem dX9_draw_82 : decode cX9_draw 82 = .ok (.getfield 56, 3) := by decide +kernel
theorem dX9_draw_85 : decode cX9_draw 85 = .ok (.getfield 172, 3) := by decide +kernel
theorem dX9_draw_88 : decode cX9_draw 88 = .ok (.iload 4, 2) := by decide +kernel
theorem dX9_draw_90 : decode cX9_draw 90 = .ok (.invokevirtual 225, 3) := by decide +kernel
theorem dX9_draw_93 : decode cX9_draw 93 = .ok (.ireturn, 1) := by decide +kernel
theorem dX9_image_0 : decode cX9_image 0 = .ok (.iload_n 1, 1) := by decide +kernel
theorem dX9_image_1 : decode cX9_image 1 = .ok (.iconst 0, 1) := by decide +kernel
theorem dX9_image_2 : decode cX9_image 2 = .ok (.iconst 1, 1) := by decide +kernel
theorem dX9_image_3 : decode cX9_image 3 = .ok (.invokestatic 64, 3) := by decide +kernel
theorem dX9_image_6 : decode cX9_image 6 = .ok (.ifCond .ne 6, 3) := by decide +kernel
theorem dX9_image_9 : decode cX9_image 9 = .ok (.bipush (-2), 2) := by decide +kernel
theorem dX9_image_11 : decode cX9_image 11 = .ok (.ireturn, 1) := by decide +kernel
theorem dX9_image_12 : decode cX9_image 12 = .ok (.aload_n 0, 1) := by decide +kernel
theorem dX9_image_13 : decode cX9_image 13 = .ok (.getfield 16, 3) := by decide +kernel
theorem dX9_image_16 : decode cX9_image 16 = .ok (.iload_n 1, 1) := by decide +kernel
theorem dX9_image_17 : decode cX9_image 17 = .ok (.aaload, 1) := by decide +kernel
theorem dX9_image_18 : decode cX9_image 18 = .ok (.aload_n 0, 1) := by decide +kernel
theorem dX9_image_19 : decode cX9_image 19 = .ok (.getfield 12, 3) := by decide +kernel
theorem dX9_image_22 : decode cX9_image 22 = .ok (.invokevirtual 228, 3) := by decide +kernel
theorem dX9_image_25 : decode cX9_image 25 = .ok (.aload_n 0, 1) := by decide +kernel
theorem dX9_image_26 : decode cX9_image 26 = .ok (.getfield 20, 3) := by decide +kernel
theorem dX9_image_29 : decode cX9_image 29 = .ok (.iload_n 1, 1) := by decide +kernel
theorem dX9_image_30 : decode cX9_image 30 = .ok (.iconst 1, 1) := by decide +kernel
theorem dX9_image_31 : decode cX9_image 31 = .ok (.bastore, 1) := by decide +kernel
theorem dX9_image_32 : decode cX9_image 32 = .ok (.iconst 1, 1) := by decide +kernel
theorem dX9_image_33 : decode cX9_image 33 = .ok (.ireturn, 1) := by decide +kernel
theorem dX9_restore_0 : decode cX9_restore 0 = .ok (.iload_n 1, 1) := by decide +kernel
theorem dX9_restore_1 : decode cX9_restore 1 = .ok (.iconst 0, 1) := by decide +kernel
theorem dX9_restore_2 : decode cX9_restore 2 = .ok (.iconst 1, 1) := by decide +kernel
theorem dX9_restore_3 : decode cX9_restore 3 = .ok (.invokestatic 64, 3) := by decide +kernel
theorem dX9_restore_6 : decode cX9_restore 6 = .ok (.ifCond .ne 6, 3) := by decide +kernel
theorem dX9_restore_9 : decode cX9_restore 9 = .ok (.bipush (-2), 2) := by decide +kernel
theorem dX9_restore_11 : decode cX9_restore 11 = .ok (.ireturn, 1) := by decide +kernel
theorem dX9_restore_12 : decode cX9_restore 12 = .ok (.aload_n 0, 1) := by decide +kernel
theorem dX9_restore_13 : decode cX9_restore 13 = .ok (.getfield 20, 3) := by decide +kernel
theorem dX9_restore_16 : decode cX9_restore 16 = .ok (.iload_n 1, 1) := by decide +kernel
theorem dX9_restore_17 : decode cX9_restore 17 = .ok (.baload, 1) := by decide +kernel
theorem dX9_restore_18 : decode cX9_restore 18 = .ok (.ifCond .ne 6, 3) := by decide +kernel
theorem dX9_restore_21 : decode cX9_restore 21 = .ok (.bipush (-3), 2) := by decide +kernel
theorem dX9_restore_23 : decode cX9_restore 23 = .ok (.ireturn, 1) := by decide +kernel
theorem dX9_restore_24 : decode cX9_restore 24 = .ok (.aload_n 0, 1) := by decide +kernel
theorem dX9_restore_25 : decode cX9_restore 25 = .ok (.getfield 12, 3) := by decide +kernel
theorem dX9_restore_28 : decode cX9_restore 28 = .ok (.aload_n 0, 1) := by decide +kernel
theorem dX9_restore_29 : decode cX9_restore 29 = .ok (.getfield 16, 3) := by decide +kernel
theorem dX9_restore_32 : decode cX9_restore 32 = .ok (.iload_n 1, 1) := by decide +kernel
theorem dX9_restore_33 : decode cX9_restore 33 = .ok (.aaload, 1) := by decide +kernel
theorem dX9_restore_34 : decode cX9_restore 34 = .ok (.invokevirtual 228, 3) := by decide +kernel
theorem dX9_restore_37 : decode cX9_restore 37 = .ok (.aload_n 0, 1) := by decide +kernel
theorem dX9_restore_38 : decode cX9_restore 38 = .ok (.invokevirtual 125, 3) := by decide +kernel
theorem dX9_restore_41 : decode cX9_restore 41 = .ok (.iconst 1, 1) := by decide +kernel
theorem dX9_restore_42 : decode cX9_restore 42 = .ok (.ireturn, 1) := by decide +kernel
theorem dX9_told_0 : decode cX9_told 0 = .ok (.iload_n 1, 1) := by decide +kernel
theorem dX9_told_1 : decode cX9_told 1 = .ok (.iconst 0, 1) := by decide +kernel
theorem dX9_told_2 : decode cX9_told 2 = .ok (.bipush 10, 2) := by decide +kernel
theorem dX9_told_4 : decode cX9_told 4 = .ok (.invokestatic 64, 3) := by decide +kernel
theorem dX9_told_7 : decode cX9_told 7 = .ok (.ifCond .ne 6, 3) := by decide +kernel
theorem dX9_told_10 : decode cX9_told 10 = .ok (.bipush (-2), 2) := by decide +kernel
theorem dX9_told_12 : decode cX9_told 12 = .ok (.ireturn, 1) := by decide +kernel
theorem dX9_told_13 : decode cX9_told 13 = .ok (.iload_n 1, 1) := by decide +kernel
theorem dX9_told_14 : decode cX9_told 14 = .ok (.ifCond .ne 11, 3) := by decide +kernel
theorem dX9_told_17 : decode cX9_told 17 = .ok (.aload_n 0, 1) := by decide +kernel
theorem dX9_told_18 : decode cX9_told 18 = .ok (.getfield 47, 3) := by decide +kernel
theorem dX9_told_21 : decode cX9_told 21 = .ok (.getfield 154, 3) := by decide +kernel
theorem dX9_told_24 : decode cX9_told 24 = .ok (.ireturn, 1) := by decide +kernel
theorem dX9_told_25 : decode cX9_told 25 = .ok (.iload_n 1, 1) := by decide +kernel
theorem dX9_told_26 : decode cX9_told 26 = .ok (.iconst 2, 1) := by decide +kernel
theorem dX9_told_27 : decode cX9_told 27 = .ok (.if_icmp .gt 18, 3) := by decide +kernel
theorem dX9_told_30 : decode cX9_told 30 = .ok (.aload_n 0, 1) := by decide +kernel
theorem dX9_told_31 : decode cX9_told 31 = .ok (.getfield 12, 3) := by decide +kernel
theorem dX9_told_34 : decode cX9_told 34 = .ok (.getfield 33, 3) := by decide +kernel
theorem dX9_told_37 : decode cX9_told 37 = .ok (.iload_n 1, 1) := by decide +kernel
theorem dX9_told_38 : decode cX9_told 38 = .ok (.iconst 1, 1) := by decide +kernel
theorem dX9_told_39 : decode cX9_told 39 = .ok (.isub, 1) := by decide +kernel
theorem dX9_told_40 : decode cX9_told 40 = .ok (.aaload, 1) := by decide +kernel
theorem dX9_told_41 : decode cX9_told 41 = .ok (.getfield 89, 3) := by decide +kernel
theorem dX9_told_44 : decode cX9_told 44 = .ok (.ireturn, 1) := by decide +kernel
theorem dX9_told_45 : decode cX9_told 45 = .ok (.iload_n 1, 1) := by decide +kernel
theorem dX9_told_46 : decode cX9_told 46 = .ok (.iconst 4, 1) := by decide +kernel
theorem dX9_told_47 : decode cX9_told 47 = .ok (.if_icmp .gt 18, 3) := by decide +kernel
theorem dX9_told_50 : decode cX9_told 50 = .ok (.aload_n 0, 1) := by decide +kernel
theorem dX9_told_51 : decode cX9_told 51 = .ok (.getfield 12, 3) := by decide +kernel
theorem dX9_told_54 : decode cX9_told 54 = .ok (.getfield 33, 3) := by decide +kernel
theorem dX9_told_57 : decode cX9_told 57 = .ok (.iload_n 1, 1) := by decide +kernel
theorem dX9_told_58 : decode cX9_told 58 = .ok (.iconst 3, 1) := by decide +kernel
theorem dX9_told_59 : decode cX9_told 59 = .ok (.isub, 1) := by decide +kernel
theorem dX9_told_60 : decode cX9_told 60 = .ok (.aaload, 1) := by decide +kernel
theorem dX9_told_61 : decode cX9_told 61 = .ok (.getfield 85, 3) := by decide +kernel
theorem dX9_told_64 : decode cX9_told 64 = .ok (.ireturn, 1) := by decide +kernel
theorem dX9_told_65 : decode cX9_told 65 = .ok (.iload_n 1, 1) := by decide +kernel
theorem dX9_told_66 : decode cX9_told 66 = .ok (.bipush 7, 2) := by decide +kernel
theorem dX9_told_68 : decode cX9_told 68 = .ok (.if_icmp .gt 20, 3) := by decide +kernel
theorem dX9_told_71 : decode cX9_told 71 = .ok (.aload_n 0, 1) := by decide +kernel
theorem dX9_told_72 : decode cX9_told 72 = .ok (.getfield 12, 3) := by decide +kernel
theorem dX9_told_75 : decode cX9_told 75 = .ok (.getfield 37, 3) := by decide +kernel
theorem dX9_told_78 : decode cX9_told 78 = .ok (.getfield 232, 3) := by decide +kernel
theorem dX9_told_81 : decode cX9_told 81 = .ok (.iload_n 1, 1) := by decide +kernel
theorem dX9_told_82 : decode cX9_told 82 = .ok (.iconst 4, 1) := by decide +kernel
theorem dX9_told_83 : decode cX9_told 83 = .ok (.isub, 1) := by decide +kernel
theorem dX9_told_84 : decode cX9_told 84 = .ok (.iaload, 1) := by decide +kernel
theorem dX9_told_85 : decode cX9_told 85 = .ok (.goto 18, 3) := by decide +kernel
theorem dX9_told_88 : decode cX9_told 88 = .ok (.aload_n 0, 1) := by decide +kernel
theorem dX9_told_89 : decode cX9_told 89 = .ok (.getfield 12, 3) := by decide +kernel
theorem dX9_told_92 : decode cX9_told 92 = .ok (.getfield 37, 3) := by decide +kernel
theorem dX9_told_95 : decode cX9_told 95 = .ok (.getfield 235, 3) := by decide +kernel
theorem dX9_told_98 : decode cX9_told 98 = .ok (.iload_n 1, 1) := by decide +kernel
theorem dX9_told_99 : decode cX9_told 99 = .ok (.bipush 7, 2) := by decide +kernel
theorem dX9_told_101 : decode cX9_told 101 = .ok (.isub, 1) := by decide +kernel
theorem dX9_told_102 : decode cX9_told 102 = .ok (.iaload, 1) := by decide +kernel
theorem dX9_told_103 : decode cX9_told 103 = .ok (.ireturn, 1) := by decide +kernel
theorem dX9_within_0 : decode cX9_within 0 = .ok (.iload_n 0, 1) := by decide +kernel
theorem dX9_within_1 : decode cX9_within 1 = .ok (.iload_n 1, 1) := by decide +kernel
theorem dX9_within_2 : decode cX9_within 2 = .ok (.if_icmp .lt 12, 3) := by decide +kernel
theorem dX9_within_5 : decode cX9_within 5 = .ok (.iload_n 0, 1) := by decide +kernel
theorem dX9_within_6 : decode cX9_within 6 = .ok (.iload_n 2, 1) := by decide +kernel
theorem dX9_within_7 : decode cX9_within 7 = .ok (.if_icmp .gt 7, 3) := by decide +kernel
theorem dX9_within_10 : decode cX9_within 10 = .ok (.iconst 1, 1) := by decide +kernel
theorem dX9_within_11 : decode cX9_within 11 = .ok (.goto 4, 3) := by decide +kernel
theorem dX9_within_14 : decode cX9_within 14 = .ok (.iconst 0, 1) := by decide +kernel
theorem dX9_within_15 : decode cX9_within 15 = .ok (.ireturn, 1) := by decide +kernel
theorem dX9_isOwed_0 : decode cX9_isOwed 0 = .ok (.iload_n 0, 1) := by decide +kernel
theorem dX9_isOwed_1 : decode cX9_isOwed 1 = .ok (.iconst 0, 1) := by decide +kernel
theorem dX9_isOwed_2 : decode cX9_isOwed 2 = .ok (.bipush 20, 2) := by decide +kernel
theorem dX9_isOwed_4 : decode cX9_isOwed 4 = .ok (.invokestatic 64, 3) := by decide +kernel
theorem dX9_isOwed_7 : decode cX9_isOwed 7 = .ok (.ireturn, 1) := by decide +kernel
theorem dX9_isBattery_0 : decode cX9_isBattery 0 = .ok (.iload_n 0, 1) := by decide +kernel
theorem dX9_isBattery_1 : decode cX9_isBattery 1 = .ok (.iconst 0, 1) := by decide +kernel
theorem dX9_isBattery_2 : decode cX9_isBattery 2 = .ok (.bipush 24, 2) := by decide +kernel
theorem dX9_isBattery_4 : decode cX9_isBattery 4 = .ok (.invokestatic 64, 3) := by decide +kernel
theorem dX9_isBattery_7 : decode cX9_isBattery 7 = .ok (.ireturn, 1) := by decide +kernel
theorem dX9_isThing_0 : decode cX9_isThing 0 = .ok (.iload_n 0, 1) := by decide +kernel
theorem dX9_isThing_1 : decode cX9_isThing 1 = .ok (.iconst 0, 1) := by decide +kernel
theorem dX9_isThing_2 : decode cX9_isThing 2 = .ok (.iconst 4, 1) := by decide +kernel
theorem dX9_isThing_3 : decode cX9_isThing 3 = .ok (.invokestatic 64, 3) := by decide +kernel
theorem dX9_isThing_6 : decode cX9_isThing 6 = .ok (.ireturn, 1) := by decide +kernel
theorem dX9_wayOf_0 : decode cX9_wayOf 0 = .ok (.iload_n 1, 1) := by decide +kernel
theorem dX9_wayOf_1 : decode cX9_wayOf 1 = .ok (.iconst 0, 1) := by decide +kernel
theorem dX9_wayOf_2 : decode cX9_wayOf 2 = .ok (.iconst 1, 1) := by decide +kernel
theorem dX9_wayOf_3 : decode cX9_wayOf 3 = .ok (.invokestatic 64, 3) := by decide +kernel
theorem dX9_wayOf_6 : decode cX9_wayOf 6 = .ok (.ifCond .eq 15, 3) := by decide +kernel
theorem dX9_wayOf_9 : decode cX9_wayOf 9 = .ok (.aload_n 0, 1) := by decide +kernel
theorem dX9_wayOf_10 : decode cX9_wayOf 10 = .ok (.getfield 12, 3) := by decide +kernel
theorem dX9_wayOf_13 : decode cX9_wayOf 13 = .ok (.getfield 33, 3) := by decide +kernel
theorem dX9_wayOf_16 : decode cX9_wayOf 16 = .ok (.iload_n 1, 1) := by decide +kernel
theorem dX9_wayOf_17 : decode cX9_wayOf 17 = .ok (.aaload, 1) := by decide +kernel
theorem dX9_wayOf_18 : decode cX9_wayOf 18 = .ok (.goto 4, 3) := by decide +kernel
theorem dX9_wayOf_21 : decode cX9_wayOf 21 = .ok (.aconst_null, 1) := by decide +kernel
theorem dX9_wayOf_22 : decode cX9_wayOf 22 = .ok (.areturn, 1) := by decide +kernel
theorem dX9_planOf_0 : decode cX9_planOf 0 = .ok (.iload_n 1, 1) := by decide +kernel
theorem dX9_planOf_1 : decode cX9_planOf 1 = .ok (.iconst 0, 1) := by decide +kernel
theorem dX9_planOf_2 : decode cX9_planOf 2 = .ok (.iconst 1, 1) := by decide +kernel
theorem dX9_planOf_3 : decode cX9_planOf 3 = .ok (.invokestatic 64, 3) := by decide +kernel
theorem dX9_planOf_6 : decode cX9_planOf 6 = .ok (.ifCond .eq 12, 3) := by decide +kernel
theorem dX9_planOf_9 : decode cX9_planOf 9 = .ok (.aload_n 0, 1) := by decide +kernel
theorem dX9_planOf_10 : decode cX9_planOf 10 = .ok (.getfield 26, 3) := by decide +kernel
theorem dX9_planOf_13 : decode cX9_planOf 13 = .ok (.iload_n 1, 1) := by decide +kernel
theorem dX9_planOf_14 : decode cX9_planOf 14 = .ok (.aaload, 1) := by decide +kernel
theorem dX9_planOf_15 : decode cX9_planOf 15 = .ok (.goto 4, 3) := by decide +kernel
theorem dX9_planOf_18 : decode cX9_planOf 18 = .ok (.aconst_null, 1) := by decide +kernel
theorem dX9_planOf_19 : decode cX9_planOf 19 = .ok (.areturn, 1) := by decide +kernel
theorem dX9_forgetPlans_0 : decode cX9_forgetPlans 0 = .ok (.iconst 0, 1) := by decide +kernel
theorem dX9_forgetPlans_1 : decode cX9_forgetPlans 1 = .ok (.istore_n 1, 1) := by decide +kernel
theorem dX9_forgetPlans_2 : decode cX9_forgetPlans 2 = .ok (.iload_n 1, 1) := by decide +kernel
theorem dX9_forgetPlans_3 : decode cX9_forgetPlans 3 = .ok (.iconst 2, 1) := by decide +kernel
theorem dX9_forgetPlans_4 : decode cX9_forgetPlans 4 = .ok (.if_icmp .ge 18, 3) := by decide +kernel
theorem dX9_forgetPlans_7 : decode cX9_forgetPlans 7 = .ok (.aload_n 0, 1) := by decide +kernel
theorem dX9_forgetPlans_8 : decode cX9_forgetPlans 8 = .ok (.getfield 26, 3) := by decide +kernel
theorem dX9_forgetPlans_11 : decode cX9_forgetPlans 11 = .ok (.iload_n 1, 1) := by decide +kernel
theorem dX9_forgetPlans_12 : decode cX9_forgetPlans 12 = .ok (.aaload, 1) := by decide +kernel
theorem dX9_forgetPlans_13 : decode cX9_forgetPlans 13 = .ok (.invokevirtual 82, 3) := by decide +kernel
theorem dX9_forgetPlans_16 : decode cX9_forgetPlans 16 = .ok (.iinc 1 1, 3) := by decide +kernel
theorem dX9_forgetPlans_19 : decode cX9_forgetPlans 19 = .ok (.goto (-17), 3) := by decide +kernel
theorem dX9_forgetPlans_22 : decode cX9_forgetPlans 22 = .ok (.return_, 1) := by decide +kernel
theorem dX9_getsUp_0 : decode cX9_getsUp 0 = .ok (.sipush 1000, 3) := by decide +kernel
theorem dX9_getsUp_3 : decode cX9_getsUp 3 = .ok (.iconst 1, 1) := by decide +kernel
theorem dX9_getsUp_4 : decode cX9_getsUp 4 = .ok (.bipush 10, 2) := by decide +kernel
theorem dX9_getsUp_6 : decode cX9_getsUp 6 = .ok (.iload_n 2, 1) := by decide +kernel
theorem dX9_getsUp_7 : decode cX9_getsUp 7 = .ok (.imul, 1) := by decide +kernel
theorem dX9_getsUp_8 : decode cX9_getsUp 8 = .ok (.iadd, 1) := by decide +kernel
theorem dX9_getsUp_9 : decode cX9_getsUp 9 = .ok (.imul, 1) := by decide +kernel
theorem dX9_getsUp_10 : decode cX9_getsUp 10 = .ok (.iload_n 0, 1) := by decide +kernel
theorem dX9_getsUp_11 : decode cX9_getsUp 11 = .ok (.iload_n 1, 1) := by decide +kernel
theorem dX9_getsUp_12 : decode cX9_getsUp 12 = .ok (.imul, 1) := by decide +kernel
theorem dX9_getsUp_13 : decode cX9_getsUp 13 = .ok (.if_icmp .gt 7, 3) := by decide +kernel
theorem dX9_getsUp_16 : decode cX9_getsUp 16 = .ok (.iconst 1, 1) := by decide +kernel
theorem dX9_getsUp_17 : decode cX9_getsUp 17 = .ok (.goto 4, 3) := by decide +kernel
theorem dX9_getsUp_20 : decode cX9_getsUp 20 = .ok (.iconst 0, 1) := by decide +kernel
theorem dX9_getsUp_21 : decode cX9_getsUp 21 = .ok (.ireturn, 1) := by decide +kernel
theorem dX9_isNight_0 : decode cX9_isNight 0 = .ok (.iload_n 0, 1) := by decide +kernel
theorem dX9_isNight_1 : decode cX9_isNight 1 = .ok (.bipush 24, 2) := by decide +kernel
theorem dX9_isNight_3 : decode cX9_isNight 3 = .ok (.irem, 1) := by decide +kernel
theorem dX9_isNight_4 : decode cX9_isNight 4 = .ok (.bipush 12, 2) := by decide +kernel
theorem dX9_isNight_6 : decode cX9_isNight 6 = .ok (.if_icmp .lt 7, 3) := by decide +kernel
theorem dX9_isNight_9 : decode cX9_isNight 9 = .ok (.iconst 1, 1) := by decide +kernel
theorem dX9_isNight_10 : decode cX9_isNight 10 = .ok (.goto 4, 3) := by decide +kernel
theorem dX9_isNight_13 : decode cX9_isNight 13 = .ok (.iconst 0, 1) := by decide +kernel
theorem dX9_isNight_14 : decode cX9_isNight 14 = .ok (.ireturn, 1) := by decide +kernel
theorem dX9_hoursOf_0 : decode cX9_hoursOf 0 = .ok (.iload_n 0, 1) := by decide +kernel
theorem dX9_hoursOf_1 : decode cX9_hoursOf 1 = .ok (.iconst 4, 1) := by decide +kernel
theorem dX9_hoursOf_2 : decode cX9_hoursOf 2 = .ok (.if_icmp .ne 5, 3) := by decide +kernel
theorem dX9_hoursOf_5 : decode cX9_hoursOf 5 = .ok (.iconst 0, 1) := by decide +kernel
theorem dX9_hoursOf_6 : decode cX9_hoursOf 6 = .ok (.ireturn, 1) := by decide +kernel
theorem dX9_hoursOf_7 : decode cX9_hoursOf 7 = .ok (.iload_n 0, 1) := by decide +kernel
theorem dX9_hoursOf_8 : decode cX9_hoursOf 8 = .ok (.iconst 3, 1) := by decide +kernel
theorem dX9_hoursOf_9 : decode cX9_hoursOf 9 = .ok (.if_icmp .ne 7, 3) := by decide +kernel
theorem dX9_hoursOf_12 : decode cX9_hoursOf 12 = .ok (.iconst 2, 1) := by decide +kernel
theorem dX9_hoursOf_13 : decode cX9_hoursOf 13 = .ok (.goto 4, 3) := by decide +kernel
theorem dX9_hoursOf_16 : decode cX9_hoursOf 16 = .ok (.iconst 1, 1) := by decide +kernel
theorem dX9_hoursOf_17 : decode cX9_hoursOf 17 = .ok (.ireturn, 1) := by decide +kernel
theorem dX9_batteryOf_0 : decode cX9_batteryOf 0 = .ok (.iload_n 0, 1) := by decide +kernel
theorem dX9_batteryOf_1 : decode cX9_batteryOf 1 = .ok (.iconst 2, 1) := by decide +kernel
theorem dX9_batteryOf_2 : decode cX9_batteryOf 2 = .ok (.irem, 1) := by decide +kernel
theorem dX9_batteryOf_3 : decode cX9_batteryOf 3 = .ok (.ifCond .ne 5, 3) := by decide +kernel
theorem dX9_batteryOf_6 : decode cX9_batteryOf 6 = .ok (.iconst 0, 1) := by decide +kernel
theorem dX9_batteryOf_7 : decode cX9_batteryOf 7 = .ok (.ireturn, 1) := by decide +kernel
theorem dX9_batteryOf_8 : decode cX9_batteryOf 8 = .ok (.iload_n 0, 1) := by decide +kernel
theorem dX9_batteryOf_9 : decode cX9_batteryOf 9 = .ok (.iconst 2, 1) := by decide +kernel
theorem dX9_batteryOf_10 : decode cX9_batteryOf 10 = .ok (.idiv, 1) := by decide +kernel
theorem dX9_batteryOf_11 : decode cX9_batteryOf 11 = .ok (.iconst 3, 1) := by decide +kernel
theorem dX9_batteryOf_12 : decode cX9_batteryOf 12 = .ok (.if_icmp .ne 7, 3) := by decide +kernel
theorem dX9_batteryOf_15 : decode cX9_batteryOf 15 = .ok (.iconst 2, 1) := by decide +kernel
theorem dX9_batteryOf_16 : decode cX9_batteryOf 16 = .ok (.goto 4, 3) := by decide +kernel
theorem dX9_batteryOf_19 : decode cX9_batteryOf 19 = .ok (.iconst 1, 1) := by decide +kernel
theorem dX9_batteryOf_20 : decode cX9_batteryOf 20 = .ok (.ireturn, 1) := by decide +kernel
theorem dX9_codeOf_0 : decode cX9_codeOf 0 = .ok (.iload_n 0, 1) := by decide +kernel
theorem dX9_codeOf_1 : decode cX9_codeOf 1 = .ok (.ifCond .ge 8, 3) := by decide +kernel
theorem dX9_codeOf_4 : decode cX9_codeOf 4 = .ok (.bipush (-6), 2) := by decide +kernel
theorem dX9_codeOf_6 : decode cX9_codeOf 6 = .ok (.goto 13, 3) := by decide +kernel
theorem dX9_codeOf_9 : decode cX9_codeOf 9 = .ok (.iload_n 0, 1) := by decide +kernel
theorem dX9_codeOf_10 : decode cX9_codeOf 10 = .ok (.iconst 2, 1) := by decide +kernel
theorem dX9_codeOf_11 : decode cX9_codeOf 11 = .ok (.idiv, 1) := by decide +kernel
theorem dX9_codeOf_12 : decode cX9_codeOf 12 = .ok (.bipush 10, 2) := by decide +kernel
theorem dX9_codeOf_14 : decode cX9_codeOf 14 = .ok (.iload_n 0, 1) := by decide +kernel
theorem dX9_codeOf_15 : decode cX9_codeOf 15 = .ok (.iconst 2, 1) := by decide +kernel
theorem dX9_codeOf_16 : decode cX9_codeOf 16 = .ok (.irem, 1) := by decide +kernel
theorem dX9_codeOf_17 : decode cX9_codeOf 17 = .ok (.imul, 1) := by decide +kernel
theorem dX9_codeOf_18 : decode cX9_codeOf 18 = .ok (.iadd, 1) := by decide +kernel
theorem dX9_codeOf_19 : decode cX9_codeOf 19 = .ok (.ireturn, 1) := by decide +kernel
theorem dX9_lessened_0 : decode cX9_lessened 0 = .ok (.iload_n 0, 1) := by decide +kernel
theorem dX9_lessened_1 : decode cX9_lessened 1 = .ok (.i2l, 1) := by decide +kernel
theorem dX9_lessened_2 : decode cX9_lessened 2 = .ok (.ldc 217, 2) := by decide +kernel
theorem dX9_lessened_4 : decode cX9_lessened 4 = .ok (.iload_n 1, 1) := by decide +kernel
theorem dX9_lessened_5 : decode cX9_lessened 5 = .ok (.isub, 1) := by decide +kernel
theorem dX9_lessened_6 : decode cX9_lessened 6 = .ok (.i2l, 1) := by decide +kernel
theorem dX9_lessened_7 : decode cX9_lessened 7 = .ok (.lmul, 1) := by decide +kernel
theorem dX9_lessened_8 : decode cX9_lessened 8 = .ok (.ldc2_w 238, 3) := by decide +kernel
theorem dX9_lessened_11 : decode cX9_lessened 11 = .ok (.ldiv, 1) := by decide +kernel
theorem dX9_lessened_12 : decode cX9_lessened 12 = .ok (.l2i, 1) := by decide +kernel
theorem dX9_lessened_13 : decode cX9_lessened 13 = .ok (.ireturn, 1) := by decide +kernel
end
section
theorem dX10_init_0 : decode cX10_init 0 = .ok (.aload_n 0, 1) := by decide +kernel
theorem dX10_init_1 : decode cX10_init 1 = .ok (.invokespecial 1, 3) := by decide +kernel
theorem dX10_init_4 : decode cX10_init 4 = .ok (.aload_n 0, 1) := by decide +kernel
theorem dX10_init_5 : decode cX10_init 5 = .ok (.bipush 16, 2) := by decide +kernel
theorem dX10_init_7 : decode cX10_init 7 = .ok (.newarray .int, 2) := by decide +kernel
theorem dX10_init_9 : decode cX10_init 9 = .ok (.putfield 7, 3) := by decide +kernel
theorem dX10_init_12 : decode cX10_init 12 = .ok (.aload_n 0, 1) := by decide +kernel
theorem dX10_init_13 : decode cX10_init 13 = .ok (.bipush 16, 2) := by decide +kernel
theorem dX10_init_15 : decode cX10_init 15 = .ok (.newarray .int, 2) := by decide +kernel
theorem dX10_init_17 : decode cX10_init 17 = .ok (.putfield 13, 3) := by decide +kernel
theorem dX10_init_20 : decode cX10_init 20 = .ok (.aload_n 0, 1) := by decide +kernel
theorem dX10_init_21 : decode cX10_init 21 = .ok (.bipush 16, 2) := by decide +kernel
theorem dX10_init_23 : decode cX10_init 23 = .ok (.newarray .int, 2) := by decide +kernel
theorem dX10_init_25 : decode cX10_init 25 = .ok (.putfield 16, 3) := by decide +kernel
theorem dX10_init_28 : decode cX10_init 28 = .ok (.aload_n 0, 1) := by decide +kernel
theorem dX10_init_29 : decode cX10_init 29 = .ok (.iconst 2, 1) := by decide +kernel
theorem dX10_init_30 : decode cX10_init 30 = .ok (.newarray .int, 2) := by decide +kernel
theorem dX10_init_32 : decode cX10_init 32 = .ok (.putfield 19, 3) := by decide +kernel
theorem dX10_init_35 : decode cX10_init 35 = .ok (.aload_n 0, 1) := by decide +kernel
theorem dX10_init_36 : decode cX10_init 36 = .ok (.iconst 2, 1) := by decide +kernel
theorem dX10_init_37 : decode cX10_init 37 = .ok (.newarray .int, 2) := by decide +kernel
theorem dX10_init_39 : decode cX10_init 39 = .ok (.putfield 22, 3) := by decide +kernel
theorem dX10_init_42 : decode cX10_init 42 = .ok (.aload_n 0, 1) := by decide +kernel
theorem dX10_init_43 : decode cX10_init 43 = .ok (.bipush 96, 2) := by decide +kernel
theorem dX10_init_45 : decode cX10_init 45 = .ok (.newarray .int, 2) := by decide +kernel
theorem dX10_init_47 : decode cX10_init 47 = .ok (.putfield 25, 3) := by decide +kernel
theorem dX10_init_50 : decode cX10_init 50 = .ok (.aload_n 0, 1) := by decide +kernel
theorem dX10_init_51 : decode cX10_init 51 = .ok (.bipush 96, 2) := by decide +kernel
theorem dX10_init_53 : decode cX10_init 53 = .ok (.newarray .int, 2) := by decide +kernel
theorem dX10_init_55 : decode cX10_init 55 = .ok (.putfield 28, 3) := by decide +kernel
theorem dX10_init_58 : decode cX10_init 58 = .ok (.aload_n 0, 1) := by decide +kernel
theorem dX10_init_59 : decode cX10_init 59 = .ok (.iconst 3, 1) := by decide +kernel
theorem dX10_init_60 : decode cX10_init 60 = .ok (.newarray .int, 2) := by decide +kernel
theorem dX10_init_62 : decode cX10_init 62 = .ok (.putfield 31, 3) := by decide +kernel
theorem dX10_init_65 : decode cX10_init 65 = .ok (.aload_n 0, 1) := by decide +kernel
theorem dX10_init_66 : decode cX10_init 66 = .ok (.iconst 3, 1) := by decide +kernel
theorem dX10_init_67 : decode cX10_init 67 = .ok (.newarray .int, 2) := by decide +kernel
theorem dX10_init_69 : decode cX10_init 69 = .ok (.putfield 34, 3) := by decide +kernel
theorem dX10_init_72 : decode cX10_init 72 = .ok (.aload_n 0, 1) := by decide +kernel
theorem dX10_init_73 : decode cX10_init 73 = .ok (.bipush 60, 2) := by decide +kernel
theorem dX10_init_75 : decode cX10_init 75 = .ok (.newarray .int, 2) := by decide +kernel
theorem dX10_init_77 : decode cX10_init 77 = .ok (.putfield 37, 3) := by decide +kernel
theorem dX10_init_80 : decode cX10_init 80 = .ok (.aload_n 0, 1) := by decide +kernel
theorem dX10_init_81 : decode cX10_init 81 = .ok (.sipush 130, 3) := by decide +kernel
theorem dX10_init_84 : decode cX10_init 84 = .ok (.newarray .int, 2) := by decide +kernel
theorem dX10_init_86 : decode cX10_init 86 = .ok (.putfield 40, 3) := by decide +kernel
theorem dX10_init_89 : decode cX10_init 89 = .ok (.aload_n 0, 1) := by decide +kernel
theorem dX10_init_90 : decode cX10_init 90 = .ok (.sipush 130, 3) := by decide +kernel
theorem dX10_init_93 : decode cX10_init 93 = .ok (.newarray .int, 2) := by decide +kernel
theorem dX10_init_95 : decode cX10_init 95 = .ok (.putfield 43, 3) := by decide +kernel
theorem dX10_init_98 : decode cX10_init 98 = .ok (.aload_n 0, 1) := by decide +kernel
theorem dX10_init_99 : decode cX10_init 99 = .ok (.sipush 130, 3) := by decide +kernel
theorem dX10_init_102 : decode cX10_init 102 = .ok (.newarray .int, 2) := by decide +kernel
theorem dX10_init_104 : decode cX10_init 104 = .ok (.putfield 46, 3) := by decide +kernel
theorem dX10_init_107 : decode cX10_init 107 = .ok (.aload_n 0, 1) := by decide +kernel
theorem dX10_init_108 : decode cX10_init 108 = .ok (.ldc 49, 2) := by decide +kernel
theorem dX10_init_110 : decode cX10_init 110 = .ok (.newarray .int, 2) := by decide +kernel
theorem dX10_init_112 : decode cX10_init 112 = .ok (.putfield 50, 3) := by decide +kernel
theorem dX10_init_115 : decode cX10_init 115 = .ok (.aload_n 0, 1) := by decide +kernel
theorem dX10_init_116 : decode cX10_init 116 = .ok (.iconst 2, 1) := by decide +kernel
theorem dX10_init_117 : decode cX10_init 117 = .ok (.newarray .boolean, 2) := by decide +kernel
theorem dX10_init_119 : decode cX10_init 119 = .ok (.putfield 53, 3) := by decide +kernel
theorem dX10_init_122 : decode cX10_init 122 = .ok (.aload_n 0, 1) := by decide +kernel
theorem dX10_init_123 : decode cX10_init 123 = .ok (.iconst 2, 1) := by decide +kernel
theorem dX10_init_124 : decode cX10_init 124 = .ok (.newarray .int, 2) := by decide +kernel
theorem dX10_init_126 : decode cX10_init 126 = .ok (.putfield 57, 3) := by decide +kernel
theorem dX10_init_129 : decode cX10_init 129 = .ok (.aload_n 0, 1) := by decide +kernel
theorem dX10_init_130 : decode cX10_init 130 = .ok (.bipush 120, 2) := by decide +kernel
theorem dX10_init_132 : decode cX10_init 132 = .ok (.newarray .int, 2) := by decide +kernel
theorem dX10_init_134 : decode cX10_init 134 = .ok (.putfield 60, 3) := by decide +kernel
theorem dX10_init_137 : decode cX10_init 137 = .ok (.aload_n 0, 1) := by decide +kernel
theorem dX10_init_138 : decode cX10_init 138 = .ok (.iconst 2, 1) := by decide +kernel
theorem dX10_init_139 : decode cX10_init 139 = .ok (.newarray .boolean, 2) := by decide +kernel
theorem dX10_init_141 : decode cX10_init 141 = .ok (.putfield 63, 3) := by decide +kernel
theorem dX10_init_144 : decode cX10_init 144 = .ok (.aload_n 0, 1) := by decide +kernel
theorem dX10_init_145 : decode cX10_init 145 = .ok (.getfield 31, 3) := by decide +kernel
theorem dX10_init_148 : decode cX10_init 148 = .ok (.iconst 0, 1) := by decide +kernel
theorem dX10_init_149 : decode cX10_init 149 = .ok (.iconst 1, 1) := by decide +kernel
theorem dX10_init_150 : decode cX10_init 150 = .ok (.iastore, 1) := by decide +kernel
theorem dX10_init_151 : decode cX10_init 151 = .ok (.aload_n 0, 1) := by decide +kernel
theorem dX10_init_152 : decode cX10_init 152 = .ok (.getfield 31, 3) := by decide +kernel
theorem dX10_init_155 : decode cX10_init 155 = .ok (.iconst 1, 1) := by decide +kernel
theorem dX10_init_156 : decode cX10_init 156 = .ok (.iconst 2, 1) := by decide +kernel
theorem dX10_init_157 : decode cX10_init 157 = .ok (.iastore, 1) := by decide +kernel
theorem dX10_init_158 : decode cX10_init 158 = .ok (.aload_n 0, 1) := by decide +kernel
theorem dX10_init_159 : decode cX10_init 159 = .ok (.getfield 31, 3) := by decide +kernel
theorem dX10_init_162 : decode cX10_init 162 = .ok (.iconst 2, 1) := by decide +kernel
theorem dX10_init_163 : decode cX10_init 163 = .ok (.bipush 6, 2) := by decide +kernel
theorem dX10_init_165 : decode cX10_init 165 = .ok (.iastore, 1) := by decide +kernel
theorem dX10_init_166 : decode cX10_init 166 = .ok (.aload_n 0, 1) := by decide +kernel
theorem dX10_init_167 : decode cX10_init 167 = .ok (.getfield 34, 3) := by decide +kernel
theorem dX10_init_170 : decode cX10_init 170 = .ok (.iconst 0, 1) := by decide +kernel
theorem dX10_init_171 : decode cX10_init 171 = .ok (.sipush 200, 3) := by decide +kernel
theorem dX10_init_174 : decode cX10_init 174 = .ok (.iastore, 1) := by decide +kernel
theorem dX10_init_175 : decode cX10_init 175 = .ok (.aload_n 0, 1) := by decide +kernel
theorem dX10_init_176 : decode cX10_init 176 = .ok (.getfield 34, 3) := by decide +kernel
theorem dX10_init_179 : decode cX10_init 179 = .ok (.iconst 1, 1) := by decide +kernel
theorem dX10_init_180 : decode cX10_init 180 = .ok (.sipush 500, 3) := by decide +kernel
theorem dX10_init_183 : decode cX10_init 183 = .ok (.iastore, 1) := by decide +kernel
theorem dX10_init_184 : decode cX10_init 184 = .ok (.aload_n 0, 1) := by decide +kernel
theorem dX10_init_185 : decode cX10_init 185 = .ok (.getfield 34, 3) := by decide +kernel
theorem dX10_init_188 : decode cX10_init 188 = .ok (.iconst 2, 1) := by decide +kernel
theorem dX10_init_189 : decode cX10_init 189 = .ok (.sipush 800, 3) := by decide +kernel
theorem dX10_init_192 : decode cX10_init 192 = .ok (.iastore, 1) := by decide +kernel
theorem dX10_init_193 : decode cX10_init 193 = .ok (.return_, 1) := by decide +kernel
theorem dX10_in_0 : decode cX10_in 0 = .ok (.lload_n 0, 1) := by decide +kernel
theorem dX10_in_1 : decode cX10_in 1 = .ok (.lload_n 2, 1) := by decide +kernel
theorem dX10_in_2 : decode cX10_in 2 = .ok (.lcmp, 1) := by decide +kernel
theorem dX10_in_3 : decode cX10_in 3 = .ok (.ifCond .lt 14, 3) := by decide +kernel
theorem dX10_in_6 : decode cX10_in 6 = .ok (.lload_n 0, 1) := by decide +kernel
theorem dX10_in_7 : decode cX10_in 7 = .ok (.lload 4, 2) := by decide +kernel
theorem dX10_in_9 : decode cX10_in 9 = .ok (.lcmp, 1) := by decide +kernel
theorem dX10_in_10 : decode cX10_in 10 = .ok (.ifCond .gt 7, 3) := by decide +kernel
theorem dX10_in_13 : decode cX10_in 13 = .ok (.iconst 1, 1) := by decide +kernel
theorem dX10_in_14 : decode cX10_in 14 = .ok (.goto 4, 3) := by decide +kernel
theorem dX10_in_17 : decode cX10_in 17 = .ok (.iconst 0, 1) := by decide +kernel
theorem dX10_in_18 : decode cX10_in 18 = .ok (.ireturn, 1) := by decide +kernel
theorem dX10_isWay_0 : decode cX10_isWay 0 = .ok (.iload_n 0, 1) := by decide +kernel
theorem dX10_isWay_1 : decode cX10_isWay 1 = .ok (.i2l, 1) := by decide +kernel
theorem dX10_isWay_2 : decode cX10_isWay 2 = .ok (.lconst 0, 1) := by decide +kernel
theorem dX10_isWay_3 : decode cX10_isWay 3 = .ok (.lconst 1, 1) := by decide +kernel
theorem dX10_isWay_4 : decode cX10_isWay 4 = .ok (.invokestatic 66, 3) := by decide +kernel
theorem dX10_isWay_7 : decode cX10_isWay 7 = .ok (.ireturn, 1) := by decide +kernel
theorem dX10_isOwed_0 : decode cX10_isOwed 0 = .ok (.iload_n 0, 1) := by decide +kernel
theorem dX10_isOwed_1 : decode cX10_isOwed 1 = .ok (.i2l, 1) := by decide +kernel
theorem dX10_isOwed_2 : decode cX10_isOwed 2 = .ok (.lconst 0, 1) := by decide +kernel
theorem dX10_isOwed_3 : decode cX10_isOwed 3 = .ok (.ldc2_w 70, 3) := by decide +kernel
theorem dX10_isOwed_6 : decode cX10_isOwed 6 = .ok (.invokestatic 66, 3) := by decide +kernel
theorem dX10_isOwed_9 : decode cX10_isOwed 9 = .ok (.ireturn, 1) := by decide +kernel
theorem dX10_isBattery_0 : decode cX10_isBattery 0 = .ok (.iload_n 0, 1) := by decide +kernel
theorem dX10_isBattery_1 : decode cX10_isBattery 1 = .ok (.i2l, 1) := by decide +kernel
theorem dX10_isBattery_2 : decode cX10_isBattery 2 = .ok (.lconst 0, 1) := by decide +kernel
theorem dX10_isBattery_3 : decode cX10_isBattery 3 = .ok (.ldc2_w 72, 3) := by decide +kernel
theorem dX10_isBattery_6 : decode cX10_isBattery 6 = .ok (.invokestatic 66, 3) := by decide +kernel
theorem dX10_isBattery_9 : decode cX10_isBattery 9 = .ok (.ireturn, 1) := by decide +kernel
theorem dX10_isEnd_0 : decode cX10_isEnd 0 = .ok (.iload_n 0, 1) := by decide +kernel
theorem dX10_isEnd_1 : decode cX10_isEnd 1 = .ok (.i2l, 1) := by decide +kernel
theorem dX10_isEnd_2 : decode cX10_isEnd 2 = .ok (.lconst 0, 1) := by decide +kernel
theorem dX10_isEnd_3 : decode cX10_isEnd 3 = .ok (.lconst 1, 1) := by decide +kernel
theorem dX10_isEnd_4 : decode cX10_isEnd 4 = .ok (.invokestatic 66, 3) := by decide +kernel
theorem dX10_isEnd_7 : decode cX10_isEnd 7 = .ok (.ireturn, 1) := by decide +kernel
theorem dX10_layHours_0 : decode cX10_layHours 0 = .ok (.iconst 0, 1) := by decide +kernel
theorem dX10_layHours_1 : decode cX10_layHours 1 = .ok (.istore_n 2, 1) := by decide +kernel
theorem dX10_layHours_2 : decode cX10_layHours 2 = .ok (.iconst 0, 1) := by decide +kernel
theorem dX10_layHours_3 : decode cX10_layHours 3 = .ok (.istore_n 3, 1) := by decide +kernel
theorem dX10_layHours_4 : decode cX10_layHours 4 = .ok (.iload_n 3, 1) := by decide +kernel
theorem dX10_layHours_5 : decode cX10_layHours 5 = .ok (.aload_n 0, 1) := by decide +kernel
theorem dX10_layHours_6 : decode cX10_layHours 6 = .ok (.getfield 19, 3) := by decide +kernel
theorem dX10_layHours_9 : decode cX10_layHours 9 = .ok (.iload_n 1, 1) := by decide +kernel
theorem dX10_layHours_10 : decode cX10_layHours 10 = .ok (.iaload, 1) := by decide +kernel
theorem dX10_layHours_11 : decode cX10_layHours 11 = .ok (.if_icmp .ge 81, 3) := by decide +kernel
theorem dX10_layHours_14 : decode cX10_layHours 14 = .ok (.iconst 0, 1) := by decide +kernel
theorem dX10_layHours_15 : decode cX10_layHours 15 = .ok (.istore 4, 2) := by decide +kernel
theorem dX10_layHours_17 : decode cX10_layHours 17 = .ok (.iload 4, 2) := by decide +kernel
theorem dX10_layHours_19 : decode cX10_layHours 19 = .ok (.aload_n 0, 1) := by decide +kernel
theorem dX10_layHours_20 : decode cX10_layHours 20 = .ok (.getfield 7, 3) := by decide +kernel
theorem dX10_layHours_23 : decode cX10_layHours 23 = .ok (.bipush 8, 2) := by decide +kernel
theorem dX10_layHours_25 : decode cX10_layHours 25 = .ok (.iload_n 1, 1) := by decide +kernel
theorem dX10_layHours_26 : decode cX10_layHours 26 = .ok (.imul, 1) := by decide +kernel
theorem dX10_layHours_27 : decode cX10_layHours 27 = .ok (.iload_n 3, 1) := by decide +kernel
theorem dX10_layHours_28 : decode cX10_layHours 28 = .ok (.iadd, 1) := by decide +kernel
theorem dX10_layHours_29 : decode cX10_layHours 29 = .ok (.iaload, 1) := by decide +kernel
theorem dX10_layHours_30 : decode cX10_layHours 30 = .ok (.if_icmp .ge 56, 3) := by decide +kernel
theorem dX10_layHours_33 : decode cX10_layHours 33 = .ok (.aload_n 0, 1) := by decide +kernel
theorem dX10_layHours_34 : decode cX10_layHours 34 = .ok (.getfield 25, 3) := by decide +kernel
theorem dX10_layHours_37 : decode cX10_layHours 37 = .ok (.bipush 48, 2) := by decide +kernel
theorem dX10_layHours_39 : decode cX10_layHours 39 = .ok (.iload_n 1, 1) := by decide +kernel
theorem dX10_layHours_40 : decode cX10_layHours 40 = .ok (.imul, 1) := by decide +kernel
theorem dX10_layHours_41 : decode cX10_layHours 41 = .ok (.iload_n 2, 1) := by decide +kernel
theorem dX10_layHours_42 : decode cX10_layHours 42 = .ok (.iadd, 1) := by decide +kernel
theorem dX10_layHours_43 : decode cX10_layHours 43 = .ok (.aload_n 0, 1) := by decide +kernel
theorem dX10_layHours_44 : decode cX10_layHours 44 = .ok (.getfield 13, 3) := by decide +kernel
theorem dX10_layHours_47 : decode cX10_layHours 47 = .ok (.bipush 8, 2) := by decide +kernel
theorem dX10_layHours_49 : decode cX10_layHours 49 = .ok (.iload_n 1, 1) := by decide +kernel
theorem dX10_layHours_50 : decode cX10_layHours 50 = .ok (.imul, 1) := by decide +kernel
theorem dX10_layHours_51 : decode cX10_layHours 51 = .ok (.iload_n 3, 1) := by decide +kernel
theorem dX10_layHours_52 : decode cX10_layHours 52 = .ok (.iadd, 1) := by decide +kernel
theorem dX10_layHours_53 : decode cX10_layHours 53 = .ok (.iaload, 1) := by decide +kernel
theorem dX10_layHours_54 : decode cX10_layHours 54 = .ok (.iastore, 1) := by decide +kernel
theorem dX10_layHours_55 : decode cX10_layHours 55 = .ok (.aload_n 0, 1) := by decide +kernel
theorem dX10_layHours_56 : decode cX10_layHours 56 = .ok (.getfield 28, 3) := by decide +kernel
theorem dX10_layHours_59 : decode cX10_layHours 59 = .ok (.bipush 48, 2) := by decide +kernel
theorem dX10_layHours_61 : decode cX10_layHours 61 = .ok (.iload_n 1, 1) := by decide +kernel
theorem dX10_layHours_62 : decode cX10_layHours 62 = .ok (.imul, 1) := by decide +kernel
theorem dX10_layHours_63 : decode cX10_layHours 63 = .ok (.iload_n 2, 1) := by decide +kernel
theorem dX10_layHours_64 : decode cX10_layHours 64 = .ok (.iadd, 1) := by decide +kernel
theorem dX10_layHours_65 : decode cX10_layHours 65 = .ok (.aload_n 0, 1) := by decide +kernel
theorem dX10_layHours_66 : decode cX10_layHours 66 = .ok (.getfield 16, 3) := by decide +kernel
theorem dX10_layHours_69 : decode cX10_layHours 69 = .ok (.bipush 8, 2) := by decide +kernel
theorem dX10_layHours_71 : decode cX10_layHours 71 = .ok (.iload_n 1, 1) := by decide +kernel
theorem dX10_layHours_72 : decode cX10_layHours 72 = .ok (.imul, 1) := by decide +kernel
theorem dX10_layHours_73 : decode cX10_layHours 73 = .ok (.iload_n 3, 1) := by decide +kernel
theorem dX10_layHours_74 : decode cX10_layHours 74 = .ok (.iadd, 1) := by decide +kernel
theorem dX10_layHours_75 : decode cX10_layHours 75 = .ok (.iaload, 1) := by decide +kernel
theorem dX10_layHours_76 : decode cX10_layHours 76 = .ok (.iastore, 1) := by decide +kernel
theorem dX10_layHours_77 : decode cX10_layHours 77 = .ok (.iinc 2 1, 3) := by decide +kernel
theorem dX10_layHours_80 : decode cX10_layHours 80 = .ok (.iinc 4 1, 3) := by decide +kernel
theorem dX10_layHours_83 : decode cX10_layHours 83 = .ok (.goto (-66), 3) := by decide +kernel
theorem dX10_layHours_86 : decode cX10_layHours 86 = .ok (.iinc 3 1, 3) := by decide +kernel
theorem dX10_layHours_89 : decode cX10_layHours 89 = .ok (.goto (-85), 3) := by decide +kernel
theorem dX10_layHours_92 : decode cX10_layHours 92 = .ok (.aload_n 0, 1) := by decide +kernel
theorem dX10_layHours_93 : decode cX10_layHours 93 = .ok (.getfield 22, 3) := by decide +kernel
theorem dX10_layHours_96 : decode cX10_layHours 96 = .ok (.iload_n 1, 1) := by decide +kernel
theorem dX10_layHours_97 : decode cX10_layHours 97 = .ok (.iload_n 2, 1) := by decide +kernel
theorem dX10_layHours_98 : decode cX10_layHours 98 = .ok (.iastore, 1) := by decide +kernel
theorem dX10_layHours_99 : decode cX10_layHours 99 = .ok (.aload_n 0, 1) := by decide +kernel
theorem dX10_layHours_100 : decode cX10_layHours 100 = .ok (.getfield 53, 3) := by decide +kernel
theorem dX10_layHours_103 : decode cX10_layHours 103 = .ok (.iload_n 1, 1) := by decide +kernel
theorem dX10_layHours_104 : decode cX10_layHours 104 = .ok (.iconst 0, 1) := by decide +kernel
theorem dX10_layHours_105 : decode cX10_layHours 105 = .ok (.bastore, 1) := by decide +kernel
theorem dX10_layHours_106 : decode cX10_layHours 106 = .ok (.return_, 1) := by decide +kernel
theorem dX10_leg_0 : decode cX10_leg 0 = .ok (.iload_n 1, 1) := by decide +kernel
theorem dX10_leg_1 : decode cX10_leg 1 = .ok (.invokestatic 74, 3) := by decide +kernel
theorem dX10_leg_4 : decode cX10_leg 4 = .ok (.ifCond .ne 5, 3) := by decide +kernel
theorem dX10_leg_7 : decode cX10_leg 7 = .ok (.iconst (-1), 1) := by decide +kernel
theorem dX10_leg_8 : decode cX10_leg 8 = .ok (.ireturn, 1) := by decide +kernel
theorem dX10_leg_9 : decode cX10_leg 9 = .ok (.iload_n 2, 1) := by decide +kernel
theorem dX10_leg_10 : decode cX10_leg 10 = .ok (.i2l, 1) := by decide +kernel
theorem dX10_leg_11 : decode cX10_leg 11 = .ok (.lconst 1, 1) := by decide +kernel
theorem dX10_leg_12 : decode cX10_leg 12 = .ok (.ldc2_w 72, 3) := by decide +kernel
theorem dX10_leg_15 : decode cX10_leg 15 = .ok (.invokestatic 66, 3) := by decide +kernel
theorem dX10_leg_18 : decode cX10_leg 18 = .ok (.ifCond .eq 23, 3) := by decide +kernel
theorem dX10_leg_21 : decode cX10_leg 21 = .ok (.iload_n 3, 1) := by decide +kernel
theorem dX10_leg_22 : decode cX10_leg 22 = .ok (.i2l, 1) := by decide +kernel
theorem dX10_leg_23 : decode cX10_leg 23 = .ok (.lconst 0, 1) := by decide +kernel
theorem dX10_leg_24 : decode cX10_leg 24 = .ok (.ldc2_w 78, 3) := by decide +kernel
theorem dX10_leg_27 : decode cX10_leg 27 = .ok (.invokestatic 66, 3) := by decide +kernel
theorem dX10_leg_30 : decode cX10_leg 30 = .ok (.ifCond .eq 11, 3) := by decide +kernel
theorem dX10_leg_33 : decode cX10_leg 33 = .ok (.iload 4, 2) := by decide +kernel
theorem dX10_leg_35 : decode cX10_leg 35 = .ok (.invokestatic 80, 3) := by decide +kernel
theorem dX10_leg_38 : decode cX10_leg 38 = .ok (.ifCond .ne 6, 3) := by decide +kernel
theorem dX10_leg_41 : decode cX10_leg 41 = .ok (.bipush (-2), 2) := by decide +kernel
theorem dX10_leg_43 : decode cX10_leg 43 = .ok (.ireturn, 1) := by decide +kernel
theorem dX10_leg_44 : decode cX10_leg 44 = .ok (.aload_n 0, 1) := by decide +kernel
theorem dX10_leg_45 : decode cX10_leg 45 = .ok (.getfield 19, 3) := by decide +kernel
theorem dX10_leg_48 : decode cX10_leg 48 = .ok (.iload_n 1, 1) := by decide +kernel
theorem dX10_leg_49 : decode cX10_leg 49 = .ok (.iaload, 1) := by decide +kernel
theorem dX10_leg_50 : decode cX10_leg 50 = .ok (.bipush 8, 2) := by decide +kernel
theorem dX10_leg_52 : decode cX10_leg 52 = .ok (.if_icmp .eq 16, 3) := by decide +kernel
theorem dX10_leg_55 : decode cX10_leg 55 = .ok (.aload_n 0, 1) := by decide +kernel
theorem dX10_leg_56 : decode cX10_leg 56 = .ok (.getfield 22, 3) := by decide +kernel
theorem dX10_leg_59 : decode cX10_leg 59 = .ok (.iload_n 1, 1) := by decide +kernel
theorem dX10_leg_60 : decode cX10_leg 60 = .ok (.iaload, 1) := by decide +kernel
theorem dX10_leg_61 : decode cX10_leg 61 = .ok (.iload_n 2, 1) := by decide +kernel
theorem dX10_leg_62 : decode cX10_leg 62 = .ok (.iadd, 1) := by decide +kernel
theorem dX10_leg_63 : decode cX10_leg 63 = .ok (.bipush 48, 2) := by decide +kernel
theorem dX10_leg_65 : decode cX10_leg 65 = .ok (.if_icmp .le 6, 3) := by decide +kernel
theorem dX10_leg_68 : decode cX10_leg 68 = .ok (.bipush (-4), 2) := by decide +kernel
theorem dX10_leg_70 : decode cX10_leg 70 = .ok (.ireturn, 1) := by decide +kernel
theorem dX10_leg_71 : decode cX10_leg 71 = .ok (.bipush 8, 2) := by decide +kernel
theorem dX10_leg_73 : decode cX10_leg 73 = .ok (.iload_n 1, 1) := by decide +kernel
theorem dX10_leg_74 : decode cX10_leg 74 = .ok (.imul, 1) := by decide +kernel
theorem dX10_leg_75 : decode cX10_leg 75 = .ok (.aload_n 0, 1) := by decide +kernel
theorem dX10_leg_76 : decode cX10_leg 76 = .ok (.getfield 19, 3) := by decide +kernel
theorem dX10_leg_79 : decode cX10_leg 79 = .ok (.iload_n 1, 1) := by decide +kernel
theorem dX10_leg_80 : decode cX10_leg 80 = .ok (.iaload, 1) := by decide +kernel
theorem dX10_leg_81 : decode cX10_leg 81 = .ok (.iadd, 1) := by decide +kernel
theorem dX10_leg_82 : decode cX10_leg 82 = .ok (.istore 5, 2) := by decide +kernel
theorem dX10_leg_84 : decode cX10_leg 84 = .ok (.aload_n 0, 1) := by decide +kernel
theorem dX10_leg_85 : decode cX10_leg 85 = .ok (.getfield 7, 3) := by decide +kernel
theorem dX10_leg_88 : decode cX10_leg 88 = .ok (.iload 5, 2) := by decide +kernel
theorem dX10_leg_90 : decode cX10_leg 90 = .ok (.iload_n 2, 1) := by decide +kernel
theorem dX10_leg_91 : decode cX10_leg 91 = .ok (.iastore, 1) := by decide +kernel
theorem dX10_leg_92 : decode cX10_leg 92 = .ok (.aload_n 0, 1) := by decide +kernel
theorem dX10_leg_93 : decode cX10_leg 93 = .ok (.getfield 13, 3) := by decide +kernel
theorem dX10_leg_96 : decode cX10_leg 96 = .ok (.iload 5, 2) := by decide +kernel
theorem dX10_leg_98 : decode cX10_leg 98 = .ok (.iload_n 3, 1) := by decide +kernel
theorem dX10_leg_99 : decode cX10_leg 99 = .ok (.iastore, 1) := by decide +kernel
theorem dX10_leg_100 : decode cX10_leg 100 = .ok (.aload_n 0, 1) := by decide +kernel
theorem dX10_leg_101 : decode cX10_leg 101 = .ok (.getfield 16, 3) := by decide +kernel
theorem dX10_leg_104 : decode cX10_leg 104 = .ok (.iload 5, 2) := by decide +kernel
theorem dX10_leg_106 : decode cX10_leg 106 = .ok (.iload 4, 2) := by decide +kernel
theorem dX10_leg_108 : decode cX10_leg 108 = .ok (.iastore, 1) := by decide +kernel
theorem dX10_leg_109 : decode cX10_leg 109 = .ok (.aload_n 0, 1) := by decide +kernel
theorem dX10_leg_110 : decode cX10_leg 110 = .ok (.getfield 19, 3) := by decide +kernel
theorem dX10_leg_113 : decode cX10_leg 113 = .ok (.iload_n 1, 1) := by decide +kernel
theorem dX10_leg_114 : decode cX10_leg 114 = .ok (.dup2, 1) := by decide +kernel
theorem dX10_leg_115 : decode cX10_leg 115 = .ok (.iaload, 1) := by decide +kernel
theorem dX10_leg_116 : decode cX10_leg 116 = .ok (.iconst 1, 1) := by decide +kernel
theorem dX10_leg_117 : decode cX10_leg 117 = .ok (.iadd, 1) := by decide +kernel
theorem dX10_leg_118 : decode cX10_leg 118 = .ok (.iastore, 1) := by decide +kernel
theorem dX10_leg_119 : decode cX10_leg 119 = .ok (.aload_n 0, 1) := by decide +kernel
theorem dX10_leg_120 : decode cX10_leg 120 = .ok (.iload_n 1, 1) := by decide +kernel
theorem dX10_leg_121 : decode cX10_leg 121 = .ok (.invokevirtual 83, 3) := by decide +kernel
theorem dX10_leg_124 : decode cX10_leg 124 = .ok (.aload_n 0, 1) := by decide +kernel
theorem dX10_leg_125 : decode cX10_leg 125 = .ok (.getfield 22, 3) := by decide +kernel
theorem dX10_leg_128 : decode cX10_leg 128 = .ok (.iload_n 1, 1) := by decide +kernel
theorem dX10_leg_129 : decode cX10_leg 129 = .ok (.iaload, 1) := by decide +kernel
theorem dX10_leg_130 : decode cX10_leg 130 = .ok (.ireturn, 1) := by decide +kernel
theorem dX10_cut_0 : decode cX10_cut 0 = .ok (.iload_n 1, 1) := by decide +kernel
theorem dX10_cut_1 : decode cX10_cut 1 = .ok (.invokestatic 74, 3) := by decide +kernel
theorem dX10_cut_4 : decode cX10_cut 4 = .ok (.ifCond .ne 5, 3) := by decide +kernel
theorem dX10_cut_7 : decode cX10_cut 7 = .ok (.iconst (-1), 1) := by decide +kernel
theorem dX10_cut_8 : decode cX10_cut 8 = .ok (.ireturn, 1) := by decide +kernel
theorem dX10_cut_9 : decode cX10_cut 9 = .ok (.aload_n 0, 1) := by decide +kernel
theorem dX10_cut_10 : decode cX10_cut 10 = .ok (.getfield 19, 3) := by decide +kernel
theorem dX10_cut_13 : decode cX10_cut 13 = .ok (.iload_n 1, 1) := by decide +kernel
theorem dX10_cut_14 : decode cX10_cut 14 = .ok (.iaload, 1) := by decide +kernel
theorem dX10_cut_15 : decode cX10_cut 15 = .ok (.ifCond .ne 6, 3) := by decide +kernel
theorem dX10_cut_18 : decode cX10_cut 18 = .ok (.bipush (-5), 2) := by decide +kernel
theorem dX10_cut_20 : decode cX10_cut 20 = .ok (.ireturn, 1) := by decide +kernel
theorem dX10_cut_21 : decode cX10_cut 21 = .ok (.aload_n 0, 1) := by decide +kernel
theorem dX10_cut_22 : decode cX10_cut 22 = .ok (.getfield 19, 3) := by decide +kernel
theorem dX10_cut_25 : decode cX10_cut 25 = .ok (.iload_n 1, 1) := by decide +kernel
theorem dX10_cut_26 : decode cX10_cut 26 = .ok (.dup2, 1) := by decide +kernel
theorem dX10_cut_27 : decode cX10_cut 27 = .ok (.iaload, 1) := by decide +kernel
theorem dX10_cut_28 : decode cX10_cut 28 = .ok (.iconst 1, 1) := by decide +kernel
theorem dX10_cut_29 : decode cX10_cut 29 = .ok (.isub, 1) := by decide +kernel
theorem dX10_cut_30 : decode cX10_cut 30 = .ok (.iastore, 1) := by decide +kernel
theorem dX10_cut_31 : decode cX10_cut 31 = .ok (.aload_n 0, 1) := by decide +kernel
theorem dX10_cut_32 : decode cX10_cut 32 = .ok (.iload_n 1, 1) := by decide +kernel
theorem dX10_cut_33 : decode cX10_cut 33 = .ok (.invokevirtual 83, 3) := by decide +kernel
theorem dX10_cut_36 : decode cX10_cut 36 = .ok (.aload_n 0, 1) := by decide +kernel
theorem dX10_cut_37 : decode cX10_cut 37 = .ok (.getfield 19, 3) := by decide +kernel
theorem dX10_cut_40 : decode cX10_cut 40 = .ok (.iload_n 1, 1) := by decide +kernel
theorem dX10_cut_41 : decode cX10_cut 41 = .ok (.iaload, 1) := by decide +kernel
theorem dX10_cut_42 : decode cX10_cut 42 = .ok (.ireturn, 1) := by decide +kernel
theorem dX10_about_0 : decode cX10_about 0 = .ok (.iload_n 1, 1) := by decide +kernel
theorem dX10_about_1 : decode cX10_about 1 = .ok (.invokestatic 74, 3) := by decide +kernel
theorem dX10_about_4 : decode cX10_about 4 = .ok (.ifCond .eq 21, 3) := by decide +kernel
theorem dX10_about_7 : decode cX10_about 7 = .ok (.iload_n 2, 1) := by decide +kernel
theorem dX10_about_8 : decode cX10_about 8 = .ok (.i2l, 1) := by decide +kernel
theorem dX10_about_9 : decode cX10_about 9 = .ok (.lconst 0, 1) := by decide +kernel
theorem dX10_about_10 : decode cX10_about 10 = .ok (.aload_n 0, 1) := by decide +kernel
theorem dX10_about_11 : decode cX10_about 11 = .ok (.getfield 19, 3) := by decide +kernel
theorem dX10_about_14 : decode cX10_about 14 = .ok (.iload_n 1, 1) := by decide +kernel
theorem dX10_about_15 : decode cX10_about 15 = .ok (.iaload, 1) := by decide +kernel
theorem dX10_about_16 : decode cX10_about 16 = .ok (.iconst 1, 1) := by decide +kernel
theorem dX10_about_17 : decode cX10_about 17 = .ok (.isub, 1) := by decide +kernel
theorem dX10_about_18 : decode cX10_about 18 = .ok (.i2l, 1) := by decide +kernel
theorem dX10_about_19 : decode cX10_about 19 = .ok (.invokestatic 66, 3) := by decide +kernel
theorem dX10_about_22 : decode cX10_about 22 = .ok (.ifCond .ne 5, 3) := by decide +kernel
theorem dX10_about_25 : decode cX10_about 25 = .ok (.iconst (-1), 1) := by decide +kernel
theorem dX10_about_26 : decode cX10_about 26 = .ok (.ireturn, 1) := by decide +kernel
theorem dX10_about_27 : decode cX10_about 27 = .ok (.iconst 0, 1) := by decide +kernel
theorem dX10_about_28 : decode cX10_about 28 = .ok (.istore 4, 2) := by decide +kernel
theorem dX10_about_30 : decode cX10_about 30 = .ok (.iconst 0, 1) := by decide +kernel
theorem dX10_about_31 : decode cX10_about 31 = .ok (.istore 5, 2) := by decide +kernel
theorem dX10_about_33 : decode cX10_about 33 = .ok (.iload 5, 2) := by decide +kernel
theorem dX10_about_35 : decode cX10_about 35 = .ok (.iload_n 2, 1) := by decide +kernel
theorem dX10_about_36 : decode cX10_about 36 = .ok (.if_icmp .ge 26, 3) := by decide +kernel
theorem dX10_about_39 : decode cX10_about 39 = .ok (.iload 4, 2) := by decide +kernel
theorem dX10_about_41 : decode cX10_about 41 = .ok (.aload_n 0, 1) := by decide +kernel
theorem dX10_about_42 : decode cX10_about 42 = .ok (.getfield 7, 3) := by decide +kernel
theorem dX10_about_45 : decode cX10_about 45 = .ok (.bipush 8, 2) := by decide +kernel
theorem dX10_about_47 : decode cX10_about 47 = .ok (.iload_n 1, 1) := by decide +kernel
theorem dX10_about_48 : decode cX10_about 48 = .ok (.imul, 1) := by decide +kernel
theorem dX10_about_49 : decode cX10_about 49 = .ok (.iload 5, 2) := by decide +kernel
theorem dX10_about_51 : decode cX10_about 51 = .ok (.iadd, 1) := by decide +kernel
theorem dX10_about_52 : decode cX10_about 52 = .ok (.iaload, 1) := by decide +kernel
theorem dX10_about_53 : decode cX10_about 53 = .ok (.iadd, 1) := by decide +kernel
theorem dX10_about_54 : decode cX10_about 54 = .ok (.istore 4, 2) := by decide +kernel
theorem dX10_about_56 : decode cX10_about 56 = .ok (.iinc 5 1, 3) := by decide +kernel
theorem dX10_about_59 : decode cX10_about 59 = .ok (.goto (-26), 3) := by decide +kernel
theorem dX10_about_62 : decode cX10_about 62 = .ok (.bipush 8, 2) := by decide +kernel
theorem dX10_about_64 : decode cX10_about 64 = .ok (.iload_n 1, 1) := by decide +kernel
theorem dX10_about_65 : decode cX10_about 65 = .ok (.imul, 1) := by decide +kernel
theorem dX10_about_66 : decode cX10_about 66 = .ok (.iload_n 2, 1) := by decide +kernel
theorem dX10_about_67 : decode cX10_about 67 = .ok (.iadd, 1) := by decide +kernel
theorem dX10_about_68 : decode cX10_about 68 = .ok (.istore 5, 2) := by decide +kernel
theorem dX10_about_70 : decode cX10_about 70 = .ok (.iload_n 3, 1) := by decide +kernel
theorem dX10_about_71 : decode cX10_about 71 = .ok (.tableswitch 56 0 3 #[29, 37, 45, 53], 29) := by decide +kernel
theorem dX10_about_100 : decode cX10_about 100 = .ok (.aload_n 0, 1) := by decide +kernel
theorem dX10_about_101 : decode cX10_about 101 = .ok (.getfield 7, 3) := by decide +kernel
theorem dX10_about_104 : decode cX10_about 104 = .ok (.iload 5, 2) := by decide +kernel
theorem dX10_about_106 : decode cX10_about 106 = .ok (.iaload, 1) := by decide +kernel
theorem dX10_about_107 : decode cX10_about 107 = .ok (.ireturn, 1) := by decide +kernel
theorem dX10_about_108 : decode cX10_about 108 = .ok (.aload_n 0, 1) := by decide +kernel
theorem dX10_about_109 : decode cX10_about 109 = .ok (.getfield 13, 3) := by decide +kernel
theorem dX10_about_112 : decode cX10_about 112 = .ok (.iload 5, 2) := by decide +kernel
theorem dX10_about_114 : decode cX10_about 114 = .ok (.iaload, 1) := by decide +kernel
theorem dX10_about_115 : decode cX10_about 115 = .ok (.ireturn, 1) := by decide +kernel
theorem dX10_about_116 : decode cX10_about 116 = .ok (.aload_n 0, 1) := by decide +kernel
theorem dX10_about_117 : decode cX10_about 117 = .ok (.getfield 16, 3) := by decide +kernel
theorem dX10_about_120 : decode cX10_about 120 = .ok (.iload 5, 2) := by decide +kernel
theorem dX10_about_122 : decode cX10_about 122 = .ok (.iaload, 1) := by decide +kernel
theorem dX10_about_123 : decode cX10_about 123 = .ok (.ireturn, 1) := by decide +kernel
theorem dX10_about_124 : decode cX10_about 124 = .ok (.iload 4, 2) := by decide +kernel
theorem dX10_about_126 : decode cX10_about 126 = .ok (.ireturn, 1) := by decide +kernel
theorem dX10_about_127 : decode cX10_about 127 = .ok (.bipush (-2), 2) := by decide +kernel
theorem dX10_about_129 : decode cX10_about 129 = .ok (.ireturn, 1) := by decide +kernel
theorem dX10_nap_0 : decode cX10_nap 0 = .ok (.iload_n 1, 1) := by decide +kernel
theorem dX10_nap_1 : decode cX10_nap 1 = .ok (.i2l, 1) := by decide +kernel
theorem dX10_nap_2 : decode cX10_nap 2 = .ok (.lconst 1, 1) := by decide +kernel
theorem dX10_nap_3 : decode cX10_nap 3 = .ok (.ldc2_w 87, 3) := by decide +kernel
theorem dX10_nap_6 : decode cX10_nap 6 = .ok (.invokestatic 66, 3) := by decide +kernel
theorem dX10_nap_9 : decode cX10_nap 9 = .ok (.ifCond .eq 32, 3) := by decide +kernel
theorem dX10_nap_12 : decode cX10_nap 12 = .ok (.iload_n 2, 1) := by decide +kernel
theorem dX10_nap_13 : decode cX10_nap 13 = .ok (.invokestatic 80, 3) := by decide +kernel
theorem dX10_nap_16 : decode cX10_nap 16 = .ok (.ifCond .eq 25, 3) := by decide +kernel
theorem dX10_nap_19 : decode cX10_nap 19 = .ok (.iload_n 3, 1) := by decide +kernel
theorem dX10_nap_20 : decode cX10_nap 20 = .ok (.i2l, 1) := by decide +kernel
theorem dX10_nap_21 : decode cX10_nap 21 = .ok (.lconst 0, 1) := by decide +kernel
theorem dX10_nap_22 : decode cX10_nap 22 = .ok (.iload_n 2, 1) := by decide +kernel
theorem dX10_nap_23 : decode cX10_nap 23 = .ok (.ifCond .ne 9, 3) := by decide +kernel
theorem dX10_nap_26 : decode cX10_nap 26 = .ok (.ldc2_w 89, 3) := by decide +kernel
theorem dX10_nap_29 : decode cX10_nap 29 = .ok (.goto 6, 3) := by decide +kernel
theorem dX10_nap_32 : decode cX10_nap 32 = .ok (.ldc2_w 91, 3) := by decide +kernel
theorem dX10_nap_35 : decode cX10_nap 35 = .ok (.invokestatic 66, 3) := by decide +kernel
theorem dX10_nap_38 : decode cX10_nap 38 = .ok (.ifCond .ne 6, 3) := by decide +kernel
theorem dX10_nap_41 : decode cX10_nap 41 = .ok (.bipush (-2), 2) := by decide +kernel
theorem dX10_nap_43 : decode cX10_nap 43 = .ok (.ireturn, 1) := by decide +kernel
theorem dX10_nap_44 : decode cX10_nap 44 = .ok (.iload_n 2, 1) := by decide +kernel
theorem dX10_nap_45 : decode cX10_nap 45 = .ok (.ifCond .ne 14, 3) := by decide +kernel
theorem dX10_nap_48 : decode cX10_nap 48 = .ok (.aload_n 0, 1) := by decide +kernel
theorem dX10_nap_49 : decode cX10_nap 49 = .ok (.getfield 31, 3) := by decide +kernel
theorem dX10_nap_52 : decode cX10_nap 52 = .ok (.iload_n 1, 1) := by decide +kernel
theorem dX10_nap_53 : decode cX10_nap 53 = .ok (.iconst 1, 1) := by decide +kernel
theorem dX10_nap_54 : decode cX10_nap 54 = .ok (.isub, 1) := by decide +kernel
theorem dX10_nap_55 : decode cX10_nap 55 = .ok (.iaload, 1) := by decide +kernel
theorem dX10_nap_56 : decode cX10_nap 56 = .ok (.goto 11, 3) := by decide +kernel
theorem dX10_nap_59 : decode cX10_nap 59 = .ok (.aload_n 0, 1) := by decide +kernel
theorem dX10_nap_60 : decode cX10_nap 60 = .ok (.getfield 34, 3) := by decide +kernel
theorem dX10_nap_63 : decode cX10_nap 63 = .ok (.iload_n 1, 1) := by decide +kernel
theorem dX10_nap_64 : decode cX10_nap 64 = .ok (.iconst 1, 1) := by decide +kernel
theorem dX10_nap_65 : decode cX10_nap 65 = .ok (.isub, 1) := by decide +kernel
theorem dX10_nap_66 : decode cX10_nap 66 = .ok (.iaload, 1) := by decide +kernel
theorem dX10_nap_67 : decode cX10_nap 67 = .ok (.istore 4, 2) := by decide +kernel
theorem dX10_nap_69 : decode cX10_nap 69 = .ok (.iload_n 2, 1) := by decide +kernel
theorem dX10_nap_70 : decode cX10_nap 70 = .ok (.ifCond .ne 15, 3) := by decide +kernel
theorem dX10_nap_73 : decode cX10_nap 73 = .ok (.aload_n 0, 1) := by decide +kernel
theorem dX10_nap_74 : decode cX10_nap 74 = .ok (.getfield 31, 3) := by decide +kernel
theorem dX10_nap_77 : decode cX10_nap 77 = .ok (.iload_n 1, 1) := by decide +kernel
theorem dX10_nap_78 : decode cX10_nap 78 = .ok (.iconst 1, 1) := by decide +kernel
theorem dX10_nap_79 : decode cX10_nap 79 = .ok (.isub, 1) := by decide +kernel
theorem dX10_nap_80 : decode cX10_nap 80 = .ok (.iload_n 3, 1) := by decide +kernel
theorem dX10_nap_81 : decode cX10_nap 81 = .ok (.iastore, 1) := by decide +kernel
theorem dX10_nap_82 : decode cX10_nap 82 = .ok (.goto 12, 3) := by decide +kernel
theorem dX10_nap_85 : decode cX10_nap 85 = .ok (.aload_n 0, 1) := by decide +kernel
theorem dX10_nap_86 : decode cX10_nap 86 = .ok (.getfield 34, 3) := by decide +kernel
theorem dX10_nap_89 : decode cX10_nap 89 = .ok (.iload_n 1, 1) := by decide +kernel
theorem dX10_nap_90 : decode cX10_nap 90 = .ok (.iconst 1, 1) := by decide +kernel
theorem dX10_nap_91 : decode cX10_nap 91 = .ok (.isub, 1) := by decide +kernel
theorem dX10_nap_92 : decode cX10_nap 92 = .ok (.iload_n 3, 1) := by decide +kernel
theorem dX10_nap_93 : decode cX10_nap 93 = .ok (.iastore, 1) := by decide +kernel
theorem dX10_nap_94 : decode cX10_nap 94 = .ok (.aload_n 0, 1) := by decide +kernel
theorem dX10_nap_95 : decode cX10_nap 95 = .ok (.getfield 53, 3) := by decide +kernel
theorem dX10_nap_98 : decode cX10_nap 98 = .ok (.iconst 0, 1) := by decide +kernel
theorem dX10_nap_99 : decode cX10_nap 99 = .ok (.iconst 0, 1) := by decide +kernel
theorem dX10_nap_100 : decode cX10_nap 100 = .ok (.bastore, 1) := by decide +kernel
theorem dX10_nap_101 : decode cX10_nap 101 = .ok (.aload_n 0, 1) := by decide +kernel
theorem dX10_nap_102 : decode cX10_nap 102 = .ok (.getfield 53, 3) := by decide +kernel
theorem dX10_nap_105 : decode cX10_nap 105 = .ok (.iconst 1, 1) := by decide +kernel
theorem dX10_nap_106 : decode cX10_nap 106 = .ok (.iconst 0, 1) := by decide +kernel
theorem dX10_nap_107 : decode cX10_nap 107 = .ok (.bastore, 1) := by decide +kernel
theorem dX10_nap_108 : decode cX10_nap 108 = .ok (.iload 4, 2) := by decide +kernel
theorem dX10_nap_110 : decode cX10_nap 110 = .ok (.ireturn, 1) := by decide +kernel
theorem dX10_isSquall_0 : decode cX10_isSquall 0 = .ok (.aload_n 0, 1) := by decide +kernel
theorem dX10_isSquall_1 : decode cX10_isSquall 1 = .ok (.getfield 28, 3) := by decide +kernel
theorem dX10_isSquall_4 : decode cX10_isSquall 4 = .ok (.bipush 48, 2) := by decide +kernel
theorem dX10_isSquall_6 : decode cX10_isSquall 6 = .ok (.iload_n 1, 1) := by decide +kernel
theorem dX10_isSquall_7 : decode cX10_isSquall 7 = .ok (.imul, 1) := by decide +kernel
theorem dX10_isSquall_8 : decode cX10_isSquall 8 = .ok (.iload_n 2, 1) := by decide +kernel
theorem dX10_isSquall_9 : decode cX10_isSquall 9 = .ok (.iadd, 1) := by decide +kernel
theorem dX10_isSquall_10 : decode cX10_isSquall 10 = .ok (.iaload, 1) := by decide +kernel
theorem dX10_isSquall_11 : decode cX10_isSquall 11 = .ok (.iconst 1, 1) := by decide +kernel
theorem dX10_isSquall_12 : decode cX10_isSquall 12 = .ok (.if_icmp .ne 7, 3) := by decide +kernel
theorem dX10_isSquall_15 : decode cX10_isSquall 15 = .ok (.iconst 1, 1) := by decide +kernel
theorem dX10_isSquall_16 : decode cX10_isSquall 16 = .ok (.goto 4, 3) := by decide +kernel
theorem dX10_isSquall_19 : decode cX10_isSquall 19 = .ok (.iconst 0, 1) := by decide +kernel
theorem dX10_isSquall_20 : decode cX10_isSquall 20 = .ok (.ireturn, 1) := by decide +kernel
theorem dX10_canBe_0 : decode cX10_canBe 0 = .ok (.iload_n 2, 1) := by decide +kernel
theorem dX10_canBe_1 : decode cX10_canBe 1 = .ok (.aload_n 0, 1) := by decide +kernel
theorem dX10_canBe_2 : decode cX10_canBe 2 = .ok (.getfield 22, 3) := by decide +kernel
theorem dX10_canBe_5 : decode cX10_canBe 5 = .ok (.iload_n 1, 1) := by decide +kernel
theorem dX10_canBe_6 : decode cX10_canBe 6 = .ok (.iaload, 1) := by decide +kernel
theorem dX10_canBe_7 : decode cX10_canBe 7 = .ok (.if_icmp .ge 16, 3) := by decide +kernel
theorem dX10_canBe_10 : decode cX10_canBe 10 = .ok (.aload_n 0, 1) := by decide +kernel
theorem dX10_canBe_11 : decode cX10_canBe 11 = .ok (.iload_n 1, 1) := by decide +kernel
theorem dX10_canBe_12 : decode cX10_canBe 12 = .ok (.iload_n 2, 1) := by decide +kernel
theorem dX10_canBe_13 : decode cX10_canBe 13 = .ok (.invokevirtual 93, 3) := by decide +kernel
theorem dX10_canBe_16 : decode cX10_canBe 16 = .ok (.ifCond .eq 9, 3) := by decide +kernel
theorem dX10_canBe_19 : decode cX10_canBe 19 = .ok (.iload_n 3, 1) := by decide +kernel
theorem dX10_canBe_20 : decode cX10_canBe 20 = .ok (.ifCond .eq 5, 3) := by decide +kernel
theorem dX10_canBe_23 : decode cX10_canBe 23 = .ok (.iconst 0, 1) := by decide +kernel
theorem dX10_canBe_24 : decode cX10_canBe 24 = .ok (.ireturn, 1) := by decide +kernel
theorem dX10_canBe_25 : decode cX10_canBe 25 = .ok (.iload_n 3, 1) := by decide +kernel
theorem dX10_canBe_26 : decode cX10_canBe 26 = .ok (.iconst 3, 1) := by decide +kernel
theorem dX10_canBe_27 : decode cX10_canBe 27 = .ok (.if_icmp .ne 26, 3) := by decide +kernel
theorem dX10_canBe_30 : decode cX10_canBe 30 = .ok (.iload_n 2, 1) := by decide +kernel
theorem dX10_canBe_31 : decode cX10_canBe 31 = .ok (.iconst 1, 1) := by decide +kernel
theorem dX10_canBe_32 : decode cX10_canBe 32 = .ok (.iadd, 1) := by decide +kernel
theorem dX10_canBe_33 : decode cX10_canBe 33 = .ok (.aload_n 0, 1) := by decide +kernel
theorem dX10_canBe_34 : decode cX10_canBe 34 = .ok (.getfield 22, 3) := by decide +kernel
theorem dX10_canBe_37 : decode cX10_canBe 37 = .ok (.iload_n 1, 1) := by decide +kernel
theorem dX10_canBe_38 : decode cX10_canBe 38 = .ok (.iaload, 1) := by decide +kernel
theorem dX10_canBe_39 : decode cX10_canBe 39 = .ok (.if_icmp .ge 18, 3) := by decide +kernel
theorem dX10_canBe_42 : decode cX10_canBe 42 = .ok (.aload_n 0, 1) := by decide +kernel
theorem dX10_canBe_43 : decode cX10_canBe 43 = .ok (.iload_n 1, 1) := by decide +kernel
theorem dX10_canBe_44 : decode cX10_canBe 44 = .ok (.iload_n 2, 1) := by decide +kernel
theorem dX10_canBe_45 : decode cX10_canBe 45 = .ok (.iconst 1, 1) := by decide +kernel
theorem dX10_canBe_46 : decode cX10_canBe 46 = .ok (.iadd, 1) := by decide +kernel
theorem dX10_canBe_47 : decode cX10_canBe 47 = .ok (.invokevirtual 93, 3) := by decide +kernel
theorem dX10_canBe_50 : decode cX10_canBe 50 = .ok (.ifCond .ne 7, 3) := by decide +kernel
theorem dX10_canBe_53 : decode cX10_canBe 53 = .ok (.iconst 1, 1) := by decide +kernel
theorem dX10_canBe_54 : decode cX10_canBe 54 = .ok (.goto 4, 3) := by decide +kernel
theorem dX10_canBe_57 : decode cX10_canBe 57 = .ok (.iconst 0, 1) := by decide +kernel
theorem dX10_canBe_58 : decode cX10_canBe 58 = .ok (.ireturn, 1) := by decide +kernel
theorem dX10_isNight_0 : decode cX10_isNight 0 = .ok (.iload_n 0, 1) := by decide +kernel
theorem dX10_isNight_1 : decode cX10_isNight 1 = .ok (.bipush 24, 2) := by decide +kernel
theorem dX10_isNight_3 : decode cX10_isNight 3 = .ok (.irem, 1) := by decide +kernel
theorem dX10_isNight_4 : decode cX10_isNight 4 = .ok (.bipush 12, 2) := by decide +kernel
theorem dX10_isNight_6 : decode cX10_isNight 6 = .ok (.if_icmp .lt 7, 3) := by decide +kernel
theorem dX10_isNight_9 : decode cX10_isNight 9 = .ok (.iconst 1, 1) := by decide +kernel
theorem dX10_isNight_10 : decode cX10_isNight 10 = .ok (.goto 4, 3) := by decide +kernel
theorem dX10_isNight_13 : decode cX10_isNight 13 = .ok (.iconst 0, 1) := by decide +kernel
theorem dX10_isNight_14 : decode cX10_isNight 14 = .ok (.ireturn, 1) := by decide +kernel
theorem dX10_owedBehind_0 : decode cX10_owedBehind 0 = .ok (.iload_n 3, 1) := by decide +kernel
theorem dX10_owedBehind_1 : decode cX10_owedBehind 1 = .ok (.istore 5, 2) := by decide +kernel
theorem dX10_owedBehind_3 : decode cX10_owedBehind 3 = .ok (.iload 4, 2) := by decide +kernel
theorem dX10_owedBehind_5 : decode cX10_owedBehind 5 = .ok (.ifCond .ne 25, 3) := by decide +kernel
theorem dX10_owedBehind_8 : decode cX10_owedBehind 8 = .ok (.iload 5, 2) := by decide +kernel
theorem dX10_owedBehind_10 : decode cX10_owedBehind 10 = .ok (.aload_n 0, 1) := by decide +kernel
theorem dX10_owedBehind_11 : decode cX10_owedBehind 11 = .ok (.iload_n 1, 1) := by decide +kernel
theorem dX10_owedBehind_12 : decode cX10_owedBehind 12 = .ok (.iload_n 2, 1) := by decide +kernel
theorem dX10_owedBehind_13 : decode cX10_owedBehind 13 = .ok (.invokevirtual 93, 3) := by decide +kernel
theorem dX10_owedBehind_16 : decode cX10_owedBehind 16 = .ok (.ifCond .eq 7, 3) := by decide +kernel
theorem dX10_owedBehind_19 : decode cX10_owedBehind 19 = .ok (.iconst 2, 1) := by decide +kernel
theorem dX10_owedBehind_20 : decode cX10_owedBehind 20 = .ok (.goto 4, 3) := by decide +kernel
theorem dX10_owedBehind_23 : decode cX10_owedBehind 23 = .ok (.iconst 1, 1) := by decide +kernel
theorem dX10_owedBehind_24 : decode cX10_owedBehind 24 = .ok (.iadd, 1) := by decide +kernel
theorem dX10_owedBehind_25 : decode cX10_owedBehind 25 = .ok (.istore 5, 2) := by decide +kernel
theorem dX10_owedBehind_27 : decode cX10_owedBehind 27 = .ok (.goto 42, 3) := by decide +kernel
theorem dX10_owedBehind_30 : decode cX10_owedBehind 30 = .ok (.iload 4, 2) := by decide +kernel
theorem dX10_owedBehind_32 : decode cX10_owedBehind 32 = .ok (.iconst 4, 1) := by decide +kernel
theorem dX10_owedBehind_33 : decode cX10_owedBehind 33 = .ok (.if_icmp .ne 9, 3) := by decide +kernel
theorem dX10_owedBehind_36 : decode cX10_owedBehind 36 = .ok (.iinc 5 (-1), 3) := by decide +kernel
theorem dX10_owedBehind_39 : decode cX10_owedBehind 39 = .ok (.goto 30, 3) := by decide +kernel
theorem dX10_owedBehind_42 : decode cX10_owedBehind 42 = .ok (.iload 5, 2) := by decide +kernel
theorem dX10_owedBehind_44 : decode cX10_owedBehind 44 = .ok (.aload_n 0, 1) := by decide +kernel
theorem dX10_owedBehind_45 : decode cX10_owedBehind 45 = .ok (.getfield 31, 3) := by decide +kernel
theorem dX10_owedBehind_48 : decode cX10_owedBehind 48 = .ok (.iload 4, 2) := by decide +kernel
theorem dX10_owedBehind_50 : decode cX10_owedBehind 50 = .ok (.iconst 1, 1) := by decide +kernel
theorem dX10_owedBehind_51 : decode cX10_owedBehind 51 = .ok (.isub, 1) := by decide +kernel
theorem dX10_owedBehind_52 : decode cX10_owedBehind 52 = .ok (.iaload, 1) := by decide +kernel
theorem dX10_owedBehind_53 : decode cX10_owedBehind 53 = .ok (.iload_n 2, 1) := by decide +kernel
theorem dX10_owedBehind_54 : decode cX10_owedBehind 54 = .ok (.invokestatic 97, 3) := by decide +kernel
theorem dX10_owedBehind_57 : decode cX10_owedBehind 57 = .ok (.ifCond .eq 7, 3) := by decide +kernel
theorem dX10_owedBehind_60 : decode cX10_owedBehind 60 = .ok (.iconst 1, 1) := by decide +kernel
theorem dX10_owedBehind_61 : decode cX10_owedBehind 61 = .ok (.goto 4, 3) := by decide +kernel
theorem dX10_owedBehind_64 : decode cX10_owedBehind 64 = .ok (.iconst 0, 1) := by decide +kernel
theorem dX10_owedBehind_65 : decode cX10_owedBehind 65 = .ok (.iadd, 1) := by decide +kernel
theorem dX10_owedBehind_66 : decode cX10_owedBehind 66 = .ok (.isub, 1) := by decide +kernel
theorem dX10_owedBehind_67 : decode cX10_owedBehind 67 = .ok (.istore 5, 2) := by decide +kernel
theorem dX10_owedBehind_69 : decode cX10_owedBehind 69 = .ok (.iload 5, 2) := by decide +kernel
theorem dX10_owedBehind_71 : decode cX10_owedBehind 71 = .ok (.ifCond .ge 7, 3) := by decide +kernel
theorem dX10_owedBehind_74 : decode cX10_owedBehind 74 = .ok (.iconst 0, 1) := by decide +kernel
theorem dX10_owedBehind_75 : decode cX10_owedBehind 75 = .ok (.goto 17, 3) := by decide +kernel
theorem dX10_owedBehind_78 : decode cX10_owedBehind 78 = .ok (.iload 5, 2) := by decide +kernel
theorem dX10_owedBehind_80 : decode cX10_owedBehind 80 = .ok (.bipush 20, 2) := by decide +kernel
theorem dX10_owedBehind_82 : decode cX10_owedBehind 82 = .ok (.if_icmp .le 8, 3) := by decide +kernel
theorem dX10_owedBehind_85 : decode cX10_owedBehind 85 = .ok (.bipush 20, 2) := by decide +kernel
theorem dX10_owedBehind_87 : decode cX10_owedBehind 87 = .ok (.goto 5, 3) := by decide +kernel
theorem dX10_owedBehind_90 : decode cX10_owedBehind 90 = .ok (.iload 5, 2) := by decide +kernel
theorem dX10_owedBehind_92 : decode cX10_owedBehind 92 = .ok (.ireturn, 1) := by decide +kernel
theorem dX10_blindOf_0 : decode cX10_blindOf 0 = .ok (.iload_n 1, 1) := by decide +kernel
theorem dX10_blindOf_1 : decode cX10_blindOf 1 = .ok (.bipush 10, 2) := by decide +kernel
theorem dX10_blindOf_3 : decode cX10_blindOf 3 = .ok (.if_icmp .le 10, 3) := by decide +kernel
theorem dX10_blindOf_6 : decode cX10_blindOf 6 = .ok (.iload_n 1, 1) := by decide +kernel
theorem dX10_blindOf_7 : decode cX10_blindOf 7 = .ok (.bipush 10, 2) := by decide +kernel
theorem dX10_blindOf_9 : decode cX10_blindOf 9 = .ok (.isub, 1) := by decide +kernel
theorem dX10_blindOf_10 : decode cX10_blindOf 10 = .ok (.goto 4, 3) := by decide +kernel
theorem dX10_blindOf_13 : decode cX10_blindOf 13 = .ok (.iconst 0, 1) := by decide +kernel
theorem dX10_blindOf_14 : decode cX10_blindOf 14 = .ok (.istore 4, 2) := by decide +kernel
theorem dX10_blindOf_16 : decode cX10_blindOf 16 = .ok (.iload_n 2, 1) := by decide +kernel
theorem dX10_blindOf_17 : decode cX10_blindOf 17 = .ok (.ifCond .ne 14, 3) := by decide +kernel
theorem dX10_blindOf_20 : decode cX10_blindOf 20 = .ok (.bipush 20, 2) := by decide +kernel
theorem dX10_blindOf_22 : decode cX10_blindOf 22 = .ok (.bipush 10, 2) := by decide +kernel
theorem dX10_blindOf_24 : decode cX10_blindOf 24 = .ok (.iload 4, 2) := by decide +kernel
theorem dX10_blindOf_26 : decode cX10_blindOf 26 = .ok (.imul, 1) := by decide +kernel
theorem dX10_blindOf_27 : decode cX10_blindOf 27 = .ok (.iadd, 1) := by decide +kernel
theorem dX10_blindOf_28 : decode cX10_blindOf 28 = .ok (.goto 28, 3) := by decide +kernel
theorem dX10_blindOf_31 : decode cX10_blindOf 31 = .ok (.iload_n 2, 1) := by decide +kernel
theorem dX10_blindOf_32 : decode cX10_blindOf 32 = .ok (.iconst 4, 1) := by decide +kernel
theorem dX10_blindOf_33 : decode cX10_blindOf 33 = .ok (.if_icmp .ne 9, 3) := by decide +kernel
theorem dX10_blindOf_36 : decode cX10_blindOf 36 = .ok (.sipush 300, 3) := by decide +kernel
theorem dX10_blindOf_39 : decode cX10_blindOf 39 = .ok (.goto 17, 3) := by decide +kernel
theorem dX10_blindOf_42 : decode cX10_blindOf 42 = .ok (.aload_n 0, 1) := by decide +kernel
theorem dX10_blindOf_43 : decode cX10_blindOf 43 = .ok (.getfield 34, 3) := by decide +kernel
theorem dX10_blindOf_46 : decode cX10_blindOf 46 = .ok (.iload_n 2, 1) := by decide +kernel
theorem dX10_blindOf_47 : decode cX10_blindOf 47 = .ok (.iconst 1, 1) := by decide +kernel
theorem dX10_blindOf_48 : decode cX10_blindOf 48 = .ok (.isub, 1) := by decide +kernel
theorem dX10_blindOf_49 : decode cX10_blindOf 49 = .ok (.iaload, 1) := by decide +kernel
theorem dX10_blindOf_50 : decode cX10_blindOf 50 = .ok (.bipush 20, 2) := by decide +kernel
theorem dX10_blindOf_52 : decode cX10_blindOf 52 = .ok (.iload 4, 2) := by decide +kernel
theorem dX10_blindOf_54 : decode cX10_blindOf 54 = .ok (.imul, 1) := by decide +kernel
theorem dX10_blindOf_55 : decode cX10_blindOf 55 = .ok (.iadd, 1) := by decide +kernel
theorem dX10_blindOf_56 : decode cX10_blindOf 56 = .ok (.istore 5, 2) := by decide +kernel
theorem dX10_blindOf_58 : decode cX10_blindOf 58 = .ok (.iload 5, 2) := by decide +kernel
theorem dX10_blindOf_60 : decode cX10_blindOf 60 = .ok (.sipush 1000, 3) := by decide +kernel
theorem dX10_blindOf_63 : decode cX10_blindOf 63 = .ok (.if_icmp .le 9, 3) := by decide +kernel
theorem dX10_blindOf_66 : decode cX10_blindOf 66 = .ok (.sipush 1000, 3) := by decide +kernel
theorem dX10_blindOf_69 : decode cX10_blindOf 69 = .ok (.goto 5, 3) := by decide +kernel
theorem dX10_blindOf_72 : decode cX10_blindOf 72 = .ok (.iload 5, 2) := by decide +kernel
theorem dX10_blindOf_74 : decode cX10_blindOf 74 = .ok (.istore 5, 2) := by decide +kernel
theorem dX10_blindOf_76 : decode cX10_blindOf 76 = .ok (.sipush 600, 3) := by decide +kernel
theorem dX10_blindOf_79 : decode cX10_blindOf 79 = .ok (.bipush 40, 2) := by decide +kernel
theorem dX10_blindOf_81 : decode cX10_blindOf 81 = .ok (.iload_n 1, 1) := by decide +kernel
theorem dX10_blindOf_82 : decode cX10_blindOf 82 = .ok (.imul, 1) := by decide +kernel
theorem dX10_blindOf_83 : decode cX10_blindOf 83 = .ok (.isub, 1) := by decide +kernel
theorem dX10_blindOf_84 : decode cX10_blindOf 84 = .ok (.istore 6, 2) := by decide +kernel
theorem dX10_blindOf_86 : decode cX10_blindOf 86 = .ok (.iload_n 3, 1) := by decide +kernel
theorem dX10_blindOf_87 : decode cX10_blindOf 87 = .ok (.ifCond .ne 8, 3) := by decide +kernel
theorem dX10_blindOf_90 : decode cX10_blindOf 90 = .ok (.iload 5, 2) := by decide +kernel
theorem dX10_blindOf_92 : decode cX10_blindOf 92 = .ok (.goto 25, 3) := by decide +kernel
theorem dX10_blindOf_95 : decode cX10_blindOf 95 = .ok (.iload 5, 2) := by decide +kernel
theorem dX10_blindOf_97 : decode cX10_blindOf 97 = .ok (.sipush 1000, 3) := by decide +kernel
theorem dX10_blindOf_100 : decode cX10_blindOf 100 = .ok (.iload 6, 2) := by decide +kernel
theorem dX10_blindOf_102 : decode cX10_blindOf 102 = .ok (.ifCond .ge 7, 3) := by decide +kernel
theorem dX10_blindOf_105 : decode cX10_blindOf 105 = .ok (.iconst 0, 1) := by decide +kernel
theorem dX10_blindOf_106 : decode cX10_blindOf 106 = .ok (.goto 5, 3) := by decide +kernel
theorem dX10_blindOf_109 : decode cX10_blindOf 109 = .ok (.iload 6, 2) := by decide +kernel
theorem dX10_blindOf_111 : decode cX10_blindOf 111 = .ok (.isub, 1) := by decide +kernel
theorem dX10_blindOf_112 : decode cX10_blindOf 112 = .ok (.imul, 1) := by decide +kernel
theorem dX10_blindOf_113 : decode cX10_blindOf 113 = .ok (.sipush 1000, 3) := by decide +kernel
theorem dX10_blindOf_116 : decode cX10_blindOf 116 = .ok (.idiv, 1) := by decide +kernel
theorem dX10_blindOf_117 : decode cX10_blindOf 117 = .ok (.ireturn, 1) := by decide +kernel
theorem dX10_riskOf_0 : decode cX10_riskOf 0 = .ok (.aload_n 0, 1) := by decide +kernel
theorem dX10_riskOf_1 : decode cX10_riskOf 1 = .ok (.getfield 25, 3) := by decide +kernel
theorem dX10_riskOf_4 : decode cX10_riskOf 4 = .ok (.bipush 48, 2) := by decide +kernel
theorem dX10_riskOf_6 : decode cX10_riskOf 6 = .ok (.iload_n 1, 1) := by decide +kernel
theorem dX10_riskOf_7 : decode cX10_riskOf 7 = .ok (.imul, 1) := by decide +kernel
theorem dX10_riskOf_8 : decode cX10_riskOf 8 = .ok (.iload_n 2, 1) := by decide +kernel
theorem dX10_riskOf_9 : decode cX10_riskOf 9 = .ok (.iadd, 1) := by decide +kernel
theorem dX10_riskOf_10 : decode cX10_riskOf 10 = .ok (.iaload, 1) := by decide +kernel
theorem dX10_riskOf_11 : decode cX10_riskOf 11 = .ok (.aload_n 0, 1) := by decide +kernel
theorem dX10_riskOf_12 : decode cX10_riskOf 12 = .ok (.iload_n 3, 1) := by decide +kernel
theorem dX10_riskOf_13 : decode cX10_riskOf 13 = .ok (.iload 4, 2) := by decide +kernel
theorem dX10_riskOf_15 : decode cX10_riskOf 15 = .ok (.iload 5, 2) := by decide +kernel
theorem dX10_riskOf_17 : decode cX10_riskOf 17 = .ok (.invokevirtual 100, 3) := by decide +kernel
theorem dX10_riskOf_20 : decode cX10_riskOf 20 = .ok (.imul, 1) := by decide +kernel
theorem dX10_riskOf_21 : decode cX10_riskOf 21 = .ok (.ireturn, 1) := by decide +kernel
theorem dX10_lessened_0 : decode cX10_lessened 0 = .ok (.iload_n 0, 1) := by decide +kernel
theorem dX10_lessened_1 : decode cX10_lessened 1 = .ok (.i2l, 1) := by decide +kernel
theorem dX10_lessened_2 : decode cX10_lessened 2 = .ok (.ldc 104, 2) := by decide +kernel
theorem dX10_lessened_4 : decode cX10_lessened 4 = .ok (.iload_n 1, 1) := by decide +kernel
theorem dX10_lessened_5 : decode cX10_lessened 5 = .ok (.isub, 1) := by decide +kernel
theorem dX10_lessened_6 : decode cX10_lessened 6 = .ok (.i2l, 1) := by decide +kernel
theorem dX10_lessened_7 : decode cX10_lessened 7 = .ok (.lmul, 1) := by decide +kernel
theorem dX10_lessened_8 : decode cX10_lessened 8 = .ok (.ldc2_w 105, 3) := by decide +kernel
theorem dX10_lessened_11 : decode cX10_lessened 11 = .ok (.ldiv, 1) := by decide +kernel
theorem dX10_lessened_12 : decode cX10_lessened 12 = .ok (.l2i, 1) := by decide +kernel
theorem dX10_lessened_13 : decode cX10_lessened 13 = .ok (.ireturn, 1) := by decide +kernel
theorem dX10_isHour_0 : decode cX10_isHour 0 = .ok (.iload_n 2, 1) := by decide +kernel
theorem dX10_isHour_1 : decode cX10_isHour 1 = .ok (.i2l, 1) := by decide +kernel
theorem dX10_isHour_2 : decode cX10_isHour 2 = .ok (.lconst 0, 1) := by decide +kernel
theorem dX10_isHour_3 : decode cX10_isHour 3 = .ok (.aload_n 0, 1) := by decide +kernel
theorem dX10_isHour_4 : decode cX10_isHour 4 = .ok (.getfield 22, 3) := by decide +kernel
theorem dX10_isHour_7 : decode cX10_isHour 7 = .ok (.iload_n 1, 1) := by decide +kernel
theorem dX10_isHour_8 : decode cX10_isHour 8 = .ok (.iaload, 1) := by decide +kernel
theorem dX10_isHour_9 : decode cX10_isHour 9 = .ok (.iconst 1, 1) := by decide +kernel
theorem dX10_isHour_10 : decode cX10_isHour 10 = .ok (.isub, 1) := by decide +kernel
theorem dX10_isHour_11 : decode cX10_isHour 11 = .ok (.i2l, 1) := by decide +kernel
theorem dX10_isHour_12 : decode cX10_isHour 12 = .ok (.invokestatic 66, 3) := by decide +kernel
theorem dX10_isHour_15 : decode cX10_isHour 15 = .ok (.ireturn, 1) := by decide +kernel
theorem dX10_owed_0 : decode cX10_owed 0 = .ok (.iload_n 1, 1) := by decide +kernel
theorem dX10_owed_1 : decode cX10_owed 1 = .ok (.invokestatic 74, 3) := by decide +kernel
theorem dX10_owed_4 : decode cX10_owed 4 = .ok (.ifCond .ne 5, 3) := by decide +kernel
theorem dX10_owed_7 : decode cX10_owed 7 = .ok (.iconst (-1), 1) := by decide +kernel
theorem dX10_owed_8 : decode cX10_owed 8 = .ok (.ireturn, 1) := by decide +kernel
theorem dX10_owed_9 : decode cX10_owed 9 = .ok (.aload_n 0, 1) := by decide +kernel
theorem dX10_owed_10 : decode cX10_owed 10 = .ok (.iload_n 1, 1) := by decide +kernel
theorem dX10_owed_11 : decode cX10_owed 11 = .ok (.iload_n 2, 1) := by decide +kernel
theorem dX10_owed_12 : decode cX10_owed 12 = .ok (.invokevirtual 107, 3) := by decide +kernel
theorem dX10_owed_15 : decode cX10_owed 15 = .ok (.ifCond .eq 23, 3) := by decide +kernel
theorem dX10_owed_18 : decode cX10_owed 18 = .ok (.iload_n 3, 1) := by decide +kernel
theorem dX10_owed_19 : decode cX10_owed 19 = .ok (.invokestatic 110, 3) := by decide +kernel
theorem dX10_owed_22 : decode cX10_owed 22 = .ok (.ifCond .eq 16, 3) := by decide +kernel
theorem dX10_owed_25 : decode cX10_owed 25 = .ok (.iload 4, 2) := by decide +kernel
theorem dX10_owed_27 : decode cX10_owed 27 = .ok (.i2l, 1) := by decide +kernel
theorem dX10_owed_28 : decode cX10_owed 28 = .ok (.lconst 0, 1) := by decide +kernel
theorem dX10_owed_29 : decode cX10_owed 29 = .ok (.ldc2_w 113, 3) := by decide +kernel
theorem dX10_owed_32 : decode cX10_owed 32 = .ok (.invokestatic 66, 3) := by decide +kernel
theorem dX10_owed_35 : decode cX10_owed 35 = .ok (.ifCond .ne 6, 3) := by decide +kernel
theorem dX10_owed_38 : decode cX10_owed 38 = .ok (.bipush (-2), 2) := by decide +kernel
theorem dX10_owed_40 : decode cX10_owed 40 = .ok (.ireturn, 1) := by decide +kernel
theorem dX10_owed_41 : decode cX10_owed 41 = .ok (.aload_n 0, 1) := by decide +kernel
theorem dX10_owed_42 : decode cX10_owed 42 = .ok (.iload_n 1, 1) := by decide +kernel
theorem dX10_owed_43 : decode cX10_owed 43 = .ok (.iload_n 2, 1) := by decide +kernel
theorem dX10_owed_44 : decode cX10_owed 44 = .ok (.iload 4, 2) := by decide +kernel
theorem dX10_owed_46 : decode cX10_owed 46 = .ok (.invokevirtual 115, 3) := by decide +kernel
theorem dX10_owed_49 : decode cX10_owed 49 = .ok (.ifCond .eq 15, 3) := by decide +kernel
theorem dX10_owed_52 : decode cX10_owed 52 = .ok (.aload_n 0, 1) := by decide +kernel
theorem dX10_owed_53 : decode cX10_owed 53 = .ok (.iload_n 1, 1) := by decide +kernel
theorem dX10_owed_54 : decode cX10_owed 54 = .ok (.iload_n 2, 1) := by decide +kernel
theorem dX10_owed_55 : decode cX10_owed 55 = .ok (.iload_n 3, 1) := by decide +kernel
theorem dX10_owed_56 : decode cX10_owed 56 = .ok (.iload 4, 2) := by decide +kernel
theorem dX10_owed_58 : decode cX10_owed 58 = .ok (.invokevirtual 119, 3) := by decide +kernel
theorem dX10_owed_61 : decode cX10_owed 61 = .ok (.goto 5, 3) := by decide +kernel
theorem dX10_owed_64 : decode cX10_owed 64 = .ok (.bipush (-5), 2) := by decide +kernel
theorem dX10_owed_66 : decode cX10_owed 66 = .ok (.ireturn, 1) := by decide +kernel
theorem dX10_risk_0 : decode cX10_risk 0 = .ok (.iload_n 1, 1) := by decide +kernel
theorem dX10_risk_1 : decode cX10_risk 1 = .ok (.invokestatic 74, 3) := by decide +kernel
theorem dX10_risk_4 : decode cX10_risk 4 = .ok (.ifCond .ne 5, 3) := by decide +kernel
theorem dX10_risk_7 : decode cX10_risk 7 = .ok (.iconst (-1), 1) := by decide +kernel
theorem dX10_risk_8 : decode cX10_risk 8 = .ok (.ireturn, 1) := by decide +kernel
theorem dX10_risk_9 : decode cX10_risk 9 = .ok (.aload_n 0, 1) := by decide +kernel
theorem dX10_risk_10 : decode cX10_risk 10 = .ok (.iload_n 1, 1) := by decide +kernel
theorem dX10_risk_11 : decode cX10_risk 11 = .ok (.iload_n 2, 1) := by decide +kernel
theorem dX10_risk_12 : decode cX10_risk 12 = .ok (.invokevirtual 107, 3) := by decide +kernel
theorem dX10_risk_15 : decode cX10_risk 15 = .ok (.ifCond .eq 31, 3) := by decide +kernel
theorem dX10_risk_18 : decode cX10_risk 18 = .ok (.iload_n 3, 1) := by decide +kernel
theorem dX10_risk_19 : decode cX10_risk 19 = .ok (.invokestatic 110, 3) := by decide +kernel
theorem dX10_risk_22 : decode cX10_risk 22 = .ok (.ifCond .eq 24, 3) := by decide +kernel
theorem dX10_risk_25 : decode cX10_risk 25 = .ok (.iload 4, 2) := by decide +kernel
theorem dX10_risk_27 : decode cX10_risk 27 = .ok (.i2l, 1) := by decide +kernel
theorem dX10_risk_28 : decode cX10_risk 28 = .ok (.lconst 0, 1) := by decide +kernel
theorem dX10_risk_29 : decode cX10_risk 29 = .ok (.ldc2_w 113, 3) := by decide +kernel
theorem dX10_risk_32 : decode cX10_risk 32 = .ok (.invokestatic 66, 3) := by decide +kernel
theorem dX10_risk_35 : decode cX10_risk 35 = .ok (.ifCond .eq 11, 3) := by decide +kernel
theorem dX10_risk_38 : decode cX10_risk 38 = .ok (.iload 5, 2) := by decide +kernel
theorem dX10_risk_40 : decode cX10_risk 40 = .ok (.invokestatic 80, 3) := by decide +kernel
theorem dX10_risk_43 : decode cX10_risk 43 = .ok (.ifCond .ne 6, 3) := by decide +kernel
theorem dX10_risk_46 : decode cX10_risk 46 = .ok (.bipush (-2), 2) := by decide +kernel
theorem dX10_risk_48 : decode cX10_risk 48 = .ok (.ireturn, 1) := by decide +kernel
theorem dX10_risk_49 : decode cX10_risk 49 = .ok (.aload_n 0, 1) := by decide +kernel
theorem dX10_risk_50 : decode cX10_risk 50 = .ok (.iload_n 1, 1) := by decide +kernel
theorem dX10_risk_51 : decode cX10_risk 51 = .ok (.iload_n 2, 1) := by decide +kernel
theorem dX10_risk_52 : decode cX10_risk 52 = .ok (.iload 4, 2) := by decide +kernel
theorem dX10_risk_54 : decode cX10_risk 54 = .ok (.invokevirtual 115, 3) := by decide +kernel
theorem dX10_risk_57 : decode cX10_risk 57 = .ok (.ifCond .eq 17, 3) := by decide +kernel
theorem dX10_risk_60 : decode cX10_risk 60 = .ok (.iload 4, 2) := by decide +kernel
theorem dX10_risk_62 : decode cX10_risk 62 = .ok (.ifCond .ne 8, 3) := by decide +kernel
theorem dX10_risk_65 : decode cX10_risk 65 = .ok (.iload 5, 2) := by decide +kernel
theorem dX10_risk_67 : decode cX10_risk 67 = .ok (.ifCond .ne 7, 3) := by decide +kernel
theorem dX10_risk_70 : decode cX10_risk 70 = .ok (.iconst 1, 1) := by decide +kernel
theorem dX10_risk_71 : decode cX10_risk 71 = .ok (.goto 4, 3) := by decide +kernel
theorem dX10_risk_74 : decode cX10_risk 74 = .ok (.iconst 0, 1) := by decide +kernel
theorem dX10_risk_75 : decode cX10_risk 75 = .ok (.istore 6, 2) := by decide +kernel
theorem dX10_risk_77 : decode cX10_risk 77 = .ok (.iload 6, 2) := by decide +kernel
theorem dX10_risk_79 : decode cX10_risk 79 = .ok (.ifCond .eq 17, 3) := by decide +kernel
theorem dX10_risk_82 : decode cX10_risk 82 = .ok (.aload_n 0, 1) := by decide +kernel
theorem dX10_risk_83 : decode cX10_risk 83 = .ok (.iload_n 1, 1) := by decide +kernel
theorem dX10_risk_84 : decode cX10_risk 84 = .ok (.iload_n 2, 1) := by decide +kernel
theorem dX10_risk_85 : decode cX10_risk 85 = .ok (.iload_n 3, 1) := by decide +kernel
theorem dX10_risk_86 : decode cX10_risk 86 = .ok (.iload 4, 2) := by decide +kernel
theorem dX10_risk_88 : decode cX10_risk 88 = .ok (.iload 5, 2) := by decide +kernel
theorem dX10_risk_90 : decode cX10_risk 90 = .ok (.invokevirtual 123, 3) := by decide +kernel
theorem dX10_risk_93 : decode cX10_risk 93 = .ok (.goto 5, 3) := by decide +kernel
theorem dX10_risk_96 : decode cX10_risk 96 = .ok (.bipush (-5), 2) := by decide +kernel
theorem dX10_risk_98 : decode cX10_risk 98 = .ok (.ireturn, 1) := by decide +kernel
theorem dX10_say_0 : decode cX10_say 0 = .ok (.iload_n 1, 1) := by decide +kernel
theorem dX10_say_1 : decode cX10_say 1 = .ok (.i2l, 1) := by decide +kernel
theorem dX10_say_2 : decode cX10_say 2 = .ok (.ldc2_w 127, 3) := by decide +kernel
theorem dX10_say_5 : decode cX10_say 5 = .ok (.ldc2_w 129, 3) := by decide +kernel
theorem dX10_say_8 : decode cX10_say 8 = .ok (.invokestatic 66, 3) := by decide +kernel
theorem dX10_say_11 : decode cX10_say 11 = .ok (.ifCond .ne 6, 3) := by decide +kernel
theorem dX10_say_14 : decode cX10_say 14 = .ok (.bipush (-2), 2) := by decide +kernel
theorem dX10_say_16 : decode cX10_say 16 = .ok (.ireturn, 1) := by decide +kernel
theorem dX10_say_17 : decode cX10_say 17 = .ok (.aload_n 0, 1) := by decide +kernel
theorem dX10_say_18 : decode cX10_say 18 = .ok (.getfield 131, 3) := by decide +kernel
theorem dX10_say_21 : decode cX10_say 21 = .ok (.bipush 60, 2) := by decide +kernel
theorem dX10_say_23 : decode cX10_say 23 = .ok (.if_icmp .ne 6, 3) := by decide +kernel
theorem dX10_say_26 : decode cX10_say 26 = .ok (.bipush (-4), 2) := by decide +kernel
theorem dX10_say_28 : decode cX10_say 28 = .ok (.ireturn, 1) := by decide +kernel
theorem dX10_say_29 : decode cX10_say 29 = .ok (.aload_n 0, 1) := by decide +kernel
theorem dX10_say_30 : decode cX10_say 30 = .ok (.getfield 37, 3) := by decide +kernel
theorem dX10_say_33 : decode cX10_say 33 = .ok (.aload_n 0, 1) := by decide +kernel
theorem dX10_say_34 : decode cX10_say 34 = .ok (.getfield 131, 3) := by decide +kernel
theorem dX10_say_37 : decode cX10_say 37 = .ok (.iload_n 1, 1) := by decide +kernel
theorem dX10_say_38 : decode cX10_say 38 = .ok (.iastore, 1) := by decide +kernel
theorem dX10_say_39 : decode cX10_say 39 = .ok (.aload_n 0, 1) := by decide +kernel
theorem dX10_say_40 : decode cX10_say 40 = .ok (.dup, 1) := by decide +kernel
theorem dX10_say_41 : decode cX10_say 41 = .ok (.getfield 131, 3) := by decide +kernel
theorem dX10_say_44 : decode cX10_say 44 = .ok (.iconst 1, 1) := by decide +kernel
theorem dX10_say_45 : decode cX10_say 45 = .ok (.iadd, 1) := by decide +kernel
theorem dX10_say_46 : decode cX10_say 46 = .ok (.putfield 131, 3) := by decide +kernel
theorem dX10_say_49 : decode cX10_say 49 = .ok (.aload_n 0, 1) := by decide +kernel
theorem dX10_say_50 : decode cX10_say 50 = .ok (.getfield 131, 3) := by decide +kernel
theorem dX10_say_53 : decode cX10_say 53 = .ok (.ireturn, 1) := by decide +kernel
theorem dX10_wipe_0 : decode cX10_wipe 0 = .ok (.aload_n 0, 1) := by decide +kernel
theorem dX10_wipe_1 : decode cX10_wipe 1 = .ok (.getfield 131, 3) := by decide +kernel
theorem dX10_wipe_4 : decode cX10_wipe 4 = .ok (.istore_n 1, 1) := by decide +kernel
theorem dX10_wipe_5 : decode cX10_wipe 5 = .ok (.aload_n 0, 1) := by decide +kernel
theorem dX10_wipe_6 : decode cX10_wipe 6 = .ok (.iconst 0, 1) := by decide +kernel
theorem dX10_wipe_7 : decode cX10_wipe 7 = .ok (.putfield 131, 3) := by decide +kernel
theorem dX10_wipe_10 : decode cX10_wipe 10 = .ok (.iload_n 1, 1) := by decide +kernel
theorem dX10_wipe_11 : decode cX10_wipe 11 = .ok (.ireturn, 1) := by decide +kernel
theorem dX10_fault_0 : decode cX10_fault 0 = .ok (.iconst 0, 1) := by decide +kernel
theorem dX10_fault_1 : decode cX10_fault 1 = .ok (.istore_n 1, 1) := by decide +kernel
theorem dX10_fault_2 : decode cX10_fault 2 = .ok (.iconst 0, 1) := by decide +kernel
theorem dX10_fault_3 : decode cX10_fault 3 = .ok (.istore_n 2, 1) := by decide +kernel
theorem dX10_fault_4 : decode cX10_fault 4 = .ok (.iload_n 2, 1) := by decide +kernel
theorem dX10_fault_5 : decode cX10_fault 5 = .ok (.aload_n 0, 1) := by decide +kernel
theorem dX10_fault_6 : decode cX10_fault 6 = .ok (.getfield 131, 3) := by decide +kernel
theorem dX10_fault_9 : decode cX10_fault 9 = .ok (.if_icmp .ge 95, 3) := by decide +kernel
theorem dX10_fault_12 : decode cX10_fault 12 = .ok (.aload_n 0, 1) := by decide +kernel
theorem dX10_fault_13 : decode cX10_fault 13 = .ok (.getfield 37, 3) := by decide +kernel
theorem dX10_fault_16 : decode cX10_fault 16 = .ok (.iload_n 2, 1) := by decide +kernel
theorem dX10_fault_17 : decode cX10_fault 17 = .ok (.iaload, 1) := by decide +kernel
theorem dX10_fault_18 : decode cX10_fault 18 = .ok (.istore_n 3, 1) := by decide +kernel
theorem dX10_fault_19 : decode cX10_fault 19 = .ok (.iload_n 1, 1) := by decide +kernel
theorem dX10_fault_20 : decode cX10_fault 20 = .ok (.iconst 2, 1) := by decide +kernel
theorem dX10_fault_21 : decode cX10_fault 21 = .ok (.if_icmp .ne 16, 3) := by decide +kernel
theorem dX10_fault_24 : decode cX10_fault 24 = .ok (.iload_n 3, 1) := by decide +kernel
theorem dX10_fault_25 : decode cX10_fault 25 = .ok (.bipush 46, 2) := by decide +kernel
theorem dX10_fault_27 : decode cX10_fault 27 = .ok (.if_icmp .eq 5, 3) := by decide +kernel
theorem dX10_fault_30 : decode cX10_fault 30 = .ok (.iload_n 2, 1) := by decide +kernel
theorem dX10_fault_31 : decode cX10_fault 31 = .ok (.ireturn, 1) := by decide +kernel
theorem dX10_fault_32 : decode cX10_fault 32 = .ok (.iconst 0, 1) := by decide +kernel
theorem dX10_fault_33 : decode cX10_fault 33 = .ok (.istore_n 1, 1) := by decide +kernel
theorem dX10_fault_34 : decode cX10_fault 34 = .ok (.goto 64, 3) := by decide +kernel
theorem dX10_fault_37 : decode cX10_fault 37 = .ok (.iload_n 3, 1) := by decide +kernel
theorem dX10_fault_38 : decode cX10_fault 38 = .ok (.bipush 33, 2) := by decide +kernel
theorem dX10_fault_40 : decode cX10_fault 40 = .ok (.if_icmp .ne 12, 3) := by decide +kernel
theorem dX10_fault_43 : decode cX10_fault 43 = .ok (.iload_n 1, 1) := by decide +kernel
theorem dX10_fault_44 : decode cX10_fault 44 = .ok (.ifCond .ne 8, 3) := by decide +kernel
theorem dX10_fault_47 : decode cX10_fault 47 = .ok (.iconst 1, 1) := by decide +kernel
theorem dX10_fault_48 : decode cX10_fault 48 = .ok (.istore_n 1, 1) := by decide +kernel
theorem dX10_fault_49 : decode cX10_fault 49 = .ok (.goto 49, 3) := by decide +kernel
theorem dX10_fault_52 : decode cX10_fault 52 = .ok (.iload_n 3, 1) := by decide +kernel
theorem dX10_fault_53 : decode cX10_fault 53 = .ok (.bipush 51, 2) := by decide +kernel
theorem dX10_fault_55 : decode cX10_fault 55 = .ok (.if_icmp .ne 8, 3) := by decide +kernel
theorem dX10_fault_58 : decode cX10_fault 58 = .ok (.iconst 2, 1) := by decide +kernel
theorem dX10_fault_59 : decode cX10_fault 59 = .ok (.istore_n 1, 1) := by decide +kernel
theorem dX10_fault_60 : decode cX10_fault 60 = .ok (.goto 38, 3) := by decide +kernel
theorem dX10_fault_63 : decode cX10_fault 63 = .ok (.iload_n 3, 1) := by decide +kernel
theorem dX10_fault_64 : decode cX10_fault 64 = .ok (.bipush 49, 2) := by decide +kernel
theorem dX10_fault_66 : decode cX10_fault 66 = .ok (.if_icmp .eq 25, 3) := by decide +kernel
theorem dX10_fault_69 : decode cX10_fault 69 = .ok (.iload_n 3, 1) := by decide +kernel
theorem dX10_fault_70 : decode cX10_fault 70 = .ok (.bipush 50, 2) := by decide +kernel
theorem dX10_fault_72 : decode cX10_fault 72 = .ok (.if_icmp .eq 19, 3) := by decide +kernel
theorem dX10_fault_75 : decode cX10_fault 75 = .ok (.iload_n 3, 1) := by decide +kernel
theorem dX10_fault_76 : decode cX10_fault 76 = .ok (.bipush 108, 2) := by decide +kernel
theorem dX10_fault_78 : decode cX10_fault 78 = .ok (.if_icmp .eq 13, 3) := by decide +kernel
theorem dX10_fault_81 : decode cX10_fault 81 = .ok (.iload_n 3, 1) := by decide +kernel
theorem dX10_fault_82 : decode cX10_fault 82 = .ok (.bipush 119, 2) := by decide +kernel
theorem dX10_fault_84 : decode cX10_fault 84 = .ok (.if_icmp .ne 12, 3) := by decide +kernel
theorem dX10_fault_87 : decode cX10_fault 87 = .ok (.iload_n 1, 1) := by decide +kernel
theorem dX10_fault_88 : decode cX10_fault 88 = .ok (.ifCond .ne 8, 3) := by decide +kernel
theorem dX10_fault_91 : decode cX10_fault 91 = .ok (.iconst 0, 1) := by decide +kernel
theorem dX10_fault_92 : decode cX10_fault 92 = .ok (.istore_n 1, 1) := by decide +kernel
theorem dX10_fault_93 : decode cX10_fault 93 = .ok (.goto 5, 3) := by decide +kernel
theorem dX10_fault_96 : decode cX10_fault 96 = .ok (.iload_n 2, 1) := by decide +kernel
theorem dX10_fault_97 : decode cX10_fault 97 = .ok (.ireturn, 1) := by decide +kernel
theorem dX10_fault_98 : decode cX10_fault 98 = .ok (.iinc 2 1, 3) := by decide +kernel
theorem dX10_fault_101 : decode cX10_fault 101 = .ok (.goto (-97), 3) := by decide +kernel
theorem dX10_fault_104 : decode cX10_fault 104 = .ok (.iload_n 1, 1) := by decide +kernel
theorem dX10_fault_105 : decode cX10_fault 105 = .ok (.ifCond .ne 8, 3) := by decide +kernel
theorem dX10_fault_108 : decode cX10_fault 108 = .ok (.bipush (-6), 2) := by decide +kernel
theorem dX10_fault_110 : decode cX10_fault 110 = .ok (.goto 7, 3) := by decide +kernel
theorem dX10_fault_113 : decode cX10_fault 113 = .ok (.aload_n 0, 1) := by decide +kernel
theorem dX10_fault_114 : decode cX10_fault 114 = .ok (.getfield 131, 3) := by decide +kernel
theorem dX10_fault_117 : decode cX10_fault 117 = .ok (.ireturn, 1) := by decide +kernel
theorem dX10_passHour_0 : decode cX10_passHour 0 = .ok (.aload_n 0, 1) := by decide +kernel
theorem dX10_passHour_1 : decode cX10_passHour 1 = .ok (.getfield 43, 3) := by decide +kernel
theorem dX10_passHour_4 : decode cX10_passHour 4 = .ok (.aload_n 0, 1) := by decide +kernel
theorem dX10_passHour_5 : decode cX10_passHour 5 = .ok (.getfield 135, 3) := by decide +kernel
theorem dX10_passHour_8 : decode cX10_passHour 8 = .ok (.aload_n 0, 1) := by decide +kernel
theorem dX10_passHour_9 : decode cX10_passHour 9 = .ok (.getfield 25, 3) := by decide +kernel
theorem dX10_passHour_12 : decode cX10_passHour 12 = .ok (.bipush 48, 2) := by decide +kernel
theorem dX10_passHour_14 : decode cX10_passHour 14 = .ok (.iload_n 1, 1) := by decide +kernel
theorem dX10_passHour_15 : decode cX10_passHour 15 = .ok (.imul, 1) := by decide +kernel
theorem dX10_passHour_16 : decode cX10_passHour 16 = .ok (.iload_n 2, 1) := by decide +kernel
theorem dX10_passHour_17 : decode cX10_passHour 17 = .ok (.iadd, 1) := by decide +kernel
theorem dX10_passHour_18 : decode cX10_passHour 18 = .ok (.iaload, 1) := by decide +kernel
theorem dX10_passHour_19 : decode cX10_passHour 19 = .ok (.iastore, 1) := by decide +kernel
theorem dX10_passHour_20 : decode cX10_passHour 20 = .ok (.aload_n 0, 1) := by decide +kernel
theorem dX10_passHour_21 : decode cX10_passHour 21 = .ok (.getfield 46, 3) := by decide +kernel
theorem dX10_passHour_24 : decode cX10_passHour 24 = .ok (.aload_n 0, 1) := by decide +kernel
theorem dX10_passHour_25 : decode cX10_passHour 25 = .ok (.getfield 135, 3) := by decide +kernel
theorem dX10_passHour_28 : decode cX10_passHour 28 = .ok (.iload_n 3, 1) := by decide +kernel
theorem dX10_passHour_29 : decode cX10_passHour 29 = .ok (.iastore, 1) := by decide +kernel
theorem dX10_passHour_30 : decode cX10_passHour 30 = .ok (.aload_n 0, 1) := by decide +kernel
theorem dX10_passHour_31 : decode cX10_passHour 31 = .ok (.getfield 40, 3) := by decide +kernel
theorem dX10_passHour_34 : decode cX10_passHour 34 = .ok (.aload_n 0, 1) := by decide +kernel
theorem dX10_passHour_35 : decode cX10_passHour 35 = .ok (.getfield 135, 3) := by decide +kernel
theorem dX10_passHour_38 : decode cX10_passHour 38 = .ok (.aload_n 0, 1) := by decide +kernel
theorem dX10_passHour_39 : decode cX10_passHour 39 = .ok (.getfield 43, 3) := by decide +kernel
theorem dX10_passHour_42 : decode cX10_passHour 42 = .ok (.aload_n 0, 1) := by decide +kernel
theorem dX10_passHour_43 : decode cX10_passHour 43 = .ok (.getfield 135, 3) := by decide +kernel
theorem dX10_passHour_46 : decode cX10_passHour 46 = .ok (.iaload, 1) := by decide +kernel
theorem dX10_passHour_47 : decode cX10_passHour 47 = .ok (.iload_n 3, 1) := by decide +kernel
theorem dX10_passHour_48 : decode cX10_passHour 48 = .ok (.imul, 1) := by decide +kernel
theorem dX10_passHour_49 : decode cX10_passHour 49 = .ok (.iastore, 1) := by decide +kernel
theorem dX10_passHour_50 : decode cX10_passHour 50 = .ok (.aload_n 0, 1) := by decide +kernel
theorem dX10_passHour_51 : decode cX10_passHour 51 = .ok (.dup, 1) := by decide +kernel
theorem dX10_passHour_52 : decode cX10_passHour 52 = .ok (.getfield 135, 3) := by decide +kernel
theorem dX10_passHour_55 : decode cX10_passHour 55 = .ok (.iconst 1, 1) := by decide +kernel
theorem dX10_passHour_56 : decode cX10_passHour 56 = .ok (.iadd, 1) := by decide +kernel
theorem dX10_passHour_57 : decode cX10_passHour 57 = .ok (.putfield 135, 3) := by decide +kernel
theorem dX10_passHour_60 : decode cX10_passHour 60 = .ok (.return_, 1) := by decide +kernel
theorem dX10_doThing_0 : decode cX10_doThing 0 = .ok (.iload_n 3, 1) := by decide +kernel
theorem dX10_doThing_1 : decode cX10_doThing 1 = .ok (.ifCond .ne 7, 3) := by decide +kernel
theorem dX10_doThing_4 : decode cX10_doThing 4 = .ok (.iconst 0, 1) := by decide +kernel
theorem dX10_doThing_5 : decode cX10_doThing 5 = .ok (.goto 13, 3) := by decide +kernel
theorem dX10_doThing_8 : decode cX10_doThing 8 = .ok (.iload_n 2, 1) := by decide +kernel
theorem dX10_doThing_9 : decode cX10_doThing 9 = .ok (.iconst 3, 1) := by decide +kernel
theorem dX10_doThing_10 : decode cX10_doThing 10 = .ok (.if_icmp .ne 7, 3) := by decide +kernel
theorem dX10_doThing_13 : decode cX10_doThing 13 = .ok (.iconst 2, 1) := by decide +kernel
theorem dX10_doThing_14 : decode cX10_doThing 14 = .ok (.goto 4, 3) := by decide +kernel
theorem dX10_doThing_17 : decode cX10_doThing 17 = .ok (.iconst 1, 1) := by decide +kernel
theorem dX10_doThing_18 : decode cX10_doThing 18 = .ok (.istore 4, 2) := by decide +kernel
theorem dX10_doThing_20 : decode cX10_doThing 20 = .ok (.aload_n 0, 1) := by decide +kernel
theorem dX10_doThing_21 : decode cX10_doThing 21 = .ok (.iload_n 1, 1) := by decide +kernel
theorem dX10_doThing_22 : decode cX10_doThing 22 = .ok (.aload_n 0, 1) := by decide +kernel
theorem dX10_doThing_23 : decode cX10_doThing 23 = .ok (.getfield 138, 3) := by decide +kernel
theorem dX10_doThing_26 : decode cX10_doThing 26 = .ok (.iload_n 2, 1) := by decide +kernel
theorem dX10_doThing_27 : decode cX10_doThing 27 = .ok (.invokevirtual 115, 3) := by decide +kernel
theorem dX10_doThing_30 : decode cX10_doThing 30 = .ok (.ifCond .eq 12, 3) := by decide +kernel
theorem dX10_doThing_33 : decode cX10_doThing 33 = .ok (.iload 4, 2) := by decide +kernel
theorem dX10_doThing_35 : decode cX10_doThing 35 = .ok (.aload_n 0, 1) := by decide +kernel
theorem dX10_doThing_36 : decode cX10_doThing 36 = .ok (.getfield 141, 3) := by decide +kernel
theorem dX10_doThing_39 : decode cX10_doThing 39 = .ok (.if_icmp .le 5, 3) := by decide +kernel
theorem dX10_doThing_42 : decode cX10_doThing 42 = .ok (.iconst 0, 1) := by decide +kernel
theorem dX10_doThing_43 : decode cX10_doThing 43 = .ok (.ireturn, 1) := by decide +kernel
theorem dX10_doThing_44 : decode cX10_doThing 44 = .ok (.aload_n 0, 1) := by decide +kernel
theorem dX10_doThing_45 : decode cX10_doThing 45 = .ok (.aload_n 0, 1) := by decide +kernel
theorem dX10_doThing_46 : decode cX10_doThing 46 = .ok (.getfield 144, 3) := by decide +kernel
theorem dX10_doThing_49 : decode cX10_doThing 49 = .ok (.iload_n 2, 1) := by decide +kernel
theorem dX10_doThing_50 : decode cX10_doThing 50 = .ok (.iload_n 3, 1) := by decide +kernel
theorem dX10_doThing_51 : decode cX10_doThing 51 = .ok (.invokevirtual 100, 3) := by decide +kernel
theorem dX10_doThing_54 : decode cX10_doThing 54 = .ok (.istore 5, 2) := by decide +kernel
theorem dX10_doThing_56 : decode cX10_doThing 56 = .ok (.aload_n 0, 1) := by decide +kernel
theorem dX10_doThing_57 : decode cX10_doThing 57 = .ok (.iload_n 1, 1) := by decide +kernel
theorem dX10_doThing_58 : decode cX10_doThing 58 = .ok (.aload_n 0, 1) := by decide +kernel
theorem dX10_doThing_59 : decode cX10_doThing 59 = .ok (.getfield 138, 3) := by decide +kernel
theorem dX10_doThing_62 : decode cX10_doThing 62 = .ok (.iload 5, 2) := by decide +kernel
theorem dX10_doThing_64 : decode cX10_doThing 64 = .ok (.invokevirtual 147, 3) := by decide +kernel
theorem dX10_doThing_67 : decode cX10_doThing 67 = .ok (.aload_n 0, 1) := by decide +kernel
theorem dX10_doThing_68 : decode cX10_doThing 68 = .ok (.aload_n 0, 1) := by decide +kernel
theorem dX10_doThing_69 : decode cX10_doThing 69 = .ok (.iload_n 1, 1) := by decide +kernel
theorem dX10_doThing_70 : decode cX10_doThing 70 = .ok (.aload_n 0, 1) := by decide +kernel
theorem dX10_doThing_71 : decode cX10_doThing 71 = .ok (.getfield 138, 3) := by decide +kernel
theorem dX10_doThing_74 : decode cX10_doThing 74 = .ok (.aload_n 0, 1) := by decide +kernel
theorem dX10_doThing_75 : decode cX10_doThing 75 = .ok (.getfield 144, 3) := by decide +kernel
theorem dX10_doThing_78 : decode cX10_doThing 78 = .ok (.iload_n 2, 1) := by decide +kernel
theorem dX10_doThing_79 : decode cX10_doThing 79 = .ok (.invokevirtual 119, 3) := by decide +kernel
theorem dX10_doThing_82 : decode cX10_doThing 82 = .ok (.putfield 144, 3) := by decide +kernel
theorem dX10_doThing_85 : decode cX10_doThing 85 = .ok (.aload_n 0, 1) := by decide +kernel
theorem dX10_doThing_86 : decode cX10_doThing 86 = .ok (.dup, 1) := by decide +kernel
theorem dX10_doThing_87 : decode cX10_doThing 87 = .ok (.getfield 141, 3) := by decide +kernel
theorem dX10_doThing_90 : decode cX10_doThing 90 = .ok (.iload 4, 2) := by decide +kernel
theorem dX10_doThing_92 : decode cX10_doThing 92 = .ok (.isub, 1) := by decide +kernel
theorem dX10_doThing_93 : decode cX10_doThing 93 = .ok (.putfield 141, 3) := by decide +kernel
theorem dX10_doThing_96 : decode cX10_doThing 96 = .ok (.aload_n 0, 1) := by decide +kernel
theorem dX10_doThing_97 : decode cX10_doThing 97 = .ok (.dup, 1) := by decide +kernel
theorem dX10_doThing_98 : decode cX10_doThing 98 = .ok (.getfield 138, 3) := by decide +kernel
theorem dX10_doThing_101 : decode cX10_doThing 101 = .ok (.iload_n 2, 1) := by decide +kernel
theorem dX10_doThing_102 : decode cX10_doThing 102 = .ok (.iconst 4, 1) := by decide +kernel
theorem dX10_doThing_103 : decode cX10_doThing 103 = .ok (.if_icmp .ne 7, 3) := by decide +kernel
theorem dX10_doThing_106 : decode cX10_doThing 106 = .ok (.iconst 0, 1) := by decide +kernel
theorem dX10_doThing_107 : decode cX10_doThing 107 = .ok (.goto 4, 3) := by decide +kernel
theorem dX10_doThing_110 : decode cX10_doThing 110 = .ok (.iconst 1, 1) := by decide +kernel
theorem dX10_doThing_111 : decode cX10_doThing 111 = .ok (.iadd, 1) := by decide +kernel
theorem dX10_doThing_112 : decode cX10_doThing 112 = .ok (.putfield 138, 3) := by decide +kernel
theorem dX10_doThing_115 : decode cX10_doThing 115 = .ok (.iload_n 2, 1) := by decide +kernel
theorem dX10_doThing_116 : decode cX10_doThing 116 = .ok (.iconst 3, 1) := by decide +kernel
theorem dX10_doThing_117 : decode cX10_doThing 117 = .ok (.if_icmp .ne 24, 3) := by decide +kernel
theorem dX10_doThing_120 : decode cX10_doThing 120 = .ok (.aload_n 0, 1) := by decide +kernel
theorem dX10_doThing_121 : decode cX10_doThing 121 = .ok (.iload_n 1, 1) := by decide +kernel
theorem dX10_doThing_122 : decode cX10_doThing 122 = .ok (.aload_n 0, 1) := by decide +kernel
theorem dX10_doThing_123 : decode cX10_doThing 123 = .ok (.getfield 138, 3) := by decide +kernel
theorem dX10_doThing_126 : decode cX10_doThing 126 = .ok (.iload 5, 2) := by decide +kernel
theorem dX10_doThing_128 : decode cX10_doThing 128 = .ok (.invokevirtual 147, 3) := by decide +kernel
theorem dX10_doThing_131 : decode cX10_doThing 131 = .ok (.aload_n 0, 1) := by decide +kernel
theorem dX10_doThing_132 : decode cX10_doThing 132 = .ok (.dup, 1) := by decide +kernel
theorem dX10_doThing_133 : decode cX10_doThing 133 = .ok (.getfield 138, 3) := by decide +kernel
theorem dX10_doThing_136 : decode cX10_doThing 136 = .ok (.iconst 1, 1) := by decide +kernel
theorem dX10_doThing_137 : decode cX10_doThing 137 = .ok (.iadd, 1) := by decide +kernel
theorem dX10_doThing_138 : decode cX10_doThing 138 = .ok (.putfield 138, 3) := by decide +kernel
theorem dX10_doThing_141 : decode cX10_doThing 141 = .ok (.iconst 1, 1) := by decide +kernel
theorem dX10_doThing_142 : decode cX10_doThing 142 = .ok (.ireturn, 1) := by decide +kernel
theorem dX10_judgeAll_0 : decode cX10_judgeAll 0 = .ok (.aload_n 0, 1) := by decide +kernel
theorem dX10_judgeAll_1 : decode cX10_judgeAll 1 = .ok (.iconst 0, 1) := by decide +kernel
theorem dX10_judgeAll_2 : decode cX10_judgeAll 2 = .ok (.putfield 135, 3) := by decide +kernel
theorem dX10_judgeAll_5 : decode cX10_judgeAll 5 = .ok (.aload_n 0, 1) := by decide +kernel
theorem dX10_judgeAll_6 : decode cX10_judgeAll 6 = .ok (.bipush (-6), 2) := by decide +kernel
theorem dX10_judgeAll_8 : decode cX10_judgeAll 8 = .ok (.putfield 151, 3) := by decide +kernel
theorem dX10_judgeAll_11 : decode cX10_judgeAll 11 = .ok (.aload_n 0, 1) := by decide +kernel
theorem dX10_judgeAll_12 : decode cX10_judgeAll 12 = .ok (.iload_n 2, 1) := by decide +kernel
theorem dX10_judgeAll_13 : decode cX10_judgeAll 13 = .ok (.putfield 144, 3) := by decide +kernel
theorem dX10_judgeAll_16 : decode cX10_judgeAll 16 = .ok (.aload_n 0, 1) := by decide +kernel
theorem dX10_judgeAll_17 : decode cX10_judgeAll 17 = .ok (.iconst 0, 1) := by decide +kernel
theorem dX10_judgeAll_18 : decode cX10_judgeAll 18 = .ok (.putfield 138, 3) := by decide +kernel
theorem dX10_judgeAll_21 : decode cX10_judgeAll 21 = .ok (.aload_n 0, 1) := by decide +kernel
theorem dX10_judgeAll_22 : decode cX10_judgeAll 22 = .ok (.iload_n 3, 1) := by decide +kernel
theorem dX10_judgeAll_23 : decode cX10_judgeAll 23 = .ok (.putfield 141, 3) := by decide +kernel
theorem dX10_judgeAll_26 : decode cX10_judgeAll 26 = .ok (.iconst 0, 1) := by decide +kernel
theorem dX10_judgeAll_27 : decode cX10_judgeAll 27 = .ok (.istore 4, 2) := by decide +kernel
theorem dX10_judgeAll_29 : decode cX10_judgeAll 29 = .ok (.iconst 0, 1) := by decide +kernel
theorem dX10_judgeAll_30 : decode cX10_judgeAll 30 = .ok (.istore 5, 2) := by decide +kernel
theorem dX10_judgeAll_32 : decode cX10_judgeAll 32 = .ok (.iconst 0, 1) := by decide +kernel
theorem dX10_judgeAll_33 : decode cX10_judgeAll 33 = .ok (.istore 6, 2) := by decide +kernel
theorem dX10_judgeAll_35 : decode cX10_judgeAll 35 = .ok (.iload 6, 2) := by decide +kernel
theorem dX10_judgeAll_37 : decode cX10_judgeAll 37 = .ok (.aload_n 0, 1) := by decide +kernel
theorem dX10_judgeAll_38 : decode cX10_judgeAll 38 = .ok (.getfield 131, 3) := by decide +kernel
theorem dX10_judgeAll_41 : decode cX10_judgeAll 41 = .ok (.if_icmp .ge 98, 3) := by decide +kernel
theorem dX10_judgeAll_44 : decode cX10_judgeAll 44 = .ok (.aload_n 0, 1) := by decide +kernel
theorem dX10_judgeAll_45 : decode cX10_judgeAll 45 = .ok (.getfield 151, 3) := by decide +kernel
theorem dX10_judgeAll_48 : decode cX10_judgeAll 48 = .ok (.ifCond .ge 91, 3) := by decide +kernel
theorem dX10_judgeAll_51 : decode cX10_judgeAll 51 = .ok (.aload_n 0, 1) := by decide +kernel
theorem dX10_judgeAll_52 : decode cX10_judgeAll 52 = .ok (.getfield 37, 3) := by decide +kernel
theorem dX10_judgeAll_55 : decode cX10_judgeAll 55 = .ok (.iload 6, 2) := by decide +kernel
theorem dX10_judgeAll_57 : decode cX10_judgeAll 57 = .ok (.iaload, 1) := by decide +kernel
theorem dX10_judgeAll_58 : decode cX10_judgeAll 58 = .ok (.istore 7, 2) := by decide +kernel
theorem dX10_judgeAll_60 : decode cX10_judgeAll 60 = .ok (.iload 7, 2) := by decide +kernel
theorem dX10_judgeAll_62 : decode cX10_judgeAll 62 = .ok (.bipush 33, 2) := by decide +kernel
theorem dX10_judgeAll_64 : decode cX10_judgeAll 64 = .ok (.if_icmp .ne 9, 3) := by decide +kernel
theorem dX10_judgeAll_67 : decode cX10_judgeAll 67 = .ok (.iconst 1, 1) := by decide +kernel
theorem dX10_judgeAll_68 : decode cX10_judgeAll 68 = .ok (.istore 5, 2) := by decide +kernel
theorem dX10_judgeAll_70 : decode cX10_judgeAll 70 = .ok (.goto 63, 3) := by decide +kernel
theorem dX10_judgeAll_73 : decode cX10_judgeAll 73 = .ok (.iload 7, 2) := by decide +kernel
theorem dX10_judgeAll_75 : decode cX10_judgeAll 75 = .ok (.bipush 46, 2) := by decide +kernel
theorem dX10_judgeAll_77 : decode cX10_judgeAll 77 = .ok (.if_icmp .eq 56, 3) := by decide +kernel
theorem dX10_judgeAll_80 : decode cX10_judgeAll 80 = .ok (.iload 7, 2) := by decide +kernel
theorem dX10_judgeAll_82 : decode cX10_judgeAll 82 = .ok (.bipush 119, 2) := by decide +kernel
theorem dX10_judgeAll_84 : decode cX10_judgeAll 84 = .ok (.if_icmp .ne 7, 3) := by decide +kernel
theorem dX10_judgeAll_87 : decode cX10_judgeAll 87 = .ok (.iconst 0, 1) := by decide +kernel
theorem dX10_judgeAll_88 : decode cX10_judgeAll 88 = .ok (.goto 19, 3) := by decide +kernel
theorem dX10_judgeAll_91 : decode cX10_judgeAll 91 = .ok (.iload 7, 2) := by decide +kernel
theorem dX10_judgeAll_93 : decode cX10_judgeAll 93 = .ok (.bipush 108, 2) := by decide +kernel
theorem dX10_judgeAll_95 : decode cX10_judgeAll 95 = .ok (.if_icmp .ne 7, 3) := by decide +kernel
theorem dX10_judgeAll_98 : decode cX10_judgeAll 98 = .ok (.iconst 4, 1) := by decide +kernel
theorem dX10_judgeAll_99 : decode cX10_judgeAll 99 = .ok (.goto 8, 3) := by decide +kernel
theorem dX10_judgeAll_102 : decode cX10_judgeAll 102 = .ok (.iload 7, 2) := by decide +kernel
theorem dX10_judgeAll_104 : decode cX10_judgeAll 104 = .ok (.bipush 48, 2) := by decide +kernel
theorem dX10_judgeAll_106 : decode cX10_judgeAll 106 = .ok (.isub, 1) := by decide +kernel
theorem dX10_judgeAll_107 : decode cX10_judgeAll 107 = .ok (.istore 8, 2) := by decide +kernel
theorem dX10_judgeAll_109 : decode cX10_judgeAll 109 = .ok (.aload_n 0, 1) := by decide +kernel
theorem dX10_judgeAll_110 : decode cX10_judgeAll 110 = .ok (.iload_n 1, 1) := by decide +kernel
theorem dX10_judgeAll_111 : decode cX10_judgeAll 111 = .ok (.iload 8, 2) := by decide +kernel
theorem dX10_judgeAll_113 : decode cX10_judgeAll 113 = .ok (.iload 5, 2) := by decide +kernel
theorem dX10_judgeAll_115 : decode cX10_judgeAll 115 = .ok (.invokevirtual 154, 3) := by decide +kernel
theorem dX10_judgeAll_118 : decode cX10_judgeAll 118 = .ok (.ifCond .ne 9, 3) := by decide +kernel
theorem dX10_judgeAll_121 : decode cX10_judgeAll 121 = .ok (.aload_n 0, 1) := by decide +kernel
theorem dX10_judgeAll_122 : decode cX10_judgeAll 122 = .ok (.iload 4, 2) := by decide +kernel
theorem dX10_judgeAll_124 : decode cX10_judgeAll 124 = .ok (.putfield 151, 3) := by decide +kernel
theorem dX10_judgeAll_127 : decode cX10_judgeAll 127 = .ok (.iinc 4 1, 3) := by decide +kernel
theorem dX10_judgeAll_130 : decode cX10_judgeAll 130 = .ok (.iconst 0, 1) := by decide +kernel
theorem dX10_judgeAll_131 : decode cX10_judgeAll 131 = .ok (.istore 5, 2) := by decide +kernel
theorem dX10_judgeAll_133 : decode cX10_judgeAll 133 = .ok (.iinc 6 1, 3) := by decide +kernel
theorem dX10_judgeAll_136 : decode cX10_judgeAll 136 = .ok (.goto (-101), 3) := by decide +kernel
theorem dX10_judgeAll_139 : decode cX10_judgeAll 139 = .ok (.return_, 1) := by decide +kernel
theorem dX10_safeOfTimes_0 : decode cX10_safeOfTimes 0 = .ok (.ldc 104, 2) := by decide +kernel
theorem dX10_safeOfTimes_2 : decode cX10_safeOfTimes 2 = .ok (.istore_n 1, 1) := by decide +kernel
theorem dX10_safeOfTimes_3 : decode cX10_safeOfTimes 3 = .ok (.aload_n 0, 1) := by decide +kernel
theorem dX10_safeOfTimes_4 : decode cX10_safeOfTimes 4 = .ok (.getfield 135, 3) := by decide +kernel
theorem dX10_safeOfTimes_7 : decode cX10_safeOfTimes 7 = .ok (.iconst 1, 1) := by decide +kernel
theorem dX10_safeOfTimes_8 : decode cX10_safeOfTimes 8 = .ok (.isub, 1) := by decide +kernel
theorem dX10_safeOfTimes_9 : decode cX10_safeOfTimes 9 = .ok (.istore_n 2, 1) := by decide +kernel
theorem dX10_safeOfTimes_10 : decode cX10_safeOfTimes 10 = .ok (.iload_n 2, 1) := by decide +kernel
theorem dX10_safeOfTimes_11 : decode cX10_safeOfTimes 11 = .ok (.ifCond .lt 20, 3) := by decide +kernel
theorem dX10_safeOfTimes_14 : decode cX10_safeOfTimes 14 = .ok (.iload_n 1, 1) := by decide +kernel
theorem dX10_safeOfTimes_15 : decode cX10_safeOfTimes 15 = .ok (.aload_n 0, 1) := by decide +kernel
theorem dX10_safeOfTimes_16 : decode cX10_safeOfTimes 16 = .ok (.getfield 40, 3) := by decide +kernel
theorem dX10_safeOfTimes_19 : decode cX10_safeOfTimes 19 = .ok (.iload_n 2, 1) := by decide +kernel
theorem dX10_safeOfTimes_20 : decode cX10_safeOfTimes 20 = .ok (.iaload, 1) := by decide +kernel
theorem dX10_safeOfTimes_21 : decode cX10_safeOfTimes 21 = .ok (.invokestatic 157, 3) := by decide +kernel
theorem dX10_safeOfTimes_24 : decode cX10_safeOfTimes 24 = .ok (.istore_n 1, 1) := by decide +kernel
theorem dX10_safeOfTimes_25 : decode cX10_safeOfTimes 25 = .ok (.iinc 2 (-1), 3) := by decide +kernel
theorem dX10_safeOfTimes_28 : decode cX10_safeOfTimes 28 = .ok (.goto (-18), 3) := by decide +kernel
theorem dX10_safeOfTimes_31 : decode cX10_safeOfTimes 31 = .ok (.iload_n 1, 1) := by decide +kernel
theorem dX10_safeOfTimes_32 : decode cX10_safeOfTimes 32 = .ok (.ireturn, 1) := by decide +kernel
theorem dX10_mostRisk_0 : decode cX10_mostRisk 0 = .ok (.bipush (-6), 2) := by decide +kernel
theorem dX10_mostRisk_2 : decode cX10_mostRisk 2 = .ok (.istore_n 1, 1) := by decide +kernel
theorem dX10_mostRisk_3 : decode cX10_mostRisk 3 = .ok (.iconst 0, 1) := by decide +kernel
theorem dX10_mostRisk_4 : decode cX10_mostRisk 4 = .ok (.istore_n 2, 1) := by decide +kernel
theorem dX10_mostRisk_5 : decode cX10_mostRisk 5 = .ok (.iload_n 2, 1) := by decide +kernel
theorem dX10_mostRisk_6 : decode cX10_mostRisk 6 = .ok (.aload_n 0, 1) := by decide +kernel
theorem dX10_mostRisk_7 : decode cX10_mostRisk 7 = .ok (.getfield 135, 3) := by decide +kernel
theorem dX10_mostRisk_10 : decode cX10_mostRisk 10 = .ok (.if_icmp .ge 34, 3) := by decide +kernel
theorem dX10_mostRisk_13 : decode cX10_mostRisk 13 = .ok (.iload_n 1, 1) := by decide +kernel
theorem dX10_mostRisk_14 : decode cX10_mostRisk 14 = .ok (.ifCond .lt 18, 3) := by decide +kernel
theorem dX10_mostRisk_17 : decode cX10_mostRisk 17 = .ok (.aload_n 0, 1) := by decide +kernel
theorem dX10_mostRisk_18 : decode cX10_mostRisk 18 = .ok (.getfield 40, 3) := by decide +kernel
theorem dX10_mostRisk_21 : decode cX10_mostRisk 21 = .ok (.iload_n 2, 1) := by decide +kernel
theorem dX10_mostRisk_22 : decode cX10_mostRisk 22 = .ok (.iaload, 1) := by decide +kernel
theorem dX10_mostRisk_23 : decode cX10_mostRisk 23 = .ok (.aload_n 0, 1) := by decide +kernel
theorem dX10_mostRisk_24 : decode cX10_mostRisk 24 = .ok (.getfield 40, 3) := by decide +kernel
theorem dX10_mostRisk_27 : decode cX10_mostRisk 27 = .ok (.iload_n 1, 1) := by decide +kernel
theorem dX10_mostRisk_28 : decode cX10_mostRisk 28 = .ok (.iaload, 1) := by decide +kernel
theorem dX10_mostRisk_29 : decode cX10_mostRisk 29 = .ok (.if_icmp .le 7, 3) := by decide +kernel
theorem dX10_mostRisk_32 : decode cX10_mostRisk 32 = .ok (.iload_n 2, 1) := by decide +kernel
theorem dX10_mostRisk_33 : decode cX10_mostRisk 33 = .ok (.goto 4, 3) := by decide +kernel
theorem dX10_mostRisk_36 : decode cX10_mostRisk 36 = .ok (.iload_n 1, 1) := by decide +kernel
theorem dX10_mostRisk_37 : decode cX10_mostRisk 37 = .ok (.istore_n 1, 1) := by decide +kernel
theorem dX10_mostRisk_38 : decode cX10_mostRisk 38 = .ok (.iinc 2 1, 3) := by decide +kernel
theorem dX10_mostRisk_41 : decode cX10_mostRisk 41 = .ok (.goto (-36), 3) := by decide +kernel
theorem dX10_mostRisk_44 : decode cX10_mostRisk 44 = .ok (.iload_n 1, 1) := by decide +kernel
theorem dX10_mostRisk_45 : decode cX10_mostRisk 45 = .ok (.ireturn, 1) := by decide +kernel
theorem dX10_judge_0 : decode cX10_judge 0 = .ok (.iload_n 1, 1) := by decide +kernel
theorem dX10_judge_1 : decode cX10_judge 1 = .ok (.invokestatic 74, 3) := by decide +kernel
theorem dX10_judge_4 : decode cX10_judge 4 = .ok (.ifCond .ne 5, 3) := by decide +kernel
theorem dX10_judge_7 : decode cX10_judge 7 = .ok (.iconst (-1), 1) := by decide +kernel
theorem dX10_judge_8 : decode cX10_judge 8 = .ok (.ireturn, 1) := by decide +kernel
theorem dX10_judge_9 : decode cX10_judge 9 = .ok (.iload_n 2, 1) := by decide +kernel
theorem dX10_judge_10 : decode cX10_judge 10 = .ok (.invokestatic 110, 3) := by decide +kernel
theorem dX10_judge_13 : decode cX10_judge 13 = .ok (.ifCond .eq 23, 3) := by decide +kernel
theorem dX10_judge_16 : decode cX10_judge 16 = .ok (.iload_n 3, 1) := by decide +kernel
theorem dX10_judge_17 : decode cX10_judge 17 = .ok (.invokestatic 161, 3) := by decide +kernel
theorem dX10_judge_20 : decode cX10_judge 20 = .ok (.ifCond .eq 16, 3) := by decide +kernel
theorem dX10_judge_23 : decode cX10_judge 23 = .ok (.iload 4, 2) := by decide +kernel
theorem dX10_judge_25 : decode cX10_judge 25 = .ok (.i2l, 1) := by decide +kernel
theorem dX10_judge_26 : decode cX10_judge 26 = .ok (.lconst 0, 1) := by decide +kernel
theorem dX10_judge_27 : decode cX10_judge 27 = .ok (.ldc2_w 164, 3) := by decide +kernel
theorem dX10_judge_30 : decode cX10_judge 30 = .ok (.invokestatic 66, 3) := by decide +kernel
theorem dX10_judge_33 : decode cX10_judge 33 = .ok (.ifCond .ne 6, 3) := by decide +kernel
theorem dX10_judge_36 : decode cX10_judge 36 = .ok (.bipush (-2), 2) := by decide +kernel
theorem dX10_judge_38 : decode cX10_judge 38 = .ok (.ireturn, 1) := by decide +kernel
theorem dX10_judge_39 : decode cX10_judge 39 = .ok (.aload_n 0, 1) := by decide +kernel
theorem dX10_judge_40 : decode cX10_judge 40 = .ok (.invokevirtual 166, 3) := by decide +kernel
theorem dX10_judge_43 : decode cX10_judge 43 = .ok (.ifCond .lt 6, 3) := by decide +kernel
theorem dX10_judge_46 : decode cX10_judge 46 = .ok (.bipush (-5), 2) := by decide +kernel
theorem dX10_judge_48 : decode cX10_judge 48 = .ok (.ireturn, 1) := by decide +kernel
theorem dX10_judge_49 : decode cX10_judge 49 = .ok (.aload_n 0, 1) := by decide +kernel
theorem dX10_judge_50 : decode cX10_judge 50 = .ok (.iload_n 1, 1) := by decide +kernel
theorem dX10_judge_51 : decode cX10_judge 51 = .ok (.iload_n 2, 1) := by decide +kernel
theorem dX10_judge_52 : decode cX10_judge 52 = .ok (.iload_n 3, 1) := by decide +kernel
theorem dX10_judge_53 : decode cX10_judge 53 = .ok (.invokevirtual 170, 3) := by decide +kernel
theorem dX10_judge_56 : decode cX10_judge 56 = .ok (.iload 4, 2) := by decide +kernel
theorem dX10_judge_58 : decode cX10_judge 58 = .ok (.tableswitch 68 0 5 #[38, 43, 48, 53, 58, 63], 38) := by decide +kernel
theorem dX10_judge_96 : decode cX10_judge 96 = .ok (.aload_n 0, 1) := by decide +kernel
theorem dX10_judge_97 : decode cX10_judge 97 = .ok (.getfield 151, 3) := by decide +kernel
theorem dX10_judge_100 : decode cX10_judge 100 = .ok (.ireturn, 1) := by decide +kernel
theorem dX10_judge_101 : decode cX10_judge 101 = .ok (.aload_n 0, 1) := by decide +kernel
theorem dX10_judge_102 : decode cX10_judge 102 = .ok (.getfield 135, 3) := by decide +kernel
theorem dX10_judge_105 : decode cX10_judge 105 = .ok (.ireturn, 1) := by decide +kernel
theorem dX10_judge_106 : decode cX10_judge 106 = .ok (.aload_n 0, 1) := by decide +kernel
theorem dX10_judge_107 : decode cX10_judge 107 = .ok (.getfield 144, 3) := by decide +kernel
theorem dX10_judge_110 : decode cX10_judge 110 = .ok (.ireturn, 1) := by decide +kernel
theorem dX10_judge_111 : decode cX10_judge 111 = .ok (.aload_n 0, 1) := by decide +kernel
theorem dX10_judge_112 : decode cX10_judge 112 = .ok (.invokevirtual 173, 3) := by decide +kernel
theorem dX10_judge_115 : decode cX10_judge 115 = .ok (.ireturn, 1) := by decide +kernel
theorem dX10_judge_116 : decode cX10_judge 116 = .ok (.aload_n 0, 1) := by decide +kernel
theorem dX10_judge_117 : decode cX10_judge 117 = .ok (.invokevirtual 176, 3) := by decide +kernel
theorem dX10_judge_120 : decode cX10_judge 120 = .ok (.ireturn, 1) := by decide +kernel
theorem dX10_judge_121 : decode cX10_judge 121 = .ok (.aload_n 0, 1) := by decide +kernel
theorem dX10_judge_122 : decode cX10_judge 122 = .ok (.getfield 138, 3) := by decide +kernel
theorem dX10_judge_125 : decode cX10_judge 125 = .ok (.ireturn, 1) := by decide +kernel
theorem dX10_judge_126 : decode cX10_judge 126 = .ok (.aload_n 0, 1) := by decide +kernel
theorem dX10_judge_127 : decode cX10_judge 127 = .ok (.getfield 141, 3) := by decide +kernel
theorem dX10_judge_130 : decode cX10_judge 130 = .ok (.ireturn, 1) := by decide +kernel
theorem dX10_at_0 : decode cX10_at 0 = .ok (.iload_n 0, 1) := by decide +kernel
theorem dX10_at_1 : decode cX10_at 1 = .ok (.bipush 49, 2) := by decide +kernel
theorem dX10_at_3 : decode cX10_at 3 = .ok (.imul, 1) := by decide +kernel
theorem dX10_at_4 : decode cX10_at 4 = .ok (.iload_n 1, 1) := by decide +kernel
theorem dX10_at_5 : decode cX10_at 5 = .ok (.iadd, 1) := by decide +kernel
theorem dX10_at_6 : decode cX10_at 6 = .ok (.bipush 21, 2) := by decide +kernel
theorem dX10_at_8 : decode cX10_at 8 = .ok (.imul, 1) := by decide +kernel
theorem dX10_at_9 : decode cX10_at 9 = .ok (.iload_n 2, 1) := by decide +kernel
theorem dX10_at_10 : decode cX10_at 10 = .ok (.iadd, 1) := by decide +kernel
theorem dX10_at_11 : decode cX10_at 11 = .ok (.bipush 25, 2) := by decide +kernel
theorem dX10_at_13 : decode cX10_at 13 = .ok (.imul, 1) := by decide +kernel
theorem dX10_at_14 : decode cX10_at 14 = .ok (.iload_n 3, 1) := by decide +kernel
theorem dX10_at_15 : decode cX10_at 15 = .ok (.iadd, 1) := by decide +kernel
theorem dX10_at_16 : decode cX10_at 16 = .ok (.iconst 5, 1) := by decide +kernel
theorem dX10_at_17 : decode cX10_at 17 = .ok (.imul, 1) := by decide +kernel
theorem dX10_at_18 : decode cX10_at 18 = .ok (.iload 4, 2) := by decide +kernel
theorem dX10_at_20 : decode cX10_at 20 = .ok (.iadd, 1) := by decide +kernel
theorem dX10_at_21 : decode cX10_at 21 = .ok (.ireturn, 1) := by decide +kernel
theorem dX10_valueOf_0 : decode cX10_valueOf 0 = .ok (.iload 7, 2) := by decide +kernel
theorem dX10_valueOf_2 : decode cX10_valueOf 2 = .ok (.ifCond .ne 7, 3) := by decide +kernel
theorem dX10_valueOf_5 : decode cX10_valueOf 5 = .ok (.iconst 0, 1) := by decide +kernel
theorem dX10_valueOf_6 : decode cX10_valueOf 6 = .ok (.goto 14, 3) := by decide +kernel
theorem dX10_valueOf_9 : decode cX10_valueOf 9 = .ok (.iload 6, 2) := by decide +kernel
theorem dX10_valueOf_11 : decode cX10_valueOf 11 = .ok (.iconst 3, 1) := by decide +kernel
theorem dX10_valueOf_12 : decode cX10_valueOf 12 = .ok (.if_icmp .ne 7, 3) := by decide +kernel
theorem dX10_valueOf_15 : decode cX10_valueOf 15 = .ok (.iconst 2, 1) := by decide +kernel
theorem dX10_valueOf_16 : decode cX10_valueOf 16 = .ok (.goto 4, 3) := by decide +kernel
theorem dX10_valueOf_19 : decode cX10_valueOf 19 = .ok (.iconst 1, 1) := by decide +kernel
theorem dX10_valueOf_20 : decode cX10_valueOf 20 = .ok (.istore 8, 2) := by decide +kernel
theorem dX10_valueOf_22 : decode cX10_valueOf 22 = .ok (.aload_n 0, 1) := by decide +kernel
theorem dX10_valueOf_23 : decode cX10_valueOf 23 = .ok (.iload_n 1, 1) := by decide +kernel
theorem dX10_valueOf_24 : decode cX10_valueOf 24 = .ok (.iload_n 2, 1) := by decide +kernel
theorem dX10_valueOf_25 : decode cX10_valueOf 25 = .ok (.iload 6, 2) := by decide +kernel
theorem dX10_valueOf_27 : decode cX10_valueOf 27 = .ok (.invokevirtual 115, 3) := by decide +kernel
theorem dX10_valueOf_30 : decode cX10_valueOf 30 = .ok (.ifCond .eq 21, 3) := by decide +kernel
theorem dX10_valueOf_33 : decode cX10_valueOf 33 = .ok (.iload 8, 2) := by decide +kernel
theorem dX10_valueOf_35 : decode cX10_valueOf 35 = .ok (.iload 4, 2) := by decide +kernel
theorem dX10_valueOf_37 : decode cX10_valueOf 37 = .ok (.if_icmp .gt 14, 3) := by decide +kernel
theorem dX10_valueOf_40 : decode cX10_valueOf 40 = .ok (.iload 6, 2) := by decide +kernel
theorem dX10_valueOf_42 : decode cX10_valueOf 42 = .ok (.iconst 4, 1) := by decide +kernel
theorem dX10_valueOf_43 : decode cX10_valueOf 43 = .ok (.if_icmp .ne 11, 3) := by decide +kernel
theorem dX10_valueOf_46 : decode cX10_valueOf 46 = .ok (.iload 5, 2) := by decide +kernel
theorem dX10_valueOf_48 : decode cX10_valueOf 48 = .ok (.ifCond .ne 6, 3) := by decide +kernel
theorem dX10_valueOf_51 : decode cX10_valueOf 51 = .ok (.bipush (-6), 2) := by decide +kernel
theorem dX10_valueOf_53 : decode cX10_valueOf 53 = .ok (.ireturn, 1) := by decide +kernel
theorem dX10_valueOf_54 : decode cX10_valueOf 54 = .ok (.aload_n 0, 1) := by decide +kernel
theorem dX10_valueOf_55 : decode cX10_valueOf 55 = .ok (.iload_n 1, 1) := by decide +kernel
theorem dX10_valueOf_56 : decode cX10_valueOf 56 = .ok (.iload_n 2, 1) := by decide +kernel
theorem dX10_valueOf_57 : decode cX10_valueOf 57 = .ok (.iload_n 3, 1) := by decide +kernel
theorem dX10_valueOf_58 : decode cX10_valueOf 58 = .ok (.iload 6, 2) := by decide +kernel
theorem dX10_valueOf_60 : decode cX10_valueOf 60 = .ok (.invokevirtual 119, 3) := by decide +kernel
theorem dX10_valueOf_63 : decode cX10_valueOf 63 = .ok (.istore 9, 2) := by decide +kernel
theorem dX10_valueOf_65 : decode cX10_valueOf 65 = .ok (.iload 4, 2) := by decide +kernel
theorem dX10_valueOf_67 : decode cX10_valueOf 67 = .ok (.iload 8, 2) := by decide +kernel
theorem dX10_valueOf_69 : decode cX10_valueOf 69 = .ok (.isub, 1) := by decide +kernel
theorem dX10_valueOf_70 : decode cX10_valueOf 70 = .ok (.istore 10, 2) := by decide +kernel
theorem dX10_valueOf_72 : decode cX10_valueOf 72 = .ok (.aload_n 0, 1) := by decide +kernel
theorem dX10_valueOf_73 : decode cX10_valueOf 73 = .ok (.iload_n 1, 1) := by decide +kernel
theorem dX10_valueOf_74 : decode cX10_valueOf 74 = .ok (.iload_n 2, 1) := by decide +kernel
theorem dX10_valueOf_75 : decode cX10_valueOf 75 = .ok (.iload_n 3, 1) := by decide +kernel
theorem dX10_valueOf_76 : decode cX10_valueOf 76 = .ok (.iload 6, 2) := by decide +kernel
theorem dX10_valueOf_78 : decode cX10_valueOf 78 = .ok (.iload 7, 2) := by decide +kernel
theorem dX10_valueOf_80 : decode cX10_valueOf 80 = .ok (.invokevirtual 123, 3) := by decide +kernel
theorem dX10_valueOf_83 : decode cX10_valueOf 83 = .ok (.istore 11, 2) := by decide +kernel
theorem dX10_valueOf_85 : decode cX10_valueOf 85 = .ok (.iload 6, 2) := by decide +kernel
theorem dX10_valueOf_87 : decode cX10_valueOf 87 = .ok (.iconst 4, 1) := by decide +kernel
theorem dX10_valueOf_88 : decode cX10_valueOf 88 = .ok (.if_icmp .ne 27, 3) := by decide +kernel
end
section
theorem dX10_valueOf_91 : decode cX10_valueOf 91 = .ok (.aload_n 0, 1) := by decide +kernel
theorem dX10_valueOf_92 : decode cX10_valueOf 92 = .ok (.getfield 50, 3) := by decide +kernel
theorem dX10_valueOf_95 : decode cX10_valueOf 95 = .ok (.iload_n 1, 1) := by decide +kernel
theorem dX10_valueOf_96 : decode cX10_valueOf 96 = .ok (.iload_n 2, 1) := by decide +kernel
theorem dX10_valueOf_97 : decode cX10_valueOf 97 = .ok (.iload 9, 2) := by decide +kernel
theorem dX10_valueOf_99 : decode cX10_valueOf 99 = .ok (.iload 10, 2) := by decide +kernel
theorem dX10_valueOf_101 : decode cX10_valueOf 101 = .ok (.iload 5, 2) := by decide +kernel
theorem dX10_valueOf_103 : decode cX10_valueOf 103 = .ok (.iconst 1, 1) := by decide +kernel
theorem dX10_valueOf_104 : decode cX10_valueOf 104 = .ok (.isub, 1) := by decide +kernel
theorem dX10_valueOf_105 : decode cX10_valueOf 105 = .ok (.invokestatic 179, 3) := by decide +kernel
theorem dX10_valueOf_108 : decode cX10_valueOf 108 = .ok (.iaload, 1) := by decide +kernel
theorem dX10_valueOf_109 : decode cX10_valueOf 109 = .ok (.iload 11, 2) := by decide +kernel
theorem dX10_valueOf_111 : decode cX10_valueOf 111 = .ok (.invokestatic 157, 3) := by decide +kernel
theorem dX10_valueOf_114 : decode cX10_valueOf 114 = .ok (.ireturn, 1) := by decide +kernel
theorem dX10_valueOf_115 : decode cX10_valueOf 115 = .ok (.iload 6, 2) := by decide +kernel
theorem dX10_valueOf_117 : decode cX10_valueOf 117 = .ok (.iconst 3, 1) := by decide +kernel
theorem dX10_valueOf_118 : decode cX10_valueOf 118 = .ok (.if_icmp .eq 27, 3) := by decide +kernel
theorem dX10_valueOf_121 : decode cX10_valueOf 121 = .ok (.aload_n 0, 1) := by decide +kernel
theorem dX10_valueOf_122 : decode cX10_valueOf 122 = .ok (.getfield 50, 3) := by decide +kernel
theorem dX10_valueOf_125 : decode cX10_valueOf 125 = .ok (.iload_n 1, 1) := by decide +kernel
theorem dX10_valueOf_126 : decode cX10_valueOf 126 = .ok (.iload_n 2, 1) := by decide +kernel
theorem dX10_valueOf_127 : decode cX10_valueOf 127 = .ok (.iconst 1, 1) := by decide +kernel
theorem dX10_valueOf_128 : decode cX10_valueOf 128 = .ok (.iadd, 1) := by decide +kernel
theorem dX10_valueOf_129 : decode cX10_valueOf 129 = .ok (.iload 9, 2) := by decide +kernel
theorem dX10_valueOf_131 : decode cX10_valueOf 131 = .ok (.iload 10, 2) := by decide +kernel
theorem dX10_valueOf_133 : decode cX10_valueOf 133 = .ok (.iload 5, 2) := by decide +kernel
theorem dX10_valueOf_135 : decode cX10_valueOf 135 = .ok (.invokestatic 179, 3) := by decide +kernel
theorem dX10_valueOf_138 : decode cX10_valueOf 138 = .ok (.iaload, 1) := by decide +kernel
theorem dX10_valueOf_139 : decode cX10_valueOf 139 = .ok (.iload 11, 2) := by decide +kernel
theorem dX10_valueOf_141 : decode cX10_valueOf 141 = .ok (.invokestatic 157, 3) := by decide +kernel
theorem dX10_valueOf_144 : decode cX10_valueOf 144 = .ok (.ireturn, 1) := by decide +kernel
theorem dX10_valueOf_145 : decode cX10_valueOf 145 = .ok (.aload_n 0, 1) := by decide +kernel
theorem dX10_valueOf_146 : decode cX10_valueOf 146 = .ok (.getfield 50, 3) := by decide +kernel
theorem dX10_valueOf_149 : decode cX10_valueOf 149 = .ok (.iload_n 1, 1) := by decide +kernel
theorem dX10_valueOf_150 : decode cX10_valueOf 150 = .ok (.iload_n 2, 1) := by decide +kernel
theorem dX10_valueOf_151 : decode cX10_valueOf 151 = .ok (.iconst 2, 1) := by decide +kernel
theorem dX10_valueOf_152 : decode cX10_valueOf 152 = .ok (.iadd, 1) := by decide +kernel
theorem dX10_valueOf_153 : decode cX10_valueOf 153 = .ok (.iload 9, 2) := by decide +kernel
theorem dX10_valueOf_155 : decode cX10_valueOf 155 = .ok (.iload 10, 2) := by decide +kernel
theorem dX10_valueOf_157 : decode cX10_valueOf 157 = .ok (.iload 5, 2) := by decide +kernel
theorem dX10_valueOf_159 : decode cX10_valueOf 159 = .ok (.invokestatic 179, 3) := by decide +kernel
theorem dX10_valueOf_162 : decode cX10_valueOf 162 = .ok (.iaload, 1) := by decide +kernel
theorem dX10_valueOf_163 : decode cX10_valueOf 163 = .ok (.aload_n 0, 1) := by decide +kernel
theorem dX10_valueOf_164 : decode cX10_valueOf 164 = .ok (.iload_n 1, 1) := by decide +kernel
theorem dX10_valueOf_165 : decode cX10_valueOf 165 = .ok (.iload_n 2, 1) := by decide +kernel
theorem dX10_valueOf_166 : decode cX10_valueOf 166 = .ok (.iconst 1, 1) := by decide +kernel
theorem dX10_valueOf_167 : decode cX10_valueOf 167 = .ok (.iadd, 1) := by decide +kernel
theorem dX10_valueOf_168 : decode cX10_valueOf 168 = .ok (.iload_n 3, 1) := by decide +kernel
theorem dX10_valueOf_169 : decode cX10_valueOf 169 = .ok (.iload 6, 2) := by decide +kernel
theorem dX10_valueOf_171 : decode cX10_valueOf 171 = .ok (.iload 7, 2) := by decide +kernel
theorem dX10_valueOf_173 : decode cX10_valueOf 173 = .ok (.invokevirtual 123, 3) := by decide +kernel
theorem dX10_valueOf_176 : decode cX10_valueOf 176 = .ok (.invokestatic 157, 3) := by decide +kernel
theorem dX10_valueOf_179 : decode cX10_valueOf 179 = .ok (.istore 12, 2) := by decide +kernel
theorem dX10_valueOf_181 : decode cX10_valueOf 181 = .ok (.iload 12, 2) := by decide +kernel
theorem dX10_valueOf_183 : decode cX10_valueOf 183 = .ok (.iload 11, 2) := by decide +kernel
theorem dX10_valueOf_185 : decode cX10_valueOf 185 = .ok (.invokestatic 157, 3) := by decide +kernel
theorem dX10_valueOf_188 : decode cX10_valueOf 188 = .ok (.ireturn, 1) := by decide +kernel
theorem dX10_triedAt_0 : decode cX10_triedAt 0 = .ok (.iload_n 0, 1) := by decide +kernel
theorem dX10_triedAt_1 : decode cX10_triedAt 1 = .ok (.ifCond .ne 7, 3) := by decide +kernel
theorem dX10_triedAt_4 : decode cX10_triedAt 4 = .ok (.iconst 0, 1) := by decide +kernel
theorem dX10_triedAt_5 : decode cX10_triedAt 5 = .ok (.goto 21, 3) := by decide +kernel
theorem dX10_triedAt_8 : decode cX10_triedAt 8 = .ok (.iload_n 0, 1) := by decide +kernel
theorem dX10_triedAt_9 : decode cX10_triedAt 9 = .ok (.iconst 1, 1) := by decide +kernel
theorem dX10_triedAt_10 : decode cX10_triedAt 10 = .ok (.iadd, 1) := by decide +kernel
theorem dX10_triedAt_11 : decode cX10_triedAt 11 = .ok (.iconst 2, 1) := by decide +kernel
theorem dX10_triedAt_12 : decode cX10_triedAt 12 = .ok (.idiv, 1) := by decide +kernel
theorem dX10_triedAt_13 : decode cX10_triedAt 13 = .ok (.iload_n 0, 1) := by decide +kernel
theorem dX10_triedAt_14 : decode cX10_triedAt 14 = .ok (.iconst 2, 1) := by decide +kernel
theorem dX10_triedAt_15 : decode cX10_triedAt 15 = .ok (.irem, 1) := by decide +kernel
theorem dX10_triedAt_16 : decode cX10_triedAt 16 = .ok (.ifCond .ne 8, 3) := by decide +kernel
theorem dX10_triedAt_19 : decode cX10_triedAt 19 = .ok (.bipush 10, 2) := by decide +kernel
theorem dX10_triedAt_21 : decode cX10_triedAt 21 = .ok (.goto 4, 3) := by decide +kernel
theorem dX10_triedAt_24 : decode cX10_triedAt 24 = .ok (.iconst 0, 1) := by decide +kernel
theorem dX10_triedAt_25 : decode cX10_triedAt 25 = .ok (.iadd, 1) := by decide +kernel
theorem dX10_triedAt_26 : decode cX10_triedAt 26 = .ok (.ireturn, 1) := by decide +kernel
theorem dX10_lay_0 : decode cX10_lay 0 = .ok (.aload_n 0, 1) := by decide +kernel
theorem dX10_lay_1 : decode cX10_lay 1 = .ok (.getfield 53, 3) := by decide +kernel
theorem dX10_lay_4 : decode cX10_lay 4 = .ok (.iload_n 1, 1) := by decide +kernel
theorem dX10_lay_5 : decode cX10_lay 5 = .ok (.baload, 1) := by decide +kernel
theorem dX10_lay_6 : decode cX10_lay 6 = .ok (.ifCond .eq 4, 3) := by decide +kernel
theorem dX10_lay_9 : decode cX10_lay 9 = .ok (.return_, 1) := by decide +kernel
theorem dX10_lay_10 : decode cX10_lay 10 = .ok (.aload_n 0, 1) := by decide +kernel
theorem dX10_lay_11 : decode cX10_lay 11 = .ok (.getfield 53, 3) := by decide +kernel
theorem dX10_lay_14 : decode cX10_lay 14 = .ok (.iload_n 1, 1) := by decide +kernel
theorem dX10_lay_15 : decode cX10_lay 15 = .ok (.iconst 1, 1) := by decide +kernel
theorem dX10_lay_16 : decode cX10_lay 16 = .ok (.bastore, 1) := by decide +kernel
theorem dX10_lay_17 : decode cX10_lay 17 = .ok (.aload_n 0, 1) := by decide +kernel
theorem dX10_lay_18 : decode cX10_lay 18 = .ok (.getfield 22, 3) := by decide +kernel
theorem dX10_lay_21 : decode cX10_lay 21 = .ok (.iload_n 1, 1) := by decide +kernel
theorem dX10_lay_22 : decode cX10_lay 22 = .ok (.iaload, 1) := by decide +kernel
theorem dX10_lay_23 : decode cX10_lay 23 = .ok (.istore_n 2, 1) := by decide +kernel
theorem dX10_lay_24 : decode cX10_lay 24 = .ok (.iload_n 2, 1) := by decide +kernel
theorem dX10_lay_25 : decode cX10_lay 25 = .ok (.ifCond .lt 161, 3) := by decide +kernel
theorem dX10_lay_28 : decode cX10_lay 28 = .ok (.iconst 0, 1) := by decide +kernel
theorem dX10_lay_29 : decode cX10_lay 29 = .ok (.istore_n 3, 1) := by decide +kernel
theorem dX10_lay_30 : decode cX10_lay 30 = .ok (.iload_n 3, 1) := by decide +kernel
theorem dX10_lay_31 : decode cX10_lay 31 = .ok (.iconst 4, 1) := by decide +kernel
theorem dX10_lay_32 : decode cX10_lay 32 = .ok (.if_icmp .gt 148, 3) := by decide +kernel
theorem dX10_lay_35 : decode cX10_lay 35 = .ok (.iconst 0, 1) := by decide +kernel
theorem dX10_lay_36 : decode cX10_lay 36 = .ok (.istore 4, 2) := by decide +kernel
theorem dX10_lay_38 : decode cX10_lay 38 = .ok (.iload 4, 2) := by decide +kernel
theorem dX10_lay_40 : decode cX10_lay 40 = .ok (.bipush 20, 2) := by decide +kernel
theorem dX10_lay_42 : decode cX10_lay 42 = .ok (.if_icmp .gt 132, 3) := by decide +kernel
theorem dX10_lay_45 : decode cX10_lay 45 = .ok (.iconst 0, 1) := by decide +kernel
theorem dX10_lay_46 : decode cX10_lay 46 = .ok (.istore 5, 2) := by decide +kernel
theorem dX10_lay_48 : decode cX10_lay 48 = .ok (.iload 5, 2) := by decide +kernel
theorem dX10_lay_50 : decode cX10_lay 50 = .ok (.bipush 24, 2) := by decide +kernel
theorem dX10_lay_52 : decode cX10_lay 52 = .ok (.if_icmp .gt 116, 3) := by decide +kernel
theorem dX10_lay_55 : decode cX10_lay 55 = .ok (.iload_n 2, 1) := by decide +kernel
theorem dX10_lay_56 : decode cX10_lay 56 = .ok (.aload_n 0, 1) := by decide +kernel
theorem dX10_lay_57 : decode cX10_lay 57 = .ok (.getfield 22, 3) := by decide +kernel
theorem dX10_lay_60 : decode cX10_lay 60 = .ok (.iload_n 1, 1) := by decide +kernel
theorem dX10_lay_61 : decode cX10_lay 61 = .ok (.iaload, 1) := by decide +kernel
theorem dX10_lay_62 : decode cX10_lay 62 = .ok (.if_icmp .ne 8, 3) := by decide +kernel
theorem dX10_lay_65 : decode cX10_lay 65 = .ok (.ldc 104, 2) := by decide +kernel
theorem dX10_lay_67 : decode cX10_lay 67 = .ok (.goto 4, 3) := by decide +kernel
theorem dX10_lay_70 : decode cX10_lay 70 = .ok (.iconst 0, 1) := by decide +kernel
theorem dX10_lay_71 : decode cX10_lay 71 = .ok (.istore 6, 2) := by decide +kernel
theorem dX10_lay_73 : decode cX10_lay 73 = .ok (.iconst 0, 1) := by decide +kernel
theorem dX10_lay_74 : decode cX10_lay 74 = .ok (.istore 7, 2) := by decide +kernel
theorem dX10_lay_76 : decode cX10_lay 76 = .ok (.iload 7, 2) := by decide +kernel
theorem dX10_lay_78 : decode cX10_lay 78 = .ok (.bipush 9, 2) := by decide +kernel
theorem dX10_lay_80 : decode cX10_lay 80 = .ok (.if_icmp .ge 65, 3) := by decide +kernel
theorem dX10_lay_83 : decode cX10_lay 83 = .ok (.iload_n 2, 1) := by decide +kernel
theorem dX10_lay_84 : decode cX10_lay 84 = .ok (.aload_n 0, 1) := by decide +kernel
theorem dX10_lay_85 : decode cX10_lay 85 = .ok (.getfield 22, 3) := by decide +kernel
theorem dX10_lay_88 : decode cX10_lay 88 = .ok (.iload_n 1, 1) := by decide +kernel
theorem dX10_lay_89 : decode cX10_lay 89 = .ok (.iaload, 1) := by decide +kernel
theorem dX10_lay_90 : decode cX10_lay 90 = .ok (.if_icmp .ge 55, 3) := by decide +kernel
theorem dX10_lay_93 : decode cX10_lay 93 = .ok (.iload 7, 2) := by decide +kernel
theorem dX10_lay_95 : decode cX10_lay 95 = .ok (.invokestatic 182, 3) := by decide +kernel
theorem dX10_lay_98 : decode cX10_lay 98 = .ok (.istore 8, 2) := by decide +kernel
theorem dX10_lay_100 : decode cX10_lay 100 = .ok (.aload_n 0, 1) := by decide +kernel
theorem dX10_lay_101 : decode cX10_lay 101 = .ok (.iload_n 1, 1) := by decide +kernel
theorem dX10_lay_102 : decode cX10_lay 102 = .ok (.iload_n 2, 1) := by decide +kernel
theorem dX10_lay_103 : decode cX10_lay 103 = .ok (.iload 4, 2) := by decide +kernel
theorem dX10_lay_105 : decode cX10_lay 105 = .ok (.iload 5, 2) := by decide +kernel
theorem dX10_lay_107 : decode cX10_lay 107 = .ok (.iload_n 3, 1) := by decide +kernel
theorem dX10_lay_108 : decode cX10_lay 108 = .ok (.iload 8, 2) := by decide +kernel
theorem dX10_lay_110 : decode cX10_lay 110 = .ok (.bipush 10, 2) := by decide +kernel
theorem dX10_lay_112 : decode cX10_lay 112 = .ok (.irem, 1) := by decide +kernel
theorem dX10_lay_113 : decode cX10_lay 113 = .ok (.iload 8, 2) := by decide +kernel
theorem dX10_lay_115 : decode cX10_lay 115 = .ok (.bipush 10, 2) := by decide +kernel
theorem dX10_lay_117 : decode cX10_lay 117 = .ok (.idiv, 1) := by decide +kernel
theorem dX10_lay_118 : decode cX10_lay 118 = .ok (.invokevirtual 186, 3) := by decide +kernel
theorem dX10_lay_121 : decode cX10_lay 121 = .ok (.istore 9, 2) := by decide +kernel
theorem dX10_lay_123 : decode cX10_lay 123 = .ok (.iload 9, 2) := by decide +kernel
theorem dX10_lay_125 : decode cX10_lay 125 = .ok (.iload 6, 2) := by decide +kernel
theorem dX10_lay_127 : decode cX10_lay 127 = .ok (.if_icmp .le 8, 3) := by decide +kernel
theorem dX10_lay_130 : decode cX10_lay 130 = .ok (.iload 9, 2) := by decide +kernel
theorem dX10_lay_132 : decode cX10_lay 132 = .ok (.goto 5, 3) := by decide +kernel
theorem dX10_lay_135 : decode cX10_lay 135 = .ok (.iload 6, 2) := by decide +kernel
theorem dX10_lay_137 : decode cX10_lay 137 = .ok (.istore 6, 2) := by decide +kernel
theorem dX10_lay_139 : decode cX10_lay 139 = .ok (.iinc 7 1, 3) := by decide +kernel
theorem dX10_lay_142 : decode cX10_lay 142 = .ok (.goto (-66), 3) := by decide +kernel
theorem dX10_lay_145 : decode cX10_lay 145 = .ok (.aload_n 0, 1) := by decide +kernel
theorem dX10_lay_146 : decode cX10_lay 146 = .ok (.getfield 50, 3) := by decide +kernel
theorem dX10_lay_149 : decode cX10_lay 149 = .ok (.iload_n 1, 1) := by decide +kernel
theorem dX10_lay_150 : decode cX10_lay 150 = .ok (.iload_n 2, 1) := by decide +kernel
theorem dX10_lay_151 : decode cX10_lay 151 = .ok (.iload 4, 2) := by decide +kernel
theorem dX10_lay_153 : decode cX10_lay 153 = .ok (.iload 5, 2) := by decide +kernel
theorem dX10_lay_155 : decode cX10_lay 155 = .ok (.iload_n 3, 1) := by decide +kernel
theorem dX10_lay_156 : decode cX10_lay 156 = .ok (.invokestatic 179, 3) := by decide +kernel
theorem dX10_lay_159 : decode cX10_lay 159 = .ok (.iload 6, 2) := by decide +kernel
theorem dX10_lay_161 : decode cX10_lay 161 = .ok (.iastore, 1) := by decide +kernel
theorem dX10_lay_162 : decode cX10_lay 162 = .ok (.iinc 5 1, 3) := by decide +kernel
theorem dX10_lay_165 : decode cX10_lay 165 = .ok (.goto (-117), 3) := by decide +kernel
theorem dX10_lay_168 : decode cX10_lay 168 = .ok (.iinc 4 1, 3) := by decide +kernel
theorem dX10_lay_171 : decode cX10_lay 171 = .ok (.goto (-133), 3) := by decide +kernel
theorem dX10_lay_174 : decode cX10_lay 174 = .ok (.iinc 3 1, 3) := by decide +kernel
theorem dX10_lay_177 : decode cX10_lay 177 = .ok (.goto (-147), 3) := by decide +kernel
theorem dX10_lay_180 : decode cX10_lay 180 = .ok (.iinc 2 (-1), 3) := by decide +kernel
theorem dX10_lay_183 : decode cX10_lay 183 = .ok (.goto (-159), 3) := by decide +kernel
theorem dX10_lay_186 : decode cX10_lay 186 = .ok (.return_, 1) := by decide +kernel
theorem dX10_bestOf_0 : decode cX10_bestOf 0 = .ok (.aload_n 0, 1) := by decide +kernel
theorem dX10_bestOf_1 : decode cX10_bestOf 1 = .ok (.iload_n 1, 1) := by decide +kernel
theorem dX10_bestOf_2 : decode cX10_bestOf 2 = .ok (.invokevirtual 190, 3) := by decide +kernel
theorem dX10_bestOf_5 : decode cX10_bestOf 5 = .ok (.aload_n 0, 1) := by decide +kernel
theorem dX10_bestOf_6 : decode cX10_bestOf 6 = .ok (.getfield 50, 3) := by decide +kernel
theorem dX10_bestOf_9 : decode cX10_bestOf 9 = .ok (.iload_n 1, 1) := by decide +kernel
theorem dX10_bestOf_10 : decode cX10_bestOf 10 = .ok (.iload_n 2, 1) := by decide +kernel
theorem dX10_bestOf_11 : decode cX10_bestOf 11 = .ok (.iload_n 3, 1) := by decide +kernel
theorem dX10_bestOf_12 : decode cX10_bestOf 12 = .ok (.iload 4, 2) := by decide +kernel
theorem dX10_bestOf_14 : decode cX10_bestOf 14 = .ok (.iload 5, 2) := by decide +kernel
theorem dX10_bestOf_16 : decode cX10_bestOf 16 = .ok (.invokestatic 179, 3) := by decide +kernel
theorem dX10_bestOf_19 : decode cX10_bestOf 19 = .ok (.iaload, 1) := by decide +kernel
theorem dX10_bestOf_20 : decode cX10_bestOf 20 = .ok (.ireturn, 1) := by decide +kernel
theorem dX10_doesOf_0 : decode cX10_doesOf 0 = .ok (.aload_n 0, 1) := by decide +kernel
theorem dX10_doesOf_1 : decode cX10_doesOf 1 = .ok (.iload_n 1, 1) := by decide +kernel
theorem dX10_doesOf_2 : decode cX10_doesOf 2 = .ok (.iload_n 2, 1) := by decide +kernel
theorem dX10_doesOf_3 : decode cX10_doesOf 3 = .ok (.iload_n 3, 1) := by decide +kernel
theorem dX10_doesOf_4 : decode cX10_doesOf 4 = .ok (.iload 4, 2) := by decide +kernel
theorem dX10_doesOf_6 : decode cX10_doesOf 6 = .ok (.iload 5, 2) := by decide +kernel
theorem dX10_doesOf_8 : decode cX10_doesOf 8 = .ok (.invokevirtual 193, 3) := by decide +kernel
theorem dX10_doesOf_11 : decode cX10_doesOf 11 = .ok (.istore 6, 2) := by decide +kernel
theorem dX10_doesOf_13 : decode cX10_doesOf 13 = .ok (.iconst 0, 1) := by decide +kernel
theorem dX10_doesOf_14 : decode cX10_doesOf 14 = .ok (.istore 7, 2) := by decide +kernel
theorem dX10_doesOf_16 : decode cX10_doesOf 16 = .ok (.iload 7, 2) := by decide +kernel
theorem dX10_doesOf_18 : decode cX10_doesOf 18 = .ok (.bipush 9, 2) := by decide +kernel
theorem dX10_doesOf_20 : decode cX10_doesOf 20 = .ok (.if_icmp .ge 45, 3) := by decide +kernel
theorem dX10_doesOf_23 : decode cX10_doesOf 23 = .ok (.iload 7, 2) := by decide +kernel
theorem dX10_doesOf_25 : decode cX10_doesOf 25 = .ok (.invokestatic 182, 3) := by decide +kernel
theorem dX10_doesOf_28 : decode cX10_doesOf 28 = .ok (.istore 8, 2) := by decide +kernel
theorem dX10_doesOf_30 : decode cX10_doesOf 30 = .ok (.aload_n 0, 1) := by decide +kernel
theorem dX10_doesOf_31 : decode cX10_doesOf 31 = .ok (.iload_n 1, 1) := by decide +kernel
theorem dX10_doesOf_32 : decode cX10_doesOf 32 = .ok (.iload_n 2, 1) := by decide +kernel
theorem dX10_doesOf_33 : decode cX10_doesOf 33 = .ok (.iload_n 3, 1) := by decide +kernel
theorem dX10_doesOf_34 : decode cX10_doesOf 34 = .ok (.iload 4, 2) := by decide +kernel
theorem dX10_doesOf_36 : decode cX10_doesOf 36 = .ok (.iload 5, 2) := by decide +kernel
theorem dX10_doesOf_38 : decode cX10_doesOf 38 = .ok (.iload 8, 2) := by decide +kernel
theorem dX10_doesOf_40 : decode cX10_doesOf 40 = .ok (.bipush 10, 2) := by decide +kernel
theorem dX10_doesOf_42 : decode cX10_doesOf 42 = .ok (.irem, 1) := by decide +kernel
theorem dX10_doesOf_43 : decode cX10_doesOf 43 = .ok (.iload 8, 2) := by decide +kernel
theorem dX10_doesOf_45 : decode cX10_doesOf 45 = .ok (.bipush 10, 2) := by decide +kernel
theorem dX10_doesOf_47 : decode cX10_doesOf 47 = .ok (.idiv, 1) := by decide +kernel
theorem dX10_doesOf_48 : decode cX10_doesOf 48 = .ok (.invokevirtual 186, 3) := by decide +kernel
theorem dX10_doesOf_51 : decode cX10_doesOf 51 = .ok (.iload 6, 2) := by decide +kernel
theorem dX10_doesOf_53 : decode cX10_doesOf 53 = .ok (.if_icmp .ne 6, 3) := by decide +kernel
theorem dX10_doesOf_56 : decode cX10_doesOf 56 = .ok (.iload 8, 2) := by decide +kernel
theorem dX10_doesOf_58 : decode cX10_doesOf 58 = .ok (.ireturn, 1) := by decide +kernel
theorem dX10_doesOf_59 : decode cX10_doesOf 59 = .ok (.iinc 7 1, 3) := by decide +kernel
theorem dX10_doesOf_62 : decode cX10_doesOf 62 = .ok (.goto (-46), 3) := by decide +kernel
theorem dX10_doesOf_65 : decode cX10_doesOf 65 = .ok (.bipush (-6), 2) := by decide +kernel
theorem dX10_doesOf_67 : decode cX10_doesOf 67 = .ok (.ireturn, 1) := by decide +kernel
theorem dX10_isPlace_0 : decode cX10_isPlace 0 = .ok (.iload_n 2, 1) := by decide +kernel
theorem dX10_isPlace_1 : decode cX10_isPlace 1 = .ok (.i2l, 1) := by decide +kernel
theorem dX10_isPlace_2 : decode cX10_isPlace 2 = .ok (.lconst 0, 1) := by decide +kernel
theorem dX10_isPlace_3 : decode cX10_isPlace 3 = .ok (.aload_n 0, 1) := by decide +kernel
theorem dX10_isPlace_4 : decode cX10_isPlace 4 = .ok (.getfield 22, 3) := by decide +kernel
theorem dX10_isPlace_7 : decode cX10_isPlace 7 = .ok (.iload_n 1, 1) := by decide +kernel
theorem dX10_isPlace_8 : decode cX10_isPlace 8 = .ok (.iaload, 1) := by decide +kernel
theorem dX10_isPlace_9 : decode cX10_isPlace 9 = .ok (.i2l, 1) := by decide +kernel
theorem dX10_isPlace_10 : decode cX10_isPlace 10 = .ok (.invokestatic 66, 3) := by decide +kernel
theorem dX10_isPlace_13 : decode cX10_isPlace 13 = .ok (.ifCond .eq 35, 3) := by decide +kernel
theorem dX10_isPlace_16 : decode cX10_isPlace 16 = .ok (.iload_n 3, 1) := by decide +kernel
theorem dX10_isPlace_17 : decode cX10_isPlace 17 = .ok (.invokestatic 110, 3) := by decide +kernel
theorem dX10_isPlace_20 : decode cX10_isPlace 20 = .ok (.ifCond .eq 28, 3) := by decide +kernel
theorem dX10_isPlace_23 : decode cX10_isPlace 23 = .ok (.iload 4, 2) := by decide +kernel
theorem dX10_isPlace_25 : decode cX10_isPlace 25 = .ok (.invokestatic 161, 3) := by decide +kernel
theorem dX10_isPlace_28 : decode cX10_isPlace 28 = .ok (.ifCond .eq 20, 3) := by decide +kernel
theorem dX10_isPlace_31 : decode cX10_isPlace 31 = .ok (.iload 5, 2) := by decide +kernel
theorem dX10_isPlace_33 : decode cX10_isPlace 33 = .ok (.i2l, 1) := by decide +kernel
theorem dX10_isPlace_34 : decode cX10_isPlace 34 = .ok (.lconst 0, 1) := by decide +kernel
theorem dX10_isPlace_35 : decode cX10_isPlace 35 = .ok (.ldc2_w 113, 3) := by decide +kernel
theorem dX10_isPlace_38 : decode cX10_isPlace 38 = .ok (.invokestatic 66, 3) := by decide +kernel
theorem dX10_isPlace_41 : decode cX10_isPlace 41 = .ok (.ifCond .eq 7, 3) := by decide +kernel
theorem dX10_isPlace_44 : decode cX10_isPlace 44 = .ok (.iconst 1, 1) := by decide +kernel
theorem dX10_isPlace_45 : decode cX10_isPlace 45 = .ok (.goto 4, 3) := by decide +kernel
theorem dX10_isPlace_48 : decode cX10_isPlace 48 = .ok (.iconst 0, 1) := by decide +kernel
theorem dX10_isPlace_49 : decode cX10_isPlace 49 = .ok (.ireturn, 1) := by decide +kernel
theorem dX10_best_0 : decode cX10_best 0 = .ok (.iload_n 1, 1) := by decide +kernel
theorem dX10_best_1 : decode cX10_best 1 = .ok (.invokestatic 74, 3) := by decide +kernel
theorem dX10_best_4 : decode cX10_best 4 = .ok (.ifCond .ne 5, 3) := by decide +kernel
theorem dX10_best_7 : decode cX10_best 7 = .ok (.iconst (-1), 1) := by decide +kernel
theorem dX10_best_8 : decode cX10_best 8 = .ok (.ireturn, 1) := by decide +kernel
theorem dX10_best_9 : decode cX10_best 9 = .ok (.aload_n 0, 1) := by decide +kernel
theorem dX10_best_10 : decode cX10_best 10 = .ok (.iload_n 1, 1) := by decide +kernel
theorem dX10_best_11 : decode cX10_best 11 = .ok (.iload_n 2, 1) := by decide +kernel
theorem dX10_best_12 : decode cX10_best 12 = .ok (.iload_n 3, 1) := by decide +kernel
theorem dX10_best_13 : decode cX10_best 13 = .ok (.iload 4, 2) := by decide +kernel
theorem dX10_best_15 : decode cX10_best 15 = .ok (.iload 5, 2) := by decide +kernel
theorem dX10_best_17 : decode cX10_best 17 = .ok (.invokevirtual 196, 3) := by decide +kernel
theorem dX10_best_20 : decode cX10_best 20 = .ok (.ifCond .eq 17, 3) := by decide +kernel
theorem dX10_best_23 : decode cX10_best 23 = .ok (.aload_n 0, 1) := by decide +kernel
theorem dX10_best_24 : decode cX10_best 24 = .ok (.iload_n 1, 1) := by decide +kernel
theorem dX10_best_25 : decode cX10_best 25 = .ok (.iload_n 2, 1) := by decide +kernel
theorem dX10_best_26 : decode cX10_best 26 = .ok (.iload_n 3, 1) := by decide +kernel
theorem dX10_best_27 : decode cX10_best 27 = .ok (.iload 4, 2) := by decide +kernel
theorem dX10_best_29 : decode cX10_best 29 = .ok (.iload 5, 2) := by decide +kernel
theorem dX10_best_31 : decode cX10_best 31 = .ok (.invokevirtual 193, 3) := by decide +kernel
theorem dX10_best_34 : decode cX10_best 34 = .ok (.goto 5, 3) := by decide +kernel
theorem dX10_best_37 : decode cX10_best 37 = .ok (.bipush (-2), 2) := by decide +kernel
theorem dX10_best_39 : decode cX10_best 39 = .ok (.ireturn, 1) := by decide +kernel
theorem dX10_does_0 : decode cX10_does 0 = .ok (.iload_n 1, 1) := by decide +kernel
theorem dX10_does_1 : decode cX10_does 1 = .ok (.invokestatic 74, 3) := by decide +kernel
theorem dX10_does_4 : decode cX10_does 4 = .ok (.ifCond .ne 5, 3) := by decide +kernel
theorem dX10_does_7 : decode cX10_does 7 = .ok (.iconst (-1), 1) := by decide +kernel
theorem dX10_does_8 : decode cX10_does 8 = .ok (.ireturn, 1) := by decide +kernel
theorem dX10_does_9 : decode cX10_does 9 = .ok (.aload_n 0, 1) := by decide +kernel
theorem dX10_does_10 : decode cX10_does 10 = .ok (.iload_n 1, 1) := by decide +kernel
theorem dX10_does_11 : decode cX10_does 11 = .ok (.iload_n 2, 1) := by decide +kernel
theorem dX10_does_12 : decode cX10_does 12 = .ok (.iload_n 3, 1) := by decide +kernel
theorem dX10_does_13 : decode cX10_does 13 = .ok (.iload 4, 2) := by decide +kernel
theorem dX10_does_15 : decode cX10_does 15 = .ok (.iload 5, 2) := by decide +kernel
theorem dX10_does_17 : decode cX10_does 17 = .ok (.invokevirtual 196, 3) := by decide +kernel
theorem dX10_does_20 : decode cX10_does 20 = .ok (.ifCond .ne 6, 3) := by decide +kernel
theorem dX10_does_23 : decode cX10_does 23 = .ok (.bipush (-2), 2) := by decide +kernel
theorem dX10_does_25 : decode cX10_does 25 = .ok (.ireturn, 1) := by decide +kernel
theorem dX10_does_26 : decode cX10_does 26 = .ok (.iload_n 2, 1) := by decide +kernel
theorem dX10_does_27 : decode cX10_does 27 = .ok (.aload_n 0, 1) := by decide +kernel
theorem dX10_does_28 : decode cX10_does 28 = .ok (.getfield 22, 3) := by decide +kernel
theorem dX10_does_31 : decode cX10_does 31 = .ok (.iload_n 1, 1) := by decide +kernel
theorem dX10_does_32 : decode cX10_does 32 = .ok (.iaload, 1) := by decide +kernel
theorem dX10_does_33 : decode cX10_does 33 = .ok (.if_icmp .ne 8, 3) := by decide +kernel
theorem dX10_does_36 : decode cX10_does 36 = .ok (.bipush (-6), 2) := by decide +kernel
theorem dX10_does_38 : decode cX10_does 38 = .ok (.goto 14, 3) := by decide +kernel
theorem dX10_does_41 : decode cX10_does 41 = .ok (.aload_n 0, 1) := by decide +kernel
theorem dX10_does_42 : decode cX10_does 42 = .ok (.iload_n 1, 1) := by decide +kernel
theorem dX10_does_43 : decode cX10_does 43 = .ok (.iload_n 2, 1) := by decide +kernel
theorem dX10_does_44 : decode cX10_does 44 = .ok (.iload_n 3, 1) := by decide +kernel
theorem dX10_does_45 : decode cX10_does 45 = .ok (.iload 4, 2) := by decide +kernel
theorem dX10_does_47 : decode cX10_does 47 = .ok (.iload 5, 2) := by decide +kernel
theorem dX10_does_49 : decode cX10_does 49 = .ok (.invokevirtual 200, 3) := by decide +kernel
theorem dX10_does_52 : decode cX10_does 52 = .ok (.ireturn, 1) := by decide +kernel
theorem dX10_logged_0 : decode cX10_logged 0 = .ok (.iload_n 1, 1) := by decide +kernel
theorem dX10_logged_1 : decode cX10_logged 1 = .ok (.invokestatic 74, 3) := by decide +kernel
theorem dX10_logged_4 : decode cX10_logged 4 = .ok (.ifCond .ne 5, 3) := by decide +kernel
theorem dX10_logged_7 : decode cX10_logged 7 = .ok (.iconst (-1), 1) := by decide +kernel
theorem dX10_logged_8 : decode cX10_logged 8 = .ok (.ireturn, 1) := by decide +kernel
theorem dX10_logged_9 : decode cX10_logged 9 = .ok (.iload_n 2, 1) := by decide +kernel
theorem dX10_logged_10 : decode cX10_logged 10 = .ok (.invokestatic 110, 3) := by decide +kernel
theorem dX10_logged_13 : decode cX10_logged 13 = .ok (.ifCond .eq 10, 3) := by decide +kernel
theorem dX10_logged_16 : decode cX10_logged 16 = .ok (.iload_n 3, 1) := by decide +kernel
theorem dX10_logged_17 : decode cX10_logged 17 = .ok (.invokestatic 161, 3) := by decide +kernel
theorem dX10_logged_20 : decode cX10_logged 20 = .ok (.ifCond .ne 6, 3) := by decide +kernel
theorem dX10_logged_23 : decode cX10_logged 23 = .ok (.bipush (-2), 2) := by decide +kernel
theorem dX10_logged_25 : decode cX10_logged 25 = .ok (.ireturn, 1) := by decide +kernel
theorem dX10_logged_26 : decode cX10_logged 26 = .ok (.iconst 0, 1) := by decide +kernel
theorem dX10_logged_27 : decode cX10_logged 27 = .ok (.istore 5, 2) := by decide +kernel
theorem dX10_logged_29 : decode cX10_logged 29 = .ok (.iload_n 2, 1) := by decide +kernel
theorem dX10_logged_30 : decode cX10_logged 30 = .ok (.istore 6, 2) := by decide +kernel
theorem dX10_logged_32 : decode cX10_logged 32 = .ok (.iload_n 3, 1) := by decide +kernel
theorem dX10_logged_33 : decode cX10_logged 33 = .ok (.istore 7, 2) := by decide +kernel
theorem dX10_logged_35 : decode cX10_logged 35 = .ok (.iconst 4, 1) := by decide +kernel
theorem dX10_logged_36 : decode cX10_logged 36 = .ok (.istore 8, 2) := by decide +kernel
theorem dX10_logged_38 : decode cX10_logged 38 = .ok (.iconst 0, 1) := by decide +kernel
theorem dX10_logged_39 : decode cX10_logged 39 = .ok (.istore 9, 2) := by decide +kernel
theorem dX10_logged_41 : decode cX10_logged 41 = .ok (.iload 5, 2) := by decide +kernel
theorem dX10_logged_43 : decode cX10_logged 43 = .ok (.aload_n 0, 1) := by decide +kernel
theorem dX10_logged_44 : decode cX10_logged 44 = .ok (.getfield 22, 3) := by decide +kernel
theorem dX10_logged_47 : decode cX10_logged 47 = .ok (.iload_n 1, 1) := by decide +kernel
theorem dX10_logged_48 : decode cX10_logged 48 = .ok (.iaload, 1) := by decide +kernel
theorem dX10_logged_49 : decode cX10_logged 49 = .ok (.if_icmp .ge 123, 3) := by decide +kernel
theorem dX10_logged_52 : decode cX10_logged 52 = .ok (.aload_n 0, 1) := by decide +kernel
theorem dX10_logged_53 : decode cX10_logged 53 = .ok (.iload_n 1, 1) := by decide +kernel
theorem dX10_logged_54 : decode cX10_logged 54 = .ok (.iload 5, 2) := by decide +kernel
theorem dX10_logged_56 : decode cX10_logged 56 = .ok (.iload 6, 2) := by decide +kernel
theorem dX10_logged_58 : decode cX10_logged 58 = .ok (.iload 7, 2) := by decide +kernel
theorem dX10_logged_60 : decode cX10_logged 60 = .ok (.iload 8, 2) := by decide +kernel
theorem dX10_logged_62 : decode cX10_logged 62 = .ok (.invokevirtual 200, 3) := by decide +kernel
theorem dX10_logged_65 : decode cX10_logged 65 = .ok (.istore 10, 2) := by decide +kernel
theorem dX10_logged_67 : decode cX10_logged 67 = .ok (.iload 9, 2) := by decide +kernel
theorem dX10_logged_69 : decode cX10_logged 69 = .ok (.iload 4, 2) := by decide +kernel
theorem dX10_logged_71 : decode cX10_logged 71 = .ok (.if_icmp .ne 6, 3) := by decide +kernel
theorem dX10_logged_74 : decode cX10_logged 74 = .ok (.iload 10, 2) := by decide +kernel
theorem dX10_logged_76 : decode cX10_logged 76 = .ok (.ireturn, 1) := by decide +kernel
theorem dX10_logged_77 : decode cX10_logged 77 = .ok (.iinc 9 1, 3) := by decide +kernel
theorem dX10_logged_80 : decode cX10_logged 80 = .ok (.iload 10, 2) := by decide +kernel
theorem dX10_logged_82 : decode cX10_logged 82 = .ok (.bipush 10, 2) := by decide +kernel
theorem dX10_logged_84 : decode cX10_logged 84 = .ok (.irem, 1) := by decide +kernel
theorem dX10_logged_85 : decode cX10_logged 85 = .ok (.istore 11, 2) := by decide +kernel
theorem dX10_logged_87 : decode cX10_logged 87 = .ok (.iload 7, 2) := by decide +kernel
theorem dX10_logged_89 : decode cX10_logged 89 = .ok (.iload 10, 2) := by decide +kernel
theorem dX10_logged_91 : decode cX10_logged 91 = .ok (.bipush 10, 2) := by decide +kernel
theorem dX10_logged_93 : decode cX10_logged 93 = .ok (.if_icmp .ge 7, 3) := by decide +kernel
theorem dX10_logged_96 : decode cX10_logged 96 = .ok (.iconst 0, 1) := by decide +kernel
theorem dX10_logged_97 : decode cX10_logged 97 = .ok (.goto 14, 3) := by decide +kernel
theorem dX10_logged_100 : decode cX10_logged 100 = .ok (.iload 11, 2) := by decide +kernel
theorem dX10_logged_102 : decode cX10_logged 102 = .ok (.iconst 3, 1) := by decide +kernel
theorem dX10_logged_103 : decode cX10_logged 103 = .ok (.if_icmp .ne 7, 3) := by decide +kernel
theorem dX10_logged_106 : decode cX10_logged 106 = .ok (.iconst 2, 1) := by decide +kernel
theorem dX10_logged_107 : decode cX10_logged 107 = .ok (.goto 4, 3) := by decide +kernel
theorem dX10_logged_110 : decode cX10_logged 110 = .ok (.iconst 1, 1) := by decide +kernel
theorem dX10_logged_111 : decode cX10_logged 111 = .ok (.isub, 1) := by decide +kernel
theorem dX10_logged_112 : decode cX10_logged 112 = .ok (.istore 7, 2) := by decide +kernel
theorem dX10_logged_114 : decode cX10_logged 114 = .ok (.aload_n 0, 1) := by decide +kernel
theorem dX10_logged_115 : decode cX10_logged 115 = .ok (.iload_n 1, 1) := by decide +kernel
theorem dX10_logged_116 : decode cX10_logged 116 = .ok (.iload 5, 2) := by decide +kernel
theorem dX10_logged_118 : decode cX10_logged 118 = .ok (.iload 6, 2) := by decide +kernel
theorem dX10_logged_120 : decode cX10_logged 120 = .ok (.iload 11, 2) := by decide +kernel
theorem dX10_logged_122 : decode cX10_logged 122 = .ok (.invokevirtual 119, 3) := by decide +kernel
theorem dX10_logged_125 : decode cX10_logged 125 = .ok (.istore 6, 2) := by decide +kernel
theorem dX10_logged_127 : decode cX10_logged 127 = .ok (.iload 8, 2) := by decide +kernel
theorem dX10_logged_129 : decode cX10_logged 129 = .ok (.iload 11, 2) := by decide +kernel
theorem dX10_logged_131 : decode cX10_logged 131 = .ok (.iconst 4, 1) := by decide +kernel
theorem dX10_logged_132 : decode cX10_logged 132 = .ok (.if_icmp .ne 7, 3) := by decide +kernel
theorem dX10_logged_135 : decode cX10_logged 135 = .ok (.iconst 1, 1) := by decide +kernel
theorem dX10_logged_136 : decode cX10_logged 136 = .ok (.goto 4, 3) := by decide +kernel
theorem dX10_logged_139 : decode cX10_logged 139 = .ok (.iconst 0, 1) := by decide +kernel
theorem dX10_logged_140 : decode cX10_logged 140 = .ok (.isub, 1) := by decide +kernel
theorem dX10_logged_141 : decode cX10_logged 141 = .ok (.istore 8, 2) := by decide +kernel
theorem dX10_logged_143 : decode cX10_logged 143 = .ok (.iload 5, 2) := by decide +kernel
theorem dX10_logged_145 : decode cX10_logged 145 = .ok (.iload 11, 2) := by decide +kernel
theorem dX10_logged_147 : decode cX10_logged 147 = .ok (.iconst 4, 1) := by decide +kernel
theorem dX10_logged_148 : decode cX10_logged 148 = .ok (.if_icmp .ne 7, 3) := by decide +kernel
theorem dX10_logged_151 : decode cX10_logged 151 = .ok (.iconst 0, 1) := by decide +kernel
theorem dX10_logged_152 : decode cX10_logged 152 = .ok (.goto 14, 3) := by decide +kernel
theorem dX10_logged_155 : decode cX10_logged 155 = .ok (.iload 11, 2) := by decide +kernel
theorem dX10_logged_157 : decode cX10_logged 157 = .ok (.iconst 3, 1) := by decide +kernel
theorem dX10_logged_158 : decode cX10_logged 158 = .ok (.if_icmp .ne 7, 3) := by decide +kernel
theorem dX10_logged_161 : decode cX10_logged 161 = .ok (.iconst 2, 1) := by decide +kernel
theorem dX10_logged_162 : decode cX10_logged 162 = .ok (.goto 4, 3) := by decide +kernel
theorem dX10_logged_165 : decode cX10_logged 165 = .ok (.iconst 1, 1) := by decide +kernel
theorem dX10_logged_166 : decode cX10_logged 166 = .ok (.iadd, 1) := by decide +kernel
theorem dX10_logged_167 : decode cX10_logged 167 = .ok (.istore 5, 2) := by decide +kernel
theorem dX10_logged_169 : decode cX10_logged 169 = .ok (.goto (-128), 3) := by decide +kernel
theorem dX10_logged_172 : decode cX10_logged 172 = .ok (.iload 4, 2) := by decide +kernel
theorem dX10_logged_174 : decode cX10_logged 174 = .ok (.iconst (-1), 1) := by decide +kernel
theorem dX10_logged_175 : decode cX10_logged 175 = .ok (.if_icmp .ne 8, 3) := by decide +kernel
theorem dX10_logged_178 : decode cX10_logged 178 = .ok (.iload 9, 2) := by decide +kernel
theorem dX10_logged_180 : decode cX10_logged 180 = .ok (.goto 5, 3) := by decide +kernel
theorem dX10_logged_183 : decode cX10_logged 183 = .ok (.bipush (-6), 2) := by decide +kernel
theorem dX10_logged_185 : decode cX10_logged 185 = .ok (.ireturn, 1) := by decide +kernel
theorem dX10_thumbDoes_0 : decode cX10_thumbDoes 0 = .ok (.iload_n 2, 1) := by decide +kernel
theorem dX10_thumbDoes_1 : decode cX10_thumbDoes 1 = .ok (.ifCond .ne 26, 3) := by decide +kernel
theorem dX10_thumbDoes_4 : decode cX10_thumbDoes 4 = .ok (.iload_n 3, 1) := by decide +kernel
theorem dX10_thumbDoes_5 : decode cX10_thumbDoes 5 = .ok (.iconst 2, 1) := by decide +kernel
theorem dX10_thumbDoes_6 : decode cX10_thumbDoes 6 = .ok (.irem, 1) := by decide +kernel
theorem dX10_thumbDoes_7 : decode cX10_thumbDoes 7 = .ok (.iconst 1, 1) := by decide +kernel
theorem dX10_thumbDoes_8 : decode cX10_thumbDoes 8 = .ok (.if_icmp .ne 17, 3) := by decide +kernel
theorem dX10_thumbDoes_11 : decode cX10_thumbDoes 11 = .ok (.aload_n 0, 1) := by decide +kernel
theorem dX10_thumbDoes_12 : decode cX10_thumbDoes 12 = .ok (.iload_n 1, 1) := by decide +kernel
theorem dX10_thumbDoes_13 : decode cX10_thumbDoes 13 = .ok (.iload_n 3, 1) := by decide +kernel
theorem dX10_thumbDoes_14 : decode cX10_thumbDoes 14 = .ok (.iconst 1, 1) := by decide +kernel
theorem dX10_thumbDoes_15 : decode cX10_thumbDoes 15 = .ok (.invokevirtual 115, 3) := by decide +kernel
theorem dX10_thumbDoes_18 : decode cX10_thumbDoes 18 = .ok (.ifCond .eq 7, 3) := by decide +kernel
theorem dX10_thumbDoes_21 : decode cX10_thumbDoes 21 = .ok (.iconst 1, 1) := by decide +kernel
theorem dX10_thumbDoes_22 : decode cX10_thumbDoes 22 = .ok (.goto 4, 3) := by decide +kernel
theorem dX10_thumbDoes_25 : decode cX10_thumbDoes 25 = .ok (.iconst 0, 1) := by decide +kernel
theorem dX10_thumbDoes_26 : decode cX10_thumbDoes 26 = .ok (.ireturn, 1) := by decide +kernel
theorem dX10_thumbDoes_27 : decode cX10_thumbDoes 27 = .ok (.iload_n 2, 1) := by decide +kernel
theorem dX10_thumbDoes_28 : decode cX10_thumbDoes 28 = .ok (.iconst 1, 1) := by decide +kernel
theorem dX10_thumbDoes_29 : decode cX10_thumbDoes 29 = .ok (.if_icmp .ne 18, 3) := by decide +kernel
theorem dX10_thumbDoes_32 : decode cX10_thumbDoes 32 = .ok (.iload 4, 2) := by decide +kernel
theorem dX10_thumbDoes_34 : decode cX10_thumbDoes 34 = .ok (.bipush 8, 2) := by decide +kernel
theorem dX10_thumbDoes_36 : decode cX10_thumbDoes 36 = .ok (.if_icmp .lt 7, 3) := by decide +kernel
theorem dX10_thumbDoes_39 : decode cX10_thumbDoes 39 = .ok (.iconst 1, 1) := by decide +kernel
theorem dX10_thumbDoes_40 : decode cX10_thumbDoes 40 = .ok (.goto 60, 3) := by decide +kernel
theorem dX10_thumbDoes_43 : decode cX10_thumbDoes 43 = .ok (.iconst 0, 1) := by decide +kernel
theorem dX10_thumbDoes_44 : decode cX10_thumbDoes 44 = .ok (.goto 56, 3) := by decide +kernel
theorem dX10_thumbDoes_47 : decode cX10_thumbDoes 47 = .ok (.iload_n 2, 1) := by decide +kernel
theorem dX10_thumbDoes_48 : decode cX10_thumbDoes 48 = .ok (.iconst 2, 1) := by decide +kernel
theorem dX10_thumbDoes_49 : decode cX10_thumbDoes 49 = .ok (.if_icmp .ne 33, 3) := by decide +kernel
theorem dX10_thumbDoes_52 : decode cX10_thumbDoes 52 = .ok (.iload 4, 2) := by decide +kernel
theorem dX10_thumbDoes_54 : decode cX10_thumbDoes 54 = .ok (.iconst 4, 1) := by decide +kernel
theorem dX10_thumbDoes_55 : decode cX10_thumbDoes 55 = .ok (.if_icmp .lt 23, 3) := by decide +kernel
theorem dX10_thumbDoes_58 : decode cX10_thumbDoes 58 = .ok (.aload_n 0, 1) := by decide +kernel
theorem dX10_thumbDoes_59 : decode cX10_thumbDoes 59 = .ok (.getfield 25, 3) := by decide +kernel
theorem dX10_thumbDoes_62 : decode cX10_thumbDoes 62 = .ok (.bipush 48, 2) := by decide +kernel
theorem dX10_thumbDoes_64 : decode cX10_thumbDoes 64 = .ok (.iload_n 1, 1) := by decide +kernel
theorem dX10_thumbDoes_65 : decode cX10_thumbDoes 65 = .ok (.imul, 1) := by decide +kernel
theorem dX10_thumbDoes_66 : decode cX10_thumbDoes 66 = .ok (.iload_n 3, 1) := by decide +kernel
theorem dX10_thumbDoes_67 : decode cX10_thumbDoes 67 = .ok (.iadd, 1) := by decide +kernel
theorem dX10_thumbDoes_68 : decode cX10_thumbDoes 68 = .ok (.iaload, 1) := by decide +kernel
theorem dX10_thumbDoes_69 : decode cX10_thumbDoes 69 = .ok (.bipush 50, 2) := by decide +kernel
theorem dX10_thumbDoes_71 : decode cX10_thumbDoes 71 = .ok (.if_icmp .ge 7, 3) := by decide +kernel
theorem dX10_thumbDoes_74 : decode cX10_thumbDoes 74 = .ok (.iconst 1, 1) := by decide +kernel
theorem dX10_thumbDoes_75 : decode cX10_thumbDoes 75 = .ok (.goto 25, 3) := by decide +kernel
theorem dX10_thumbDoes_78 : decode cX10_thumbDoes 78 = .ok (.iconst 0, 1) := by decide +kernel
theorem dX10_thumbDoes_79 : decode cX10_thumbDoes 79 = .ok (.goto 21, 3) := by decide +kernel
theorem dX10_thumbDoes_82 : decode cX10_thumbDoes 82 = .ok (.iload 4, 2) := by decide +kernel
theorem dX10_thumbDoes_84 : decode cX10_thumbDoes 84 = .ok (.iconst 1, 1) := by decide +kernel
theorem dX10_thumbDoes_85 : decode cX10_thumbDoes 85 = .ok (.if_icmp .lt 14, 3) := by decide +kernel
theorem dX10_thumbDoes_88 : decode cX10_thumbDoes 88 = .ok (.iload_n 3, 1) := by decide +kernel
theorem dX10_thumbDoes_89 : decode cX10_thumbDoes 89 = .ok (.invokestatic 97, 3) := by decide +kernel
theorem dX10_thumbDoes_92 : decode cX10_thumbDoes 92 = .ok (.ifCond .eq 7, 3) := by decide +kernel
theorem dX10_thumbDoes_95 : decode cX10_thumbDoes 95 = .ok (.iconst 1, 1) := by decide +kernel
theorem dX10_thumbDoes_96 : decode cX10_thumbDoes 96 = .ok (.goto 4, 3) := by decide +kernel
theorem dX10_thumbDoes_99 : decode cX10_thumbDoes 99 = .ok (.iconst 0, 1) := by decide +kernel
theorem dX10_thumbDoes_100 : decode cX10_thumbDoes 100 = .ok (.istore 5, 2) := by decide +kernel
theorem dX10_thumbDoes_102 : decode cX10_thumbDoes 102 = .ok (.iload 5, 2) := by decide +kernel
theorem dX10_thumbDoes_104 : decode cX10_thumbDoes 104 = .ok (.ifCond .ne 7, 3) := by decide +kernel
theorem dX10_thumbDoes_107 : decode cX10_thumbDoes 107 = .ok (.iconst 0, 1) := by decide +kernel
theorem dX10_thumbDoes_108 : decode cX10_thumbDoes 108 = .ok (.goto 32, 3) := by decide +kernel
theorem dX10_thumbDoes_111 : decode cX10_thumbDoes 111 = .ok (.aload_n 0, 1) := by decide +kernel
theorem dX10_thumbDoes_112 : decode cX10_thumbDoes 112 = .ok (.iload_n 1, 1) := by decide +kernel
theorem dX10_thumbDoes_113 : decode cX10_thumbDoes 113 = .ok (.iload_n 3, 1) := by decide +kernel
theorem dX10_thumbDoes_114 : decode cX10_thumbDoes 114 = .ok (.iconst 3, 1) := by decide +kernel
theorem dX10_thumbDoes_115 : decode cX10_thumbDoes 115 = .ok (.invokevirtual 115, 3) := by decide +kernel
theorem dX10_thumbDoes_118 : decode cX10_thumbDoes 118 = .ok (.ifCond .eq 7, 3) := by decide +kernel
theorem dX10_thumbDoes_121 : decode cX10_thumbDoes 121 = .ok (.iconst 3, 1) := by decide +kernel
theorem dX10_thumbDoes_122 : decode cX10_thumbDoes 122 = .ok (.goto 18, 3) := by decide +kernel
theorem dX10_thumbDoes_125 : decode cX10_thumbDoes 125 = .ok (.aload_n 0, 1) := by decide +kernel
theorem dX10_thumbDoes_126 : decode cX10_thumbDoes 126 = .ok (.iload_n 1, 1) := by decide +kernel
theorem dX10_thumbDoes_127 : decode cX10_thumbDoes 127 = .ok (.iload_n 3, 1) := by decide +kernel
theorem dX10_thumbDoes_128 : decode cX10_thumbDoes 128 = .ok (.iconst 2, 1) := by decide +kernel
theorem dX10_thumbDoes_129 : decode cX10_thumbDoes 129 = .ok (.invokevirtual 115, 3) := by decide +kernel
theorem dX10_thumbDoes_132 : decode cX10_thumbDoes 132 = .ok (.ifCond .eq 7, 3) := by decide +kernel
theorem dX10_thumbDoes_135 : decode cX10_thumbDoes 135 = .ok (.iconst 2, 1) := by decide +kernel
theorem dX10_thumbDoes_136 : decode cX10_thumbDoes 136 = .ok (.goto 4, 3) := by decide +kernel
theorem dX10_thumbDoes_139 : decode cX10_thumbDoes 139 = .ok (.iconst 0, 1) := by decide +kernel
theorem dX10_thumbDoes_140 : decode cX10_thumbDoes 140 = .ok (.ireturn, 1) := by decide +kernel
theorem dX10_thumbAll_0 : decode cX10_thumbAll 0 = .ok (.aload_n 0, 1) := by decide +kernel
theorem dX10_thumbAll_1 : decode cX10_thumbAll 1 = .ok (.iconst 0, 1) := by decide +kernel
theorem dX10_thumbAll_2 : decode cX10_thumbAll 2 = .ok (.putfield 135, 3) := by decide +kernel
theorem dX10_thumbAll_5 : decode cX10_thumbAll 5 = .ok (.aload_n 0, 1) := by decide +kernel
theorem dX10_thumbAll_6 : decode cX10_thumbAll 6 = .ok (.iload_n 3, 1) := by decide +kernel
theorem dX10_thumbAll_7 : decode cX10_thumbAll 7 = .ok (.putfield 144, 3) := by decide +kernel
theorem dX10_thumbAll_10 : decode cX10_thumbAll 10 = .ok (.aload_n 0, 1) := by decide +kernel
theorem dX10_thumbAll_11 : decode cX10_thumbAll 11 = .ok (.iconst 0, 1) := by decide +kernel
theorem dX10_thumbAll_12 : decode cX10_thumbAll 12 = .ok (.putfield 138, 3) := by decide +kernel
theorem dX10_thumbAll_15 : decode cX10_thumbAll 15 = .ok (.aload_n 0, 1) := by decide +kernel
theorem dX10_thumbAll_16 : decode cX10_thumbAll 16 = .ok (.iconst 0, 1) := by decide +kernel
theorem dX10_thumbAll_17 : decode cX10_thumbAll 17 = .ok (.putfield 141, 3) := by decide +kernel
theorem dX10_thumbAll_20 : decode cX10_thumbAll 20 = .ok (.aload_n 0, 1) := by decide +kernel
theorem dX10_thumbAll_21 : decode cX10_thumbAll 21 = .ok (.getfield 138, 3) := by decide +kernel
theorem dX10_thumbAll_24 : decode cX10_thumbAll 24 = .ok (.aload_n 0, 1) := by decide +kernel
theorem dX10_thumbAll_25 : decode cX10_thumbAll 25 = .ok (.getfield 22, 3) := by decide +kernel
theorem dX10_thumbAll_28 : decode cX10_thumbAll 28 = .ok (.iload_n 1, 1) := by decide +kernel
theorem dX10_thumbAll_29 : decode cX10_thumbAll 29 = .ok (.iaload, 1) := by decide +kernel
theorem dX10_thumbAll_30 : decode cX10_thumbAll 30 = .ok (.if_icmp .ge 27, 3) := by decide +kernel
theorem dX10_thumbAll_33 : decode cX10_thumbAll 33 = .ok (.aload_n 0, 1) := by decide +kernel
theorem dX10_thumbAll_34 : decode cX10_thumbAll 34 = .ok (.iload_n 1, 1) := by decide +kernel
theorem dX10_thumbAll_35 : decode cX10_thumbAll 35 = .ok (.aload_n 0, 1) := by decide +kernel
theorem dX10_thumbAll_36 : decode cX10_thumbAll 36 = .ok (.iload_n 1, 1) := by decide +kernel
theorem dX10_thumbAll_37 : decode cX10_thumbAll 37 = .ok (.iload_n 2, 1) := by decide +kernel
theorem dX10_thumbAll_38 : decode cX10_thumbAll 38 = .ok (.aload_n 0, 1) := by decide +kernel
theorem dX10_thumbAll_39 : decode cX10_thumbAll 39 = .ok (.getfield 138, 3) := by decide +kernel
theorem dX10_thumbAll_42 : decode cX10_thumbAll 42 = .ok (.aload_n 0, 1) := by decide +kernel
theorem dX10_thumbAll_43 : decode cX10_thumbAll 43 = .ok (.getfield 144, 3) := by decide +kernel
theorem dX10_thumbAll_46 : decode cX10_thumbAll 46 = .ok (.invokevirtual 203, 3) := by decide +kernel
theorem dX10_thumbAll_49 : decode cX10_thumbAll 49 = .ok (.iconst 0, 1) := by decide +kernel
theorem dX10_thumbAll_50 : decode cX10_thumbAll 50 = .ok (.invokevirtual 154, 3) := by decide +kernel
theorem dX10_thumbAll_53 : decode cX10_thumbAll 53 = .ok (.pop, 1) := by decide +kernel
theorem dX10_thumbAll_54 : decode cX10_thumbAll 54 = .ok (.goto (-34), 3) := by decide +kernel
theorem dX10_thumbAll_57 : decode cX10_thumbAll 57 = .ok (.return_, 1) := by decide +kernel
theorem dX10_thumb_0 : decode cX10_thumb 0 = .ok (.iload_n 1, 1) := by decide +kernel
theorem dX10_thumb_1 : decode cX10_thumb 1 = .ok (.invokestatic 74, 3) := by decide +kernel
theorem dX10_thumb_4 : decode cX10_thumb 4 = .ok (.ifCond .ne 5, 3) := by decide +kernel
theorem dX10_thumb_7 : decode cX10_thumb 7 = .ok (.iconst (-1), 1) := by decide +kernel
theorem dX10_thumb_8 : decode cX10_thumb 8 = .ok (.ireturn, 1) := by decide +kernel
theorem dX10_thumb_9 : decode cX10_thumb 9 = .ok (.iload_n 2, 1) := by decide +kernel
theorem dX10_thumb_10 : decode cX10_thumb 10 = .ok (.i2l, 1) := by decide +kernel
theorem dX10_thumb_11 : decode cX10_thumb 11 = .ok (.lconst 0, 1) := by decide +kernel
theorem dX10_thumb_12 : decode cX10_thumb 12 = .ok (.ldc2_w 87, 3) := by decide +kernel
theorem dX10_thumb_15 : decode cX10_thumb 15 = .ok (.invokestatic 66, 3) := by decide +kernel
theorem dX10_thumb_18 : decode cX10_thumb 18 = .ok (.ifCond .eq 23, 3) := by decide +kernel
theorem dX10_thumb_21 : decode cX10_thumb 21 = .ok (.iload_n 3, 1) := by decide +kernel
theorem dX10_thumb_22 : decode cX10_thumb 22 = .ok (.invokestatic 110, 3) := by decide +kernel
theorem dX10_thumb_25 : decode cX10_thumb 25 = .ok (.ifCond .eq 16, 3) := by decide +kernel
theorem dX10_thumb_28 : decode cX10_thumb 28 = .ok (.iload 4, 2) := by decide +kernel
theorem dX10_thumb_30 : decode cX10_thumb 30 = .ok (.i2l, 1) := by decide +kernel
theorem dX10_thumb_31 : decode cX10_thumb 31 = .ok (.lconst 0, 1) := by decide +kernel
theorem dX10_thumb_32 : decode cX10_thumb 32 = .ok (.ldc2_w 206, 3) := by decide +kernel
theorem dX10_thumb_35 : decode cX10_thumb 35 = .ok (.invokestatic 66, 3) := by decide +kernel
theorem dX10_thumb_38 : decode cX10_thumb 38 = .ok (.ifCond .ne 6, 3) := by decide +kernel
theorem dX10_thumb_41 : decode cX10_thumb 41 = .ok (.bipush (-2), 2) := by decide +kernel
theorem dX10_thumb_43 : decode cX10_thumb 43 = .ok (.ireturn, 1) := by decide +kernel
theorem dX10_thumb_44 : decode cX10_thumb 44 = .ok (.aload_n 0, 1) := by decide +kernel
theorem dX10_thumb_45 : decode cX10_thumb 45 = .ok (.iload_n 1, 1) := by decide +kernel
theorem dX10_thumb_46 : decode cX10_thumb 46 = .ok (.iload_n 2, 1) := by decide +kernel
theorem dX10_thumb_47 : decode cX10_thumb 47 = .ok (.iload_n 3, 1) := by decide +kernel
theorem dX10_thumb_48 : decode cX10_thumb 48 = .ok (.invokevirtual 208, 3) := by decide +kernel
theorem dX10_thumb_51 : decode cX10_thumb 51 = .ok (.aload_n 0, 1) := by decide +kernel
theorem dX10_thumb_52 : decode cX10_thumb 52 = .ok (.invokevirtual 173, 3) := by decide +kernel
theorem dX10_thumb_55 : decode cX10_thumb 55 = .ok (.istore 5, 2) := by decide +kernel
theorem dX10_thumb_57 : decode cX10_thumb 57 = .ok (.iload 4, 2) := by decide +kernel
theorem dX10_thumb_59 : decode cX10_thumb 59 = .ok (.ifCond .ne 8, 3) := by decide +kernel
theorem dX10_thumb_62 : decode cX10_thumb 62 = .ok (.iload 5, 2) := by decide +kernel
theorem dX10_thumb_64 : decode cX10_thumb 64 = .ok (.goto 28, 3) := by decide +kernel
theorem dX10_thumb_67 : decode cX10_thumb 67 = .ok (.iload 4, 2) := by decide +kernel
theorem dX10_thumb_69 : decode cX10_thumb 69 = .ok (.iconst 1, 1) := by decide +kernel
theorem dX10_thumb_70 : decode cX10_thumb 70 = .ok (.if_icmp .ne 18, 3) := by decide +kernel
theorem dX10_thumb_73 : decode cX10_thumb 73 = .ok (.aload_n 0, 1) := by decide +kernel
theorem dX10_thumb_74 : decode cX10_thumb 74 = .ok (.iload_n 1, 1) := by decide +kernel
theorem dX10_thumb_75 : decode cX10_thumb 75 = .ok (.iconst 0, 1) := by decide +kernel
theorem dX10_thumb_76 : decode cX10_thumb 76 = .ok (.iload_n 3, 1) := by decide +kernel
theorem dX10_thumb_77 : decode cX10_thumb 77 = .ok (.iconst 0, 1) := by decide +kernel
theorem dX10_thumb_78 : decode cX10_thumb 78 = .ok (.iconst 4, 1) := by decide +kernel
theorem dX10_thumb_79 : decode cX10_thumb 79 = .ok (.invokevirtual 193, 3) := by decide +kernel
theorem dX10_thumb_82 : decode cX10_thumb 82 = .ok (.iload 5, 2) := by decide +kernel
theorem dX10_thumb_84 : decode cX10_thumb 84 = .ok (.isub, 1) := by decide +kernel
theorem dX10_thumb_85 : decode cX10_thumb 85 = .ok (.goto 7, 3) := by decide +kernel
theorem dX10_thumb_88 : decode cX10_thumb 88 = .ok (.aload_n 0, 1) := by decide +kernel
theorem dX10_thumb_89 : decode cX10_thumb 89 = .ok (.getfield 144, 3) := by decide +kernel
theorem dX10_thumb_92 : decode cX10_thumb 92 = .ok (.ireturn, 1) := by decide +kernel
theorem dX10_worth_0 : decode cX10_worth 0 = .ok (.iload_n 1, 1) := by decide +kernel
theorem dX10_worth_1 : decode cX10_worth 1 = .ok (.invokestatic 74, 3) := by decide +kernel
theorem dX10_worth_4 : decode cX10_worth 4 = .ok (.ifCond .ne 5, 3) := by decide +kernel
theorem dX10_worth_7 : decode cX10_worth 7 = .ok (.iconst (-1), 1) := by decide +kernel
theorem dX10_worth_8 : decode cX10_worth 8 = .ok (.ireturn, 1) := by decide +kernel
theorem dX10_worth_9 : decode cX10_worth 9 = .ok (.iload_n 2, 1) := by decide +kernel
theorem dX10_worth_10 : decode cX10_worth 10 = .ok (.invokestatic 110, 3) := by decide +kernel
theorem dX10_worth_13 : decode cX10_worth 13 = .ok (.ifCond .eq 27, 3) := by decide +kernel
theorem dX10_worth_16 : decode cX10_worth 16 = .ok (.iload_n 3, 1) := by decide +kernel
theorem dX10_worth_17 : decode cX10_worth 17 = .ok (.invokestatic 161, 3) := by decide +kernel
theorem dX10_worth_20 : decode cX10_worth 20 = .ok (.ifCond .eq 20, 3) := by decide +kernel
theorem dX10_worth_23 : decode cX10_worth 23 = .ok (.iload 4, 2) := by decide +kernel
theorem dX10_worth_25 : decode cX10_worth 25 = .ok (.invokestatic 161, 3) := by decide +kernel
theorem dX10_worth_28 : decode cX10_worth 28 = .ok (.ifCond .eq 12, 3) := by decide +kernel
theorem dX10_worth_31 : decode cX10_worth 31 = .ok (.iload_n 3, 1) := by decide +kernel
theorem dX10_worth_32 : decode cX10_worth 32 = .ok (.iload 4, 2) := by decide +kernel
theorem dX10_worth_34 : decode cX10_worth 34 = .ok (.iadd, 1) := by decide +kernel
theorem dX10_worth_35 : decode cX10_worth 35 = .ok (.bipush 24, 2) := by decide +kernel
theorem dX10_worth_37 : decode cX10_worth 37 = .ok (.if_icmp .le 6, 3) := by decide +kernel
theorem dX10_worth_40 : decode cX10_worth 40 = .ok (.bipush (-2), 2) := by decide +kernel
theorem dX10_worth_42 : decode cX10_worth 42 = .ok (.ireturn, 1) := by decide +kernel
theorem dX10_worth_43 : decode cX10_worth 43 = .ok (.aload_n 0, 1) := by decide +kernel
theorem dX10_worth_44 : decode cX10_worth 44 = .ok (.iload_n 1, 1) := by decide +kernel
theorem dX10_worth_45 : decode cX10_worth 45 = .ok (.iconst 0, 1) := by decide +kernel
theorem dX10_worth_46 : decode cX10_worth 46 = .ok (.iload_n 2, 1) := by decide +kernel
theorem dX10_worth_47 : decode cX10_worth 47 = .ok (.iload_n 3, 1) := by decide +kernel
theorem dX10_worth_48 : decode cX10_worth 48 = .ok (.iload 4, 2) := by decide +kernel
theorem dX10_worth_50 : decode cX10_worth 50 = .ok (.iadd, 1) := by decide +kernel
theorem dX10_worth_51 : decode cX10_worth 51 = .ok (.iconst 4, 1) := by decide +kernel
theorem dX10_worth_52 : decode cX10_worth 52 = .ok (.invokevirtual 193, 3) := by decide +kernel
theorem dX10_worth_55 : decode cX10_worth 55 = .ok (.aload_n 0, 1) := by decide +kernel
theorem dX10_worth_56 : decode cX10_worth 56 = .ok (.iload_n 1, 1) := by decide +kernel
theorem dX10_worth_57 : decode cX10_worth 57 = .ok (.iconst 0, 1) := by decide +kernel
theorem dX10_worth_58 : decode cX10_worth 58 = .ok (.iload_n 2, 1) := by decide +kernel
theorem dX10_worth_59 : decode cX10_worth 59 = .ok (.iload_n 3, 1) := by decide +kernel
theorem dX10_worth_60 : decode cX10_worth 60 = .ok (.iconst 4, 1) := by decide +kernel
theorem dX10_worth_61 : decode cX10_worth 61 = .ok (.invokevirtual 193, 3) := by decide +kernel
theorem dX10_worth_64 : decode cX10_worth 64 = .ok (.isub, 1) := by decide +kernel
theorem dX10_worth_65 : decode cX10_worth 65 = .ok (.ireturn, 1) := by decide +kernel
theorem dX10_round_0 : decode cX10_round 0 = .ok (.iload_n 1, 1) := by decide +kernel
theorem dX10_round_1 : decode cX10_round 1 = .ok (.invokestatic 110, 3) := by decide +kernel
theorem dX10_round_4 : decode cX10_round 4 = .ok (.ifCond .eq 10, 3) := by decide +kernel
theorem dX10_round_7 : decode cX10_round 7 = .ok (.iload_n 2, 1) := by decide +kernel
theorem dX10_round_8 : decode cX10_round 8 = .ok (.invokestatic 161, 3) := by decide +kernel
theorem dX10_round_11 : decode cX10_round 11 = .ok (.ifCond .ne 6, 3) := by decide +kernel
theorem dX10_round_14 : decode cX10_round 14 = .ok (.bipush (-2), 2) := by decide +kernel
theorem dX10_round_16 : decode cX10_round 16 = .ok (.ireturn, 1) := by decide +kernel
theorem dX10_round_17 : decode cX10_round 17 = .ok (.aload_n 0, 1) := by decide +kernel
theorem dX10_round_18 : decode cX10_round 18 = .ok (.iconst 1, 1) := by decide +kernel
theorem dX10_round_19 : decode cX10_round 19 = .ok (.iconst 0, 1) := by decide +kernel
theorem dX10_round_20 : decode cX10_round 20 = .ok (.iload_n 1, 1) := by decide +kernel
theorem dX10_round_21 : decode cX10_round 21 = .ok (.iload_n 2, 1) := by decide +kernel
theorem dX10_round_22 : decode cX10_round 22 = .ok (.iconst 4, 1) := by decide +kernel
theorem dX10_round_23 : decode cX10_round 23 = .ok (.invokevirtual 193, 3) := by decide +kernel
theorem dX10_round_26 : decode cX10_round 26 = .ok (.aload_n 0, 1) := by decide +kernel
theorem dX10_round_27 : decode cX10_round 27 = .ok (.iconst 0, 1) := by decide +kernel
theorem dX10_round_28 : decode cX10_round 28 = .ok (.iconst 0, 1) := by decide +kernel
theorem dX10_round_29 : decode cX10_round 29 = .ok (.iload_n 1, 1) := by decide +kernel
theorem dX10_round_30 : decode cX10_round 30 = .ok (.iload_n 2, 1) := by decide +kernel
theorem dX10_round_31 : decode cX10_round 31 = .ok (.iconst 4, 1) := by decide +kernel
theorem dX10_round_32 : decode cX10_round 32 = .ok (.invokevirtual 193, 3) := by decide +kernel
theorem dX10_round_35 : decode cX10_round 35 = .ok (.if_icmp .le 7, 3) := by decide +kernel
theorem dX10_round_38 : decode cX10_round 38 = .ok (.iconst 1, 1) := by decide +kernel
theorem dX10_round_39 : decode cX10_round 39 = .ok (.goto 4, 3) := by decide +kernel
theorem dX10_round_42 : decode cX10_round 42 = .ok (.iconst 0, 1) := by decide +kernel
theorem dX10_round_43 : decode cX10_round 43 = .ok (.ireturn, 1) := by decide +kernel
theorem dX10_soonest_0 : decode cX10_soonest 0 = .ok (.iload_n 1, 1) := by decide +kernel
theorem dX10_soonest_1 : decode cX10_soonest 1 = .ok (.invokestatic 74, 3) := by decide +kernel
theorem dX10_soonest_4 : decode cX10_soonest 4 = .ok (.ifCond .ne 5, 3) := by decide +kernel
theorem dX10_soonest_7 : decode cX10_soonest 7 = .ok (.iconst (-1), 1) := by decide +kernel
theorem dX10_soonest_8 : decode cX10_soonest 8 = .ok (.ireturn, 1) := by decide +kernel
theorem dX10_soonest_9 : decode cX10_soonest 9 = .ok (.iload_n 2, 1) := by decide +kernel
theorem dX10_soonest_10 : decode cX10_soonest 10 = .ok (.invokestatic 110, 3) := by decide +kernel
theorem dX10_soonest_13 : decode cX10_soonest 13 = .ok (.ifCond .eq 23, 3) := by decide +kernel
theorem dX10_soonest_16 : decode cX10_soonest 16 = .ok (.iload_n 3, 1) := by decide +kernel
theorem dX10_soonest_17 : decode cX10_soonest 17 = .ok (.invokestatic 161, 3) := by decide +kernel
theorem dX10_soonest_20 : decode cX10_soonest 20 = .ok (.ifCond .eq 16, 3) := by decide +kernel
theorem dX10_soonest_23 : decode cX10_soonest 23 = .ok (.iload 4, 2) := by decide +kernel
theorem dX10_soonest_25 : decode cX10_soonest 25 = .ok (.i2l, 1) := by decide +kernel
theorem dX10_soonest_26 : decode cX10_soonest 26 = .ok (.lconst 0, 1) := by decide +kernel
theorem dX10_soonest_27 : decode cX10_soonest 27 = .ok (.ldc2_w 105, 3) := by decide +kernel
theorem dX10_soonest_30 : decode cX10_soonest 30 = .ok (.invokestatic 66, 3) := by decide +kernel
theorem dX10_soonest_33 : decode cX10_soonest 33 = .ok (.ifCond .ne 6, 3) := by decide +kernel
theorem dX10_soonest_36 : decode cX10_soonest 36 = .ok (.bipush (-2), 2) := by decide +kernel
theorem dX10_soonest_38 : decode cX10_soonest 38 = .ok (.ireturn, 1) := by decide +kernel
theorem dX10_soonest_39 : decode cX10_soonest 39 = .ok (.iconst 0, 1) := by decide +kernel
theorem dX10_soonest_40 : decode cX10_soonest 40 = .ok (.istore 5, 2) := by decide +kernel
theorem dX10_soonest_42 : decode cX10_soonest 42 = .ok (.iload 5, 2) := by decide +kernel
theorem dX10_soonest_44 : decode cX10_soonest 44 = .ok (.iconst 4, 1) := by decide +kernel
theorem dX10_soonest_45 : decode cX10_soonest 45 = .ok (.if_icmp .gt 34, 3) := by decide +kernel
theorem dX10_soonest_48 : decode cX10_soonest 48 = .ok (.aload_n 0, 1) := by decide +kernel
theorem dX10_soonest_49 : decode cX10_soonest 49 = .ok (.iload_n 1, 1) := by decide +kernel
theorem dX10_soonest_50 : decode cX10_soonest 50 = .ok (.iconst 0, 1) := by decide +kernel
theorem dX10_soonest_51 : decode cX10_soonest 51 = .ok (.iload_n 2, 1) := by decide +kernel
theorem dX10_soonest_52 : decode cX10_soonest 52 = .ok (.iload_n 3, 1) := by decide +kernel
theorem dX10_soonest_53 : decode cX10_soonest 53 = .ok (.iload 5, 2) := by decide +kernel
theorem dX10_soonest_55 : decode cX10_soonest 55 = .ok (.invokevirtual 193, 3) := by decide +kernel
theorem dX10_soonest_58 : decode cX10_soonest 58 = .ok (.iload 4, 2) := by decide +kernel
theorem dX10_soonest_60 : decode cX10_soonest 60 = .ok (.if_icmp .lt 13, 3) := by decide +kernel
theorem dX10_soonest_63 : decode cX10_soonest 63 = .ok (.aload_n 0, 1) := by decide +kernel
theorem dX10_soonest_64 : decode cX10_soonest 64 = .ok (.getfield 22, 3) := by decide +kernel
theorem dX10_soonest_67 : decode cX10_soonest 67 = .ok (.iload_n 1, 1) := by decide +kernel
theorem dX10_soonest_68 : decode cX10_soonest 68 = .ok (.iaload, 1) := by decide +kernel
theorem dX10_soonest_69 : decode cX10_soonest 69 = .ok (.iload 5, 2) := by decide +kernel
theorem dX10_soonest_71 : decode cX10_soonest 71 = .ok (.iadd, 1) := by decide +kernel
theorem dX10_soonest_72 : decode cX10_soonest 72 = .ok (.ireturn, 1) := by decide +kernel
theorem dX10_soonest_73 : decode cX10_soonest 73 = .ok (.iinc 5 1, 3) := by decide +kernel
theorem dX10_soonest_76 : decode cX10_soonest 76 = .ok (.goto (-34), 3) := by decide +kernel
theorem dX10_soonest_79 : decode cX10_soonest 79 = .ok (.bipush (-6), 2) := by decide +kernel
theorem dX10_soonest_81 : decode cX10_soonest 81 = .ok (.ireturn, 1) := by decide +kernel
theorem dX10_twoOf_0 : decode cX10_twoOf 0 = .ok (.aload_n 0, 1) := by decide +kernel
theorem dX10_twoOf_1 : decode cX10_twoOf 1 = .ok (.getfield 57, 3) := by decide +kernel
theorem dX10_twoOf_4 : decode cX10_twoOf 4 = .ok (.iconst 0, 1) := by decide +kernel
theorem dX10_twoOf_5 : decode cX10_twoOf 5 = .ok (.iload_n 2, 1) := by decide +kernel
theorem dX10_twoOf_6 : decode cX10_twoOf 6 = .ok (.iastore, 1) := by decide +kernel
theorem dX10_twoOf_7 : decode cX10_twoOf 7 = .ok (.aload_n 0, 1) := by decide +kernel
theorem dX10_twoOf_8 : decode cX10_twoOf 8 = .ok (.getfield 57, 3) := by decide +kernel
theorem dX10_twoOf_11 : decode cX10_twoOf 11 = .ok (.iconst 1, 1) := by decide +kernel
theorem dX10_twoOf_12 : decode cX10_twoOf 12 = .ok (.iload_n 2, 1) := by decide +kernel
theorem dX10_twoOf_13 : decode cX10_twoOf 13 = .ok (.iastore, 1) := by decide +kernel
theorem dX10_twoOf_14 : decode cX10_twoOf 14 = .ok (.aload_n 0, 1) := by decide +kernel
theorem dX10_twoOf_15 : decode cX10_twoOf 15 = .ok (.iconst 0, 1) := by decide +kernel
theorem dX10_twoOf_16 : decode cX10_twoOf 16 = .ok (.putfield 135, 3) := by decide +kernel
theorem dX10_twoOf_19 : decode cX10_twoOf 19 = .ok (.iconst 0, 1) := by decide +kernel
theorem dX10_twoOf_20 : decode cX10_twoOf 20 = .ok (.istore 4, 2) := by decide +kernel
theorem dX10_twoOf_22 : decode cX10_twoOf 22 = .ok (.iload 4, 2) := by decide +kernel
theorem dX10_twoOf_24 : decode cX10_twoOf 24 = .ok (.aload_n 0, 1) := by decide +kernel
theorem dX10_twoOf_25 : decode cX10_twoOf 25 = .ok (.getfield 22, 3) := by decide +kernel
theorem dX10_twoOf_28 : decode cX10_twoOf 28 = .ok (.iload_n 1, 1) := by decide +kernel
theorem dX10_twoOf_29 : decode cX10_twoOf 29 = .ok (.iaload, 1) := by decide +kernel
theorem dX10_twoOf_30 : decode cX10_twoOf 30 = .ok (.if_icmp .ge 160, 3) := by decide +kernel
theorem dX10_twoOf_33 : decode cX10_twoOf 33 = .ok (.iload 4, 2) := by decide +kernel
theorem dX10_twoOf_35 : decode cX10_twoOf 35 = .ok (.iload_n 3, 1) := by decide +kernel
theorem dX10_twoOf_36 : decode cX10_twoOf 36 = .ok (.idiv, 1) := by decide +kernel
theorem dX10_twoOf_37 : decode cX10_twoOf 37 = .ok (.iconst 2, 1) := by decide +kernel
theorem dX10_twoOf_38 : decode cX10_twoOf 38 = .ok (.irem, 1) := by decide +kernel
theorem dX10_twoOf_39 : decode cX10_twoOf 39 = .ok (.istore 5, 2) := by decide +kernel
theorem dX10_twoOf_41 : decode cX10_twoOf 41 = .ok (.aload_n 0, 1) := by decide +kernel
theorem dX10_twoOf_42 : decode cX10_twoOf 42 = .ok (.iload_n 1, 1) := by decide +kernel
theorem dX10_twoOf_43 : decode cX10_twoOf 43 = .ok (.iload 4, 2) := by decide +kernel
theorem dX10_twoOf_45 : decode cX10_twoOf 45 = .ok (.invokevirtual 93, 3) := by decide +kernel
theorem dX10_twoOf_48 : decode cX10_twoOf 48 = .ok (.istore 6, 2) := by decide +kernel
theorem dX10_twoOf_50 : decode cX10_twoOf 50 = .ok (.iload 6, 2) := by decide +kernel
theorem dX10_twoOf_52 : decode cX10_twoOf 52 = .ok (.ifCond .eq 22, 3) := by decide +kernel
theorem dX10_twoOf_55 : decode cX10_twoOf 55 = .ok (.aload_n 0, 1) := by decide +kernel
theorem dX10_twoOf_56 : decode cX10_twoOf 56 = .ok (.getfield 57, 3) := by decide +kernel
theorem dX10_twoOf_59 : decode cX10_twoOf 59 = .ok (.iload 5, 2) := by decide +kernel
theorem dX10_twoOf_61 : decode cX10_twoOf 61 = .ok (.iaload, 1) := by decide +kernel
theorem dX10_twoOf_62 : decode cX10_twoOf 62 = .ok (.aload_n 0, 1) := by decide +kernel
theorem dX10_twoOf_63 : decode cX10_twoOf 63 = .ok (.getfield 57, 3) := by decide +kernel
theorem dX10_twoOf_66 : decode cX10_twoOf 66 = .ok (.iconst 1, 1) := by decide +kernel
theorem dX10_twoOf_67 : decode cX10_twoOf 67 = .ok (.iload 5, 2) := by decide +kernel
theorem dX10_twoOf_69 : decode cX10_twoOf 69 = .ok (.isub, 1) := by decide +kernel
theorem dX10_twoOf_70 : decode cX10_twoOf 70 = .ok (.iaload, 1) := by decide +kernel
theorem dX10_twoOf_71 : decode cX10_twoOf 71 = .ok (.if_icmp .ge 13, 3) := by decide +kernel
theorem dX10_twoOf_74 : decode cX10_twoOf 74 = .ok (.aload_n 0, 1) := by decide +kernel
theorem dX10_twoOf_75 : decode cX10_twoOf 75 = .ok (.getfield 57, 3) := by decide +kernel
theorem dX10_twoOf_78 : decode cX10_twoOf 78 = .ok (.iload 5, 2) := by decide +kernel
theorem dX10_twoOf_80 : decode cX10_twoOf 80 = .ok (.iaload, 1) := by decide +kernel
theorem dX10_twoOf_81 : decode cX10_twoOf 81 = .ok (.goto 12, 3) := by decide +kernel
theorem dX10_twoOf_84 : decode cX10_twoOf 84 = .ok (.aload_n 0, 1) := by decide +kernel
theorem dX10_twoOf_85 : decode cX10_twoOf 85 = .ok (.getfield 57, 3) := by decide +kernel
theorem dX10_twoOf_88 : decode cX10_twoOf 88 = .ok (.iconst 1, 1) := by decide +kernel
theorem dX10_twoOf_89 : decode cX10_twoOf 89 = .ok (.iload 5, 2) := by decide +kernel
theorem dX10_twoOf_91 : decode cX10_twoOf 91 = .ok (.isub, 1) := by decide +kernel
theorem dX10_twoOf_92 : decode cX10_twoOf 92 = .ok (.iaload, 1) := by decide +kernel
theorem dX10_twoOf_93 : decode cX10_twoOf 93 = .ok (.istore 7, 2) := by decide +kernel
theorem dX10_twoOf_95 : decode cX10_twoOf 95 = .ok (.aload_n 0, 1) := by decide +kernel
theorem dX10_twoOf_96 : decode cX10_twoOf 96 = .ok (.iload_n 1, 1) := by decide +kernel
theorem dX10_twoOf_97 : decode cX10_twoOf 97 = .ok (.iload 4, 2) := by decide +kernel
theorem dX10_twoOf_99 : decode cX10_twoOf 99 = .ok (.aload_n 0, 1) := by decide +kernel
theorem dX10_twoOf_100 : decode cX10_twoOf 100 = .ok (.iload 7, 2) := by decide +kernel
theorem dX10_twoOf_102 : decode cX10_twoOf 102 = .ok (.iconst 0, 1) := by decide +kernel
theorem dX10_twoOf_103 : decode cX10_twoOf 103 = .ok (.iconst 0, 1) := by decide +kernel
theorem dX10_twoOf_104 : decode cX10_twoOf 104 = .ok (.invokevirtual 100, 3) := by decide +kernel
theorem dX10_twoOf_107 : decode cX10_twoOf 107 = .ok (.invokevirtual 147, 3) := by decide +kernel
theorem dX10_twoOf_110 : decode cX10_twoOf 110 = .ok (.aload_n 0, 1) := by decide +kernel
theorem dX10_twoOf_111 : decode cX10_twoOf 111 = .ok (.getfield 57, 3) := by decide +kernel
theorem dX10_twoOf_114 : decode cX10_twoOf 114 = .ok (.iload 5, 2) := by decide +kernel
theorem dX10_twoOf_116 : decode cX10_twoOf 116 = .ok (.aload_n 0, 1) := by decide +kernel
theorem dX10_twoOf_117 : decode cX10_twoOf 117 = .ok (.iload_n 1, 1) := by decide +kernel
theorem dX10_twoOf_118 : decode cX10_twoOf 118 = .ok (.iload 4, 2) := by decide +kernel
theorem dX10_twoOf_120 : decode cX10_twoOf 120 = .ok (.aload_n 0, 1) := by decide +kernel
theorem dX10_twoOf_121 : decode cX10_twoOf 121 = .ok (.getfield 57, 3) := by decide +kernel
theorem dX10_twoOf_124 : decode cX10_twoOf 124 = .ok (.iload 5, 2) := by decide +kernel
theorem dX10_twoOf_126 : decode cX10_twoOf 126 = .ok (.iaload, 1) := by decide +kernel
theorem dX10_twoOf_127 : decode cX10_twoOf 127 = .ok (.iconst 0, 1) := by decide +kernel
theorem dX10_twoOf_128 : decode cX10_twoOf 128 = .ok (.invokevirtual 119, 3) := by decide +kernel
theorem dX10_twoOf_131 : decode cX10_twoOf 131 = .ok (.iastore, 1) := by decide +kernel
theorem dX10_twoOf_132 : decode cX10_twoOf 132 = .ok (.aload_n 0, 1) := by decide +kernel
theorem dX10_twoOf_133 : decode cX10_twoOf 133 = .ok (.getfield 57, 3) := by decide +kernel
theorem dX10_twoOf_136 : decode cX10_twoOf 136 = .ok (.iconst 1, 1) := by decide +kernel
theorem dX10_twoOf_137 : decode cX10_twoOf 137 = .ok (.iload 5, 2) := by decide +kernel
theorem dX10_twoOf_139 : decode cX10_twoOf 139 = .ok (.isub, 1) := by decide +kernel
theorem dX10_twoOf_140 : decode cX10_twoOf 140 = .ok (.iaload, 1) := by decide +kernel
theorem dX10_twoOf_141 : decode cX10_twoOf 141 = .ok (.istore 8, 2) := by decide +kernel
theorem dX10_twoOf_143 : decode cX10_twoOf 143 = .ok (.aload_n 0, 1) := by decide +kernel
theorem dX10_twoOf_144 : decode cX10_twoOf 144 = .ok (.getfield 57, 3) := by decide +kernel
theorem dX10_twoOf_147 : decode cX10_twoOf 147 = .ok (.iconst 1, 1) := by decide +kernel
theorem dX10_twoOf_148 : decode cX10_twoOf 148 = .ok (.iload 5, 2) := by decide +kernel
theorem dX10_twoOf_150 : decode cX10_twoOf 150 = .ok (.isub, 1) := by decide +kernel
theorem dX10_twoOf_151 : decode cX10_twoOf 151 = .ok (.iload 6, 2) := by decide +kernel
theorem dX10_twoOf_153 : decode cX10_twoOf 153 = .ok (.ifCond .eq 16, 3) := by decide +kernel
theorem dX10_twoOf_156 : decode cX10_twoOf 156 = .ok (.aload_n 0, 1) := by decide +kernel
theorem dX10_twoOf_157 : decode cX10_twoOf 157 = .ok (.iload_n 1, 1) := by decide +kernel
theorem dX10_twoOf_158 : decode cX10_twoOf 158 = .ok (.iload 4, 2) := by decide +kernel
theorem dX10_twoOf_160 : decode cX10_twoOf 160 = .ok (.iload 8, 2) := by decide +kernel
theorem dX10_twoOf_162 : decode cX10_twoOf 162 = .ok (.iconst 0, 1) := by decide +kernel
theorem dX10_twoOf_163 : decode cX10_twoOf 163 = .ok (.invokevirtual 119, 3) := by decide +kernel
theorem dX10_twoOf_166 : decode cX10_twoOf 166 = .ok (.goto 17, 3) := by decide +kernel
theorem dX10_twoOf_169 : decode cX10_twoOf 169 = .ok (.iload 8, 2) := by decide +kernel
theorem dX10_twoOf_171 : decode cX10_twoOf 171 = .ok (.iconst 2, 1) := by decide +kernel
theorem dX10_twoOf_172 : decode cX10_twoOf 172 = .ok (.if_icmp .ge 7, 3) := by decide +kernel
theorem dX10_twoOf_175 : decode cX10_twoOf 175 = .ok (.iconst 0, 1) := by decide +kernel
theorem dX10_twoOf_176 : decode cX10_twoOf 176 = .ok (.goto 7, 3) := by decide +kernel
theorem dX10_twoOf_179 : decode cX10_twoOf 179 = .ok (.iload 8, 2) := by decide +kernel
theorem dX10_twoOf_181 : decode cX10_twoOf 181 = .ok (.iconst 2, 1) := by decide +kernel
theorem dX10_twoOf_182 : decode cX10_twoOf 182 = .ok (.isub, 1) := by decide +kernel
theorem dX10_twoOf_183 : decode cX10_twoOf 183 = .ok (.iastore, 1) := by decide +kernel
theorem dX10_twoOf_184 : decode cX10_twoOf 184 = .ok (.iinc 4 1, 3) := by decide +kernel
theorem dX10_twoOf_187 : decode cX10_twoOf 187 = .ok (.goto (-165), 3) := by decide +kernel
theorem dX10_twoOf_190 : decode cX10_twoOf 190 = .ok (.aload_n 0, 1) := by decide +kernel
theorem dX10_twoOf_191 : decode cX10_twoOf 191 = .ok (.invokevirtual 173, 3) := by decide +kernel
theorem dX10_twoOf_194 : decode cX10_twoOf 194 = .ok (.ireturn, 1) := by decide +kernel
theorem dX10_two_0 : decode cX10_two 0 = .ok (.iload_n 1, 1) := by decide +kernel
theorem dX10_two_1 : decode cX10_two 1 = .ok (.invokestatic 74, 3) := by decide +kernel
theorem dX10_two_4 : decode cX10_two 4 = .ok (.ifCond .ne 5, 3) := by decide +kernel
theorem dX10_two_7 : decode cX10_two 7 = .ok (.iconst (-1), 1) := by decide +kernel
theorem dX10_two_8 : decode cX10_two 8 = .ok (.ireturn, 1) := by decide +kernel
theorem dX10_two_9 : decode cX10_two 9 = .ok (.iload_n 2, 1) := by decide +kernel
theorem dX10_two_10 : decode cX10_two 10 = .ok (.invokestatic 110, 3) := by decide +kernel
theorem dX10_two_13 : decode cX10_two 13 = .ok (.ifCond .eq 25, 3) := by decide +kernel
theorem dX10_two_16 : decode cX10_two 16 = .ok (.iload_n 3, 1) := by decide +kernel
theorem dX10_two_17 : decode cX10_two 17 = .ok (.i2l, 1) := by decide +kernel
theorem dX10_two_18 : decode cX10_two 18 = .ok (.lconst 1, 1) := by decide +kernel
theorem dX10_two_19 : decode cX10_two 19 = .ok (.ldc2_w 164, 3) := by decide +kernel
theorem dX10_two_22 : decode cX10_two 22 = .ok (.invokestatic 66, 3) := by decide +kernel
theorem dX10_two_25 : decode cX10_two 25 = .ok (.ifCond .eq 13, 3) := by decide +kernel
theorem dX10_two_28 : decode cX10_two 28 = .ok (.aload_n 0, 1) := by decide +kernel
theorem dX10_two_29 : decode cX10_two 29 = .ok (.iload_n 1, 1) := by decide +kernel
theorem dX10_two_30 : decode cX10_two 30 = .ok (.iload_n 2, 1) := by decide +kernel
theorem dX10_two_31 : decode cX10_two 31 = .ok (.iload_n 3, 1) := by decide +kernel
theorem dX10_two_32 : decode cX10_two 32 = .ok (.invokevirtual 211, 3) := by decide +kernel
theorem dX10_two_35 : decode cX10_two 35 = .ok (.goto 5, 3) := by decide +kernel
theorem dX10_two_38 : decode cX10_two 38 = .ok (.bipush (-2), 2) := by decide +kernel
theorem dX10_two_40 : decode cX10_two 40 = .ok (.ireturn, 1) := by decide +kernel
theorem dX10_share_0 : decode cX10_share 0 = .ok (.iload_n 1, 1) := by decide +kernel
theorem dX10_share_1 : decode cX10_share 1 = .ok (.invokestatic 74, 3) := by decide +kernel
theorem dX10_share_4 : decode cX10_share 4 = .ok (.ifCond .ne 5, 3) := by decide +kernel
theorem dX10_share_7 : decode cX10_share 7 = .ok (.iconst (-1), 1) := by decide +kernel
theorem dX10_share_8 : decode cX10_share 8 = .ok (.ireturn, 1) := by decide +kernel
theorem dX10_share_9 : decode cX10_share 9 = .ok (.iload_n 2, 1) := by decide +kernel
theorem dX10_share_10 : decode cX10_share 10 = .ok (.invokestatic 110, 3) := by decide +kernel
theorem dX10_share_13 : decode cX10_share 13 = .ok (.ifCond .ne 6, 3) := by decide +kernel
theorem dX10_share_16 : decode cX10_share 16 = .ok (.bipush (-2), 2) := by decide +kernel
theorem dX10_share_18 : decode cX10_share 18 = .ok (.ireturn, 1) := by decide +kernel
theorem dX10_share_19 : decode cX10_share 19 = .ok (.iconst 1, 1) := by decide +kernel
theorem dX10_share_20 : decode cX10_share 20 = .ok (.istore_n 3, 1) := by decide +kernel
theorem dX10_share_21 : decode cX10_share 21 = .ok (.aload_n 0, 1) := by decide +kernel
theorem dX10_share_22 : decode cX10_share 22 = .ok (.iload_n 1, 1) := by decide +kernel
theorem dX10_share_23 : decode cX10_share 23 = .ok (.iload_n 2, 1) := by decide +kernel
theorem dX10_share_24 : decode cX10_share 24 = .ok (.iconst 1, 1) := by decide +kernel
theorem dX10_share_25 : decode cX10_share 25 = .ok (.invokevirtual 211, 3) := by decide +kernel
theorem dX10_share_28 : decode cX10_share 28 = .ok (.istore 4, 2) := by decide +kernel
theorem dX10_share_30 : decode cX10_share 30 = .ok (.iconst 2, 1) := by decide +kernel
theorem dX10_share_31 : decode cX10_share 31 = .ok (.istore 5, 2) := by decide +kernel
theorem dX10_share_33 : decode cX10_share 33 = .ok (.iload 5, 2) := by decide +kernel
theorem dX10_share_35 : decode cX10_share 35 = .ok (.bipush 6, 2) := by decide +kernel
theorem dX10_share_37 : decode cX10_share 37 = .ok (.if_icmp .gt 33, 3) := by decide +kernel
theorem dX10_share_40 : decode cX10_share 40 = .ok (.aload_n 0, 1) := by decide +kernel
theorem dX10_share_41 : decode cX10_share 41 = .ok (.iload_n 1, 1) := by decide +kernel
theorem dX10_share_42 : decode cX10_share 42 = .ok (.iload_n 2, 1) := by decide +kernel
theorem dX10_share_43 : decode cX10_share 43 = .ok (.iload 5, 2) := by decide +kernel
theorem dX10_share_45 : decode cX10_share 45 = .ok (.invokevirtual 211, 3) := by decide +kernel
theorem dX10_share_48 : decode cX10_share 48 = .ok (.istore 6, 2) := by decide +kernel
theorem dX10_share_50 : decode cX10_share 50 = .ok (.iload 6, 2) := by decide +kernel
theorem dX10_share_52 : decode cX10_share 52 = .ok (.iload 4, 2) := by decide +kernel
theorem dX10_share_54 : decode cX10_share 54 = .ok (.if_icmp .le 10, 3) := by decide +kernel
theorem dX10_share_57 : decode cX10_share 57 = .ok (.iload 5, 2) := by decide +kernel
theorem dX10_share_59 : decode cX10_share 59 = .ok (.istore_n 3, 1) := by decide +kernel
theorem dX10_share_60 : decode cX10_share 60 = .ok (.iload 6, 2) := by decide +kernel
theorem dX10_share_62 : decode cX10_share 62 = .ok (.istore 4, 2) := by decide +kernel
theorem dX10_share_64 : decode cX10_share 64 = .ok (.iinc 5 1, 3) := by decide +kernel
theorem dX10_share_67 : decode cX10_share 67 = .ok (.goto (-34), 3) := by decide +kernel
theorem dX10_share_70 : decode cX10_share 70 = .ok (.iload_n 3, 1) := by decide +kernel
theorem dX10_share_71 : decode cX10_share 71 = .ok (.ireturn, 1) := by decide +kernel
theorem dX10_getsUp_0 : decode cX10_getsUp 0 = .ok (.sipush 1000, 3) := by decide +kernel
theorem dX10_getsUp_3 : decode cX10_getsUp 3 = .ok (.iconst 1, 1) := by decide +kernel
theorem dX10_getsUp_4 : decode cX10_getsUp 4 = .ok (.bipush 10, 2) := by decide +kernel
theorem dX10_getsUp_6 : decode cX10_getsUp 6 = .ok (.iload_n 2, 1) := by decide +kernel
theorem dX10_getsUp_7 : decode cX10_getsUp 7 = .ok (.imul, 1) := by decide +kernel
theorem dX10_getsUp_8 : decode cX10_getsUp 8 = .ok (.iadd, 1) := by decide +kernel
theorem dX10_getsUp_9 : decode cX10_getsUp 9 = .ok (.imul, 1) := by decide +kernel
theorem dX10_getsUp_10 : decode cX10_getsUp 10 = .ok (.iload_n 1, 1) := by decide +kernel
theorem dX10_getsUp_11 : decode cX10_getsUp 11 = .ok (.iload_n 0, 1) := by decide +kernel
theorem dX10_getsUp_12 : decode cX10_getsUp 12 = .ok (.imul, 1) := by decide +kernel
theorem dX10_getsUp_13 : decode cX10_getsUp 13 = .ok (.if_icmp .gt 7, 3) := by decide +kernel
theorem dX10_getsUp_16 : decode cX10_getsUp 16 = .ok (.iconst 1, 1) := by decide +kernel
theorem dX10_getsUp_17 : decode cX10_getsUp 17 = .ok (.goto 4, 3) := by decide +kernel
theorem dX10_getsUp_20 : decode cX10_getsUp 20 = .ok (.iconst 0, 1) := by decide +kernel
theorem dX10_getsUp_21 : decode cX10_getsUp 21 = .ok (.ireturn, 1) := by decide +kernel
theorem dX10_up_0 : decode cX10_up 0 = .ok (.iload_n 1, 1) := by decide +kernel
theorem dX10_up_1 : decode cX10_up 1 = .ok (.i2l, 1) := by decide +kernel
theorem dX10_up_2 : decode cX10_up 2 = .ok (.lconst 0, 1) := by decide +kernel
theorem dX10_up_3 : decode cX10_up 3 = .ok (.ldc2_w 91, 3) := by decide +kernel
theorem dX10_up_6 : decode cX10_up 6 = .ok (.invokestatic 66, 3) := by decide +kernel
theorem dX10_up_9 : decode cX10_up 9 = .ok (.ifCond .eq 22, 3) := by decide +kernel
theorem dX10_up_12 : decode cX10_up 12 = .ok (.iload_n 2, 1) := by decide +kernel
theorem dX10_up_13 : decode cX10_up 13 = .ok (.i2l, 1) := by decide +kernel
theorem dX10_up_14 : decode cX10_up 14 = .ok (.lconst 0, 1) := by decide +kernel
theorem dX10_up_15 : decode cX10_up 15 = .ok (.ldc2_w 214, 3) := by decide +kernel
theorem dX10_up_18 : decode cX10_up 18 = .ok (.invokestatic 66, 3) := by decide +kernel
theorem dX10_up_21 : decode cX10_up 21 = .ok (.ifCond .eq 10, 3) := by decide +kernel
theorem dX10_up_24 : decode cX10_up 24 = .ok (.iload_n 3, 1) := by decide +kernel
theorem dX10_up_25 : decode cX10_up 25 = .ok (.invokestatic 110, 3) := by decide +kernel
theorem dX10_up_28 : decode cX10_up 28 = .ok (.ifCond .ne 6, 3) := by decide +kernel
theorem dX10_up_31 : decode cX10_up 31 = .ok (.bipush (-2), 2) := by decide +kernel
theorem dX10_up_33 : decode cX10_up 33 = .ok (.ireturn, 1) := by decide +kernel
theorem dX10_up_34 : decode cX10_up 34 = .ok (.iload_n 1, 1) := by decide +kernel
theorem dX10_up_35 : decode cX10_up 35 = .ok (.iload_n 2, 1) := by decide +kernel
theorem dX10_up_36 : decode cX10_up 36 = .ok (.iload_n 3, 1) := by decide +kernel
theorem dX10_up_37 : decode cX10_up 37 = .ok (.invokestatic 216, 3) := by decide +kernel
theorem dX10_up_40 : decode cX10_up 40 = .ok (.ifCond .eq 7, 3) := by decide +kernel
theorem dX10_up_43 : decode cX10_up 43 = .ok (.iconst 1, 1) := by decide +kernel
theorem dX10_up_44 : decode cX10_up 44 = .ok (.goto 4, 3) := by decide +kernel
theorem dX10_up_47 : decode cX10_up 47 = .ok (.iconst 0, 1) := by decide +kernel
theorem dX10_up_48 : decode cX10_up 48 = .ok (.ireturn, 1) := by decide +kernel
theorem dX10_trust_0 : decode cX10_trust 0 = .ok (.iload_n 1, 1) := by decide +kernel
theorem dX10_trust_1 : decode cX10_trust 1 = .ok (.i2l, 1) := by decide +kernel
theorem dX10_trust_2 : decode cX10_trust 2 = .ok (.lconst 0, 1) := by decide +kernel
theorem dX10_trust_3 : decode cX10_trust 3 = .ok (.ldc2_w 214, 3) := by decide +kernel
theorem dX10_trust_6 : decode cX10_trust 6 = .ok (.invokestatic 66, 3) := by decide +kernel
theorem dX10_trust_9 : decode cX10_trust 9 = .ok (.ifCond .eq 10, 3) := by decide +kernel
theorem dX10_trust_12 : decode cX10_trust 12 = .ok (.iload_n 2, 1) := by decide +kernel
theorem dX10_trust_13 : decode cX10_trust 13 = .ok (.invokestatic 110, 3) := by decide +kernel
theorem dX10_trust_16 : decode cX10_trust 16 = .ok (.ifCond .ne 6, 3) := by decide +kernel
theorem dX10_trust_19 : decode cX10_trust 19 = .ok (.bipush (-2), 2) := by decide +kernel
theorem dX10_trust_21 : decode cX10_trust 21 = .ok (.ireturn, 1) := by decide +kernel
theorem dX10_trust_22 : decode cX10_trust 22 = .ok (.iconst 0, 1) := by decide +kernel
theorem dX10_trust_23 : decode cX10_trust 23 = .ok (.istore_n 3, 1) := by decide +kernel
theorem dX10_trust_24 : decode cX10_trust 24 = .ok (.iload_n 3, 1) := by decide +kernel
theorem dX10_trust_25 : decode cX10_trust 25 = .ok (.sipush 1000, 3) := by decide +kernel
theorem dX10_trust_28 : decode cX10_trust 28 = .ok (.if_icmp .gt 18, 3) := by decide +kernel
theorem dX10_trust_31 : decode cX10_trust 31 = .ok (.iload_n 3, 1) := by decide +kernel
theorem dX10_trust_32 : decode cX10_trust 32 = .ok (.iload_n 1, 1) := by decide +kernel
theorem dX10_trust_33 : decode cX10_trust 33 = .ok (.iload_n 2, 1) := by decide +kernel
theorem dX10_trust_34 : decode cX10_trust 34 = .ok (.invokestatic 216, 3) := by decide +kernel
theorem dX10_trust_37 : decode cX10_trust 37 = .ok (.ifCond .ne 9, 3) := by decide +kernel
theorem dX10_trust_40 : decode cX10_trust 40 = .ok (.iinc 3 1, 3) := by decide +kernel
theorem dX10_trust_43 : decode cX10_trust 43 = .ok (.goto (-19), 3) := by decide +kernel
theorem dX10_trust_46 : decode cX10_trust 46 = .ok (.iload_n 3, 1) := by decide +kernel
theorem dX10_trust_47 : decode cX10_trust 47 = .ok (.ireturn, 1) := by decide +kernel
theorem dX10_thousandth_0 : decode cX10_thousandth 0 = .ok (.aload_n 0, 1) := by decide +kernel
theorem dX10_thousandth_1 : decode cX10_thousandth 1 = .ok (.bipush 75, 2) := by decide +kernel
theorem dX10_thousandth_3 : decode cX10_thousandth 3 = .ok (.aload_n 0, 1) := by decide +kernel
theorem dX10_thousandth_4 : decode cX10_thousandth 4 = .ok (.getfield 219, 3) := by decide +kernel
theorem dX10_thousandth_7 : decode cX10_thousandth 7 = .ok (.imul, 1) := by decide +kernel
theorem dX10_thousandth_8 : decode cX10_thousandth 8 = .ok (.bipush 74, 2) := by decide +kernel
theorem dX10_thousandth_10 : decode cX10_thousandth 10 = .ok (.iadd, 1) := by decide +kernel
theorem dX10_thousandth_11 : decode cX10_thousandth 11 = .ok (.ldc 222, 2) := by decide +kernel
theorem dX10_thousandth_13 : decode cX10_thousandth 13 = .ok (.irem, 1) := by decide +kernel
theorem dX10_thousandth_14 : decode cX10_thousandth 14 = .ok (.putfield 219, 3) := by decide +kernel
theorem dX10_thousandth_17 : decode cX10_thousandth 17 = .ok (.aload_n 0, 1) := by decide +kernel
theorem dX10_thousandth_18 : decode cX10_thousandth 18 = .ok (.getfield 219, 3) := by decide +kernel
theorem dX10_thousandth_21 : decode cX10_thousandth 21 = .ok (.sipush 1000, 3) := by decide +kernel
theorem dX10_thousandth_24 : decode cX10_thousandth 24 = .ok (.irem, 1) := by decide +kernel
theorem dX10_thousandth_25 : decode cX10_thousandth 25 = .ok (.ireturn, 1) := by decide +kernel
theorem dX10_draw_0 : decode cX10_draw 0 = .ok (.iload_n 1, 1) := by decide +kernel
theorem dX10_draw_1 : decode cX10_draw 1 = .ok (.invokestatic 74, 3) := by decide +kernel
theorem dX10_draw_4 : decode cX10_draw 4 = .ok (.ifCond .ne 5, 3) := by decide +kernel
theorem dX10_draw_7 : decode cX10_draw 7 = .ok (.iconst (-1), 1) := by decide +kernel
theorem dX10_draw_8 : decode cX10_draw 8 = .ok (.ireturn, 1) := by decide +kernel
theorem dX10_draw_9 : decode cX10_draw 9 = .ok (.iload_n 2, 1) := by decide +kernel
theorem dX10_draw_10 : decode cX10_draw 10 = .ok (.invokestatic 110, 3) := by decide +kernel
theorem dX10_draw_13 : decode cX10_draw 13 = .ok (.ifCond .eq 23, 3) := by decide +kernel
theorem dX10_draw_16 : decode cX10_draw 16 = .ok (.iload_n 3, 1) := by decide +kernel
theorem dX10_draw_17 : decode cX10_draw 17 = .ok (.invokestatic 161, 3) := by decide +kernel
theorem dX10_draw_20 : decode cX10_draw 20 = .ok (.ifCond .eq 16, 3) := by decide +kernel
theorem dX10_draw_23 : decode cX10_draw 23 = .ok (.iload 4, 2) := by decide +kernel
theorem dX10_draw_25 : decode cX10_draw 25 = .ok (.i2l, 1) := by decide +kernel
theorem dX10_draw_26 : decode cX10_draw 26 = .ok (.lconst 0, 1) := by decide +kernel
theorem dX10_draw_27 : decode cX10_draw 27 = .ok (.ldc2_w 223, 3) := by decide +kernel
theorem dX10_draw_30 : decode cX10_draw 30 = .ok (.invokestatic 66, 3) := by decide +kernel
theorem dX10_draw_33 : decode cX10_draw 33 = .ok (.ifCond .ne 6, 3) := by decide +kernel
theorem dX10_draw_36 : decode cX10_draw 36 = .ok (.bipush (-2), 2) := by decide +kernel
theorem dX10_draw_38 : decode cX10_draw 38 = .ok (.ireturn, 1) := by decide +kernel
theorem dX10_draw_39 : decode cX10_draw 39 = .ok (.aload_n 0, 1) := by decide +kernel
theorem dX10_draw_40 : decode cX10_draw 40 = .ok (.invokevirtual 166, 3) := by decide +kernel
theorem dX10_draw_43 : decode cX10_draw 43 = .ok (.ifCond .lt 6, 3) := by decide +kernel
theorem dX10_draw_46 : decode cX10_draw 46 = .ok (.bipush (-5), 2) := by decide +kernel
theorem dX10_draw_48 : decode cX10_draw 48 = .ok (.ireturn, 1) := by decide +kernel
theorem dX10_draw_49 : decode cX10_draw 49 = .ok (.aload_n 0, 1) := by decide +kernel
theorem dX10_draw_50 : decode cX10_draw 50 = .ok (.iload_n 1, 1) := by decide +kernel
theorem dX10_draw_51 : decode cX10_draw 51 = .ok (.iload_n 2, 1) := by decide +kernel
theorem dX10_draw_52 : decode cX10_draw 52 = .ok (.iload_n 3, 1) := by decide +kernel
theorem dX10_draw_53 : decode cX10_draw 53 = .ok (.invokevirtual 170, 3) := by decide +kernel
theorem dX10_draw_56 : decode cX10_draw 56 = .ok (.aload_n 0, 1) := by decide +kernel
theorem dX10_draw_57 : decode cX10_draw 57 = .ok (.iload 4, 2) := by decide +kernel
theorem dX10_draw_59 : decode cX10_draw 59 = .ok (.putfield 219, 3) := by decide +kernel
theorem dX10_draw_62 : decode cX10_draw 62 = .ok (.iconst 0, 1) := by decide +kernel
theorem dX10_draw_63 : decode cX10_draw 63 = .ok (.istore 5, 2) := by decide +kernel
theorem dX10_draw_65 : decode cX10_draw 65 = .ok (.iload 5, 2) := by decide +kernel
theorem dX10_draw_67 : decode cX10_draw 67 = .ok (.aload_n 0, 1) := by decide +kernel
theorem dX10_draw_68 : decode cX10_draw 68 = .ok (.getfield 135, 3) := by decide +kernel
theorem dX10_draw_71 : decode cX10_draw 71 = .ok (.if_icmp .ge 52, 3) := by decide +kernel
theorem dX10_draw_74 : decode cX10_draw 74 = .ok (.aload_n 0, 1) := by decide +kernel
theorem dX10_draw_75 : decode cX10_draw 75 = .ok (.invokevirtual 225, 3) := by decide +kernel
theorem dX10_draw_78 : decode cX10_draw 78 = .ok (.aload_n 0, 1) := by decide +kernel
theorem dX10_draw_79 : decode cX10_draw 79 = .ok (.getfield 43, 3) := by decide +kernel
theorem dX10_draw_82 : decode cX10_draw 82 = .ok (.iload 5, 2) := by decide +kernel
theorem dX10_draw_84 : decode cX10_draw 84 = .ok (.iaload, 1) := by decide +kernel
theorem dX10_draw_85 : decode cX10_draw 85 = .ok (.if_icmp .ge 7, 3) := by decide +kernel
theorem dX10_draw_88 : decode cX10_draw 88 = .ok (.iconst 1, 1) := by decide +kernel
theorem dX10_draw_89 : decode cX10_draw 89 = .ok (.goto 4, 3) := by decide +kernel
theorem dX10_draw_92 : decode cX10_draw 92 = .ok (.iconst 0, 1) := by decide +kernel
theorem dX10_draw_93 : decode cX10_draw 93 = .ok (.istore 6, 2) := by decide +kernel
theorem dX10_draw_95 : decode cX10_draw 95 = .ok (.iload 6, 2) := by decide +kernel
theorem dX10_draw_97 : decode cX10_draw 97 = .ok (.ifCond .eq 20, 3) := by decide +kernel
theorem dX10_draw_100 : decode cX10_draw 100 = .ok (.aload_n 0, 1) := by decide +kernel
theorem dX10_draw_101 : decode cX10_draw 101 = .ok (.invokevirtual 225, 3) := by decide +kernel
theorem dX10_draw_104 : decode cX10_draw 104 = .ok (.aload_n 0, 1) := by decide +kernel
theorem dX10_draw_105 : decode cX10_draw 105 = .ok (.getfield 46, 3) := by decide +kernel
theorem dX10_draw_108 : decode cX10_draw 108 = .ok (.iload 5, 2) := by decide +kernel
theorem dX10_draw_110 : decode cX10_draw 110 = .ok (.iaload, 1) := by decide +kernel
theorem dX10_draw_111 : decode cX10_draw 111 = .ok (.if_icmp .ge 6, 3) := by decide +kernel
theorem dX10_draw_114 : decode cX10_draw 114 = .ok (.iload 5, 2) := by decide +kernel
theorem dX10_draw_116 : decode cX10_draw 116 = .ok (.ireturn, 1) := by decide +kernel
theorem dX10_draw_117 : decode cX10_draw 117 = .ok (.iinc 5 1, 3) := by decide +kernel
theorem dX10_draw_120 : decode cX10_draw 120 = .ok (.goto (-55), 3) := by decide +kernel
theorem dX10_draw_123 : decode cX10_draw 123 = .ok (.bipush (-6), 2) := by decide +kernel
theorem dX10_draw_125 : decode cX10_draw 125 = .ok (.ireturn, 1) := by decide +kernel
theorem dX10_pass_0 : decode cX10_pass 0 = .ok (.aload_n 0, 1) := by decide +kernel
theorem dX10_pass_1 : decode cX10_pass 1 = .ok (.getfield 228, 3) := by decide +kernel
theorem dX10_pass_4 : decode cX10_pass 4 = .ok (.ifCond .eq 7, 3) := by decide +kernel
theorem dX10_pass_7 : decode cX10_pass 7 = .ok (.iload_n 1, 1) := by decide +kernel
theorem dX10_pass_8 : decode cX10_pass 8 = .ok (.goto 12, 3) := by decide +kernel
theorem dX10_pass_11 : decode cX10_pass 11 = .ok (.aload_n 0, 1) := by decide +kernel
theorem dX10_pass_12 : decode cX10_pass 12 = .ok (.getfield 60, 3) := by decide +kernel
theorem dX10_pass_15 : decode cX10_pass 15 = .ok (.aload_n 0, 1) := by decide +kernel
theorem dX10_pass_16 : decode cX10_pass 16 = .ok (.getfield 232, 3) := by decide +kernel
theorem dX10_pass_19 : decode cX10_pass 19 = .ok (.iaload, 1) := by decide +kernel
theorem dX10_pass_20 : decode cX10_pass 20 = .ok (.istore_n 2, 1) := by decide +kernel
theorem dX10_pass_21 : decode cX10_pass 21 = .ok (.aload_n 0, 1) := by decide +kernel
theorem dX10_pass_22 : decode cX10_pass 22 = .ok (.getfield 60, 3) := by decide +kernel
theorem dX10_pass_25 : decode cX10_pass 25 = .ok (.aload_n 0, 1) := by decide +kernel
theorem dX10_pass_26 : decode cX10_pass 26 = .ok (.getfield 232, 3) := by decide +kernel
theorem dX10_pass_29 : decode cX10_pass 29 = .ok (.iload_n 2, 1) := by decide +kernel
theorem dX10_pass_30 : decode cX10_pass 30 = .ok (.iastore, 1) := by decide +kernel
theorem dX10_pass_31 : decode cX10_pass 31 = .ok (.aload_n 0, 1) := by decide +kernel
theorem dX10_pass_32 : decode cX10_pass 32 = .ok (.dup, 1) := by decide +kernel
theorem dX10_pass_33 : decode cX10_pass 33 = .ok (.getfield 232, 3) := by decide +kernel
theorem dX10_pass_36 : decode cX10_pass 36 = .ok (.iconst 1, 1) := by decide +kernel
theorem dX10_pass_37 : decode cX10_pass 37 = .ok (.iadd, 1) := by decide +kernel
theorem dX10_pass_38 : decode cX10_pass 38 = .ok (.putfield 232, 3) := by decide +kernel
theorem dX10_pass_41 : decode cX10_pass 41 = .ok (.iload_n 2, 1) := by decide +kernel
theorem dX10_pass_42 : decode cX10_pass 42 = .ok (.ireturn, 1) := by decide +kernel
theorem dX10_passAll_0 : decode cX10_passAll 0 = .ok (.iconst 0, 1) := by decide +kernel
theorem dX10_passAll_1 : decode cX10_passAll 1 = .ok (.istore_n 1, 1) := by decide +kernel
theorem dX10_passAll_2 : decode cX10_passAll 2 = .ok (.iload_n 1, 1) := by decide +kernel
theorem dX10_passAll_3 : decode cX10_passAll 3 = .ok (.bipush 16, 2) := by decide +kernel
theorem dX10_passAll_5 : decode cX10_passAll 5 = .ok (.if_icmp .ge 57, 3) := by decide +kernel
theorem dX10_passAll_8 : decode cX10_passAll 8 = .ok (.aload_n 0, 1) := by decide +kernel
theorem dX10_passAll_9 : decode cX10_passAll 9 = .ok (.getfield 7, 3) := by decide +kernel
theorem dX10_passAll_12 : decode cX10_passAll 12 = .ok (.iload_n 1, 1) := by decide +kernel
theorem dX10_passAll_13 : decode cX10_passAll 13 = .ok (.aload_n 0, 1) := by decide +kernel
theorem dX10_passAll_14 : decode cX10_passAll 14 = .ok (.aload_n 0, 1) := by decide +kernel
theorem dX10_passAll_15 : decode cX10_passAll 15 = .ok (.getfield 7, 3) := by decide +kernel
theorem dX10_passAll_18 : decode cX10_passAll 18 = .ok (.iload_n 1, 1) := by decide +kernel
theorem dX10_passAll_19 : decode cX10_passAll 19 = .ok (.iaload, 1) := by decide +kernel
theorem dX10_passAll_20 : decode cX10_passAll 20 = .ok (.invokevirtual 235, 3) := by decide +kernel
theorem dX10_passAll_23 : decode cX10_passAll 23 = .ok (.iastore, 1) := by decide +kernel
theorem dX10_passAll_24 : decode cX10_passAll 24 = .ok (.aload_n 0, 1) := by decide +kernel
theorem dX10_passAll_25 : decode cX10_passAll 25 = .ok (.getfield 13, 3) := by decide +kernel
theorem dX10_passAll_28 : decode cX10_passAll 28 = .ok (.iload_n 1, 1) := by decide +kernel
theorem dX10_passAll_29 : decode cX10_passAll 29 = .ok (.aload_n 0, 1) := by decide +kernel
theorem dX10_passAll_30 : decode cX10_passAll 30 = .ok (.aload_n 0, 1) := by decide +kernel
theorem dX10_passAll_31 : decode cX10_passAll 31 = .ok (.getfield 13, 3) := by decide +kernel
theorem dX10_passAll_34 : decode cX10_passAll 34 = .ok (.iload_n 1, 1) := by decide +kernel
theorem dX10_passAll_35 : decode cX10_passAll 35 = .ok (.iaload, 1) := by decide +kernel
theorem dX10_passAll_36 : decode cX10_passAll 36 = .ok (.invokevirtual 235, 3) := by decide +kernel
theorem dX10_passAll_39 : decode cX10_passAll 39 = .ok (.iastore, 1) := by decide +kernel
theorem dX10_passAll_40 : decode cX10_passAll 40 = .ok (.aload_n 0, 1) := by decide +kernel
theorem dX10_passAll_41 : decode cX10_passAll 41 = .ok (.getfield 16, 3) := by decide +kernel
theorem dX10_passAll_44 : decode cX10_passAll 44 = .ok (.iload_n 1, 1) := by decide +kernel
theorem dX10_passAll_45 : decode cX10_passAll 45 = .ok (.aload_n 0, 1) := by decide +kernel
theorem dX10_passAll_46 : decode cX10_passAll 46 = .ok (.aload_n 0, 1) := by decide +kernel
theorem dX10_passAll_47 : decode cX10_passAll 47 = .ok (.getfield 16, 3) := by decide +kernel
theorem dX10_passAll_50 : decode cX10_passAll 50 = .ok (.iload_n 1, 1) := by decide +kernel
theorem dX10_passAll_51 : decode cX10_passAll 51 = .ok (.iaload, 1) := by decide +kernel
theorem dX10_passAll_52 : decode cX10_passAll 52 = .ok (.invokevirtual 235, 3) := by decide +kernel
theorem dX10_passAll_55 : decode cX10_passAll 55 = .ok (.iastore, 1) := by decide +kernel
theorem dX10_passAll_56 : decode cX10_passAll 56 = .ok (.iinc 1 1, 3) := by decide +kernel
theorem dX10_passAll_59 : decode cX10_passAll 59 = .ok (.goto (-57), 3) := by decide +kernel
theorem dX10_passAll_62 : decode cX10_passAll 62 = .ok (.iconst 0, 1) := by decide +kernel
theorem dX10_passAll_63 : decode cX10_passAll 63 = .ok (.istore_n 1, 1) := by decide +kernel
theorem dX10_passAll_64 : decode cX10_passAll 64 = .ok (.iload_n 1, 1) := by decide +kernel
theorem dX10_passAll_65 : decode cX10_passAll 65 = .ok (.iconst 2, 1) := by decide +kernel
theorem dX10_passAll_66 : decode cX10_passAll 66 = .ok (.if_icmp .ge 25, 3) := by decide +kernel
theorem dX10_passAll_69 : decode cX10_passAll 69 = .ok (.aload_n 0, 1) := by decide +kernel
theorem dX10_passAll_70 : decode cX10_passAll 70 = .ok (.getfield 19, 3) := by decide +kernel
theorem dX10_passAll_73 : decode cX10_passAll 73 = .ok (.iload_n 1, 1) := by decide +kernel
theorem dX10_passAll_74 : decode cX10_passAll 74 = .ok (.aload_n 0, 1) := by decide +kernel
theorem dX10_passAll_75 : decode cX10_passAll 75 = .ok (.aload_n 0, 1) := by decide +kernel
theorem dX10_passAll_76 : decode cX10_passAll 76 = .ok (.getfield 19, 3) := by decide +kernel
theorem dX10_passAll_79 : decode cX10_passAll 79 = .ok (.iload_n 1, 1) := by decide +kernel
theorem dX10_passAll_80 : decode cX10_passAll 80 = .ok (.iaload, 1) := by decide +kernel
theorem dX10_passAll_81 : decode cX10_passAll 81 = .ok (.invokevirtual 235, 3) := by decide +kernel
theorem dX10_passAll_84 : decode cX10_passAll 84 = .ok (.iastore, 1) := by decide +kernel
theorem dX10_passAll_85 : decode cX10_passAll 85 = .ok (.iinc 1 1, 3) := by decide +kernel
theorem dX10_passAll_88 : decode cX10_passAll 88 = .ok (.goto (-24), 3) := by decide +kernel
theorem dX10_passAll_91 : decode cX10_passAll 91 = .ok (.iconst 0, 1) := by decide +kernel
theorem dX10_passAll_92 : decode cX10_passAll 92 = .ok (.istore_n 1, 1) := by decide +kernel
theorem dX10_passAll_93 : decode cX10_passAll 93 = .ok (.iload_n 1, 1) := by decide +kernel
theorem dX10_passAll_94 : decode cX10_passAll 94 = .ok (.iconst 3, 1) := by decide +kernel
theorem dX10_passAll_95 : decode cX10_passAll 95 = .ok (.if_icmp .ge 41, 3) := by decide +kernel
theorem dX10_passAll_98 : decode cX10_passAll 98 = .ok (.aload_n 0, 1) := by decide +kernel
theorem dX10_passAll_99 : decode cX10_passAll 99 = .ok (.getfield 31, 3) := by decide +kernel
theorem dX10_passAll_102 : decode cX10_passAll 102 = .ok (.iload_n 1, 1) := by decide +kernel
theorem dX10_passAll_103 : decode cX10_passAll 103 = .ok (.aload_n 0, 1) := by decide +kernel
theorem dX10_passAll_104 : decode cX10_passAll 104 = .ok (.aload_n 0, 1) := by decide +kernel
theorem dX10_passAll_105 : decode cX10_passAll 105 = .ok (.getfield 31, 3) := by decide +kernel
theorem dX10_passAll_108 : decode cX10_passAll 108 = .ok (.iload_n 1, 1) := by decide +kernel
theorem dX10_passAll_109 : decode cX10_passAll 109 = .ok (.iaload, 1) := by decide +kernel
theorem dX10_passAll_110 : decode cX10_passAll 110 = .ok (.invokevirtual 235, 3) := by decide +kernel
theorem dX10_passAll_113 : decode cX10_passAll 113 = .ok (.iastore, 1) := by decide +kernel
theorem dX10_passAll_114 : decode cX10_passAll 114 = .ok (.aload_n 0, 1) := by decide +kernel
theorem dX10_passAll_115 : decode cX10_passAll 115 = .ok (.getfield 34, 3) := by decide +kernel
theorem dX10_passAll_118 : decode cX10_passAll 118 = .ok (.iload_n 1, 1) := by decide +kernel
theorem dX10_passAll_119 : decode cX10_passAll 119 = .ok (.aload_n 0, 1) := by decide +kernel
theorem dX10_passAll_120 : decode cX10_passAll 120 = .ok (.aload_n 0, 1) := by decide +kernel
theorem dX10_passAll_121 : decode cX10_passAll 121 = .ok (.getfield 34, 3) := by decide +kernel
theorem dX10_passAll_124 : decode cX10_passAll 124 = .ok (.iload_n 1, 1) := by decide +kernel
theorem dX10_passAll_125 : decode cX10_passAll 125 = .ok (.iaload, 1) := by decide +kernel
theorem dX10_passAll_126 : decode cX10_passAll 126 = .ok (.invokevirtual 235, 3) := by decide +kernel
theorem dX10_passAll_129 : decode cX10_passAll 129 = .ok (.iastore, 1) := by decide +kernel
theorem dX10_passAll_130 : decode cX10_passAll 130 = .ok (.iinc 1 1, 3) := by decide +kernel
theorem dX10_passAll_133 : decode cX10_passAll 133 = .ok (.goto (-40), 3) := by decide +kernel
theorem dX10_passAll_136 : decode cX10_passAll 136 = .ok (.return_, 1) := by decide +kernel
theorem dX10_image_0 : decode cX10_image 0 = .ok (.iload_n 1, 1) := by decide +kernel
theorem dX10_image_1 : decode cX10_image 1 = .ok (.invokestatic 80, 3) := by decide +kernel
theorem dX10_image_4 : decode cX10_image 4 = .ok (.ifCond .ne 6, 3) := by decide +kernel
theorem dX10_image_7 : decode cX10_image 7 = .ok (.bipush (-2), 2) := by decide +kernel
theorem dX10_image_9 : decode cX10_image 9 = .ok (.ireturn, 1) := by decide +kernel
theorem dX10_image_10 : decode cX10_image 10 = .ok (.aload_n 0, 1) := by decide +kernel
theorem dX10_image_11 : decode cX10_image 11 = .ok (.bipush 60, 2) := by decide +kernel
theorem dX10_image_13 : decode cX10_image 13 = .ok (.iload_n 1, 1) := by decide +kernel
theorem dX10_image_14 : decode cX10_image 14 = .ok (.imul, 1) := by decide +kernel
theorem dX10_image_15 : decode cX10_image 15 = .ok (.putfield 232, 3) := by decide +kernel
theorem dX10_image_18 : decode cX10_image 18 = .ok (.aload_n 0, 1) := by decide +kernel
theorem dX10_image_19 : decode cX10_image 19 = .ok (.iconst 1, 1) := by decide +kernel
theorem dX10_image_20 : decode cX10_image 20 = .ok (.putfield 228, 3) := by decide +kernel
theorem dX10_image_23 : decode cX10_image 23 = .ok (.aload_n 0, 1) := by decide +kernel
theorem dX10_image_24 : decode cX10_image 24 = .ok (.invokevirtual 238, 3) := by decide +kernel
theorem dX10_image_27 : decode cX10_image 27 = .ok (.aload_n 0, 1) := by decide +kernel
theorem dX10_image_28 : decode cX10_image 28 = .ok (.getfield 63, 3) := by decide +kernel
theorem dX10_image_31 : decode cX10_image 31 = .ok (.iload_n 1, 1) := by decide +kernel
theorem dX10_image_32 : decode cX10_image 32 = .ok (.iconst 1, 1) := by decide +kernel
theorem dX10_image_33 : decode cX10_image 33 = .ok (.bastore, 1) := by decide +kernel
theorem dX10_image_34 : decode cX10_image 34 = .ok (.iconst 1, 1) := by decide +kernel
theorem dX10_image_35 : decode cX10_image 35 = .ok (.ireturn, 1) := by decide +kernel
theorem dX10_restore_0 : decode cX10_restore 0 = .ok (.iload_n 1, 1) := by decide +kernel
theorem dX10_restore_1 : decode cX10_restore 1 = .ok (.invokestatic 80, 3) := by decide +kernel
theorem dX10_restore_4 : decode cX10_restore 4 = .ok (.ifCond .ne 6, 3) := by decide +kernel
theorem dX10_restore_7 : decode cX10_restore 7 = .ok (.bipush (-2), 2) := by decide +kernel
theorem dX10_restore_9 : decode cX10_restore 9 = .ok (.ireturn, 1) := by decide +kernel
theorem dX10_restore_10 : decode cX10_restore 10 = .ok (.aload_n 0, 1) := by decide +kernel
theorem dX10_restore_11 : decode cX10_restore 11 = .ok (.getfield 63, 3) := by decide +kernel
theorem dX10_restore_14 : decode cX10_restore 14 = .ok (.iload_n 1, 1) := by decide +kernel
theorem dX10_restore_15 : decode cX10_restore 15 = .ok (.baload, 1) := by decide +kernel
theorem dX10_restore_16 : decode cX10_restore 16 = .ok (.ifCond .ne 6, 3) := by decide +kernel
theorem dX10_restore_19 : decode cX10_restore 19 = .ok (.bipush (-3), 2) := by decide +kernel
theorem dX10_restore_21 : decode cX10_restore 21 = .ok (.ireturn, 1) := by decide +kernel
theorem dX10_restore_22 : decode cX10_restore 22 = .ok (.aload_n 0, 1) := by decide +kernel
theorem dX10_restore_23 : decode cX10_restore 23 = .ok (.bipush 60, 2) := by decide +kernel
theorem dX10_restore_25 : decode cX10_restore 25 = .ok (.iload_n 1, 1) := by decide +kernel
theorem dX10_restore_26 : decode cX10_restore 26 = .ok (.imul, 1) := by decide +kernel
theorem dX10_restore_27 : decode cX10_restore 27 = .ok (.putfield 232, 3) := by decide +kernel
theorem dX10_restore_30 : decode cX10_restore 30 = .ok (.aload_n 0, 1) := by decide +kernel
theorem dX10_restore_31 : decode cX10_restore 31 = .ok (.iconst 0, 1) := by decide +kernel
theorem dX10_restore_32 : decode cX10_restore 32 = .ok (.putfield 228, 3) := by decide +kernel
theorem dX10_restore_35 : decode cX10_restore 35 = .ok (.aload_n 0, 1) := by decide +kernel
theorem dX10_restore_36 : decode cX10_restore 36 = .ok (.invokevirtual 238, 3) := by decide +kernel
theorem dX10_restore_39 : decode cX10_restore 39 = .ok (.aload_n 0, 1) := by decide +kernel
theorem dX10_restore_40 : decode cX10_restore 40 = .ok (.iconst 0, 1) := by decide +kernel
theorem dX10_restore_41 : decode cX10_restore 41 = .ok (.invokevirtual 83, 3) := by decide +kernel
theorem dX10_restore_44 : decode cX10_restore 44 = .ok (.aload_n 0, 1) := by decide +kernel
theorem dX10_restore_45 : decode cX10_restore 45 = .ok (.iconst 1, 1) := by decide +kernel
theorem dX10_restore_46 : decode cX10_restore 46 = .ok (.invokevirtual 83, 3) := by decide +kernel
theorem dX10_restore_49 : decode cX10_restore 49 = .ok (.iconst 1, 1) := by decide +kernel
theorem dX10_restore_50 : decode cX10_restore 50 = .ok (.ireturn, 1) := by decide +kernel
theorem dX10_told_0 : decode cX10_told 0 = .ok (.iload_n 1, 1) := by decide +kernel
theorem dX10_told_1 : decode cX10_told 1 = .ok (.i2l, 1) := by decide +kernel
theorem dX10_told_2 : decode cX10_told 2 = .ok (.lconst 1, 1) := by decide +kernel
theorem dX10_told_3 : decode cX10_told 3 = .ok (.ldc2_w 206, 3) := by decide +kernel
theorem dX10_told_6 : decode cX10_told 6 = .ok (.invokestatic 66, 3) := by decide +kernel
theorem dX10_told_9 : decode cX10_told 9 = .ok (.ifCond .eq 12, 3) := by decide +kernel
theorem dX10_told_12 : decode cX10_told 12 = .ok (.aload_n 0, 1) := by decide +kernel
theorem dX10_told_13 : decode cX10_told 13 = .ok (.getfield 19, 3) := by decide +kernel
theorem dX10_told_16 : decode cX10_told 16 = .ok (.iload_n 1, 1) := by decide +kernel
theorem dX10_told_17 : decode cX10_told 17 = .ok (.iconst 1, 1) := by decide +kernel
theorem dX10_told_18 : decode cX10_told 18 = .ok (.isub, 1) := by decide +kernel
theorem dX10_told_19 : decode cX10_told 19 = .ok (.iaload, 1) := by decide +kernel
theorem dX10_told_20 : decode cX10_told 20 = .ok (.ireturn, 1) := by decide +kernel
theorem dX10_told_21 : decode cX10_told 21 = .ok (.iload_n 1, 1) := by decide +kernel
theorem dX10_told_22 : decode cX10_told 22 = .ok (.i2l, 1) := by decide +kernel
theorem dX10_told_23 : decode cX10_told 23 = .ok (.ldc2_w 87, 3) := by decide +kernel
theorem dX10_told_26 : decode cX10_told 26 = .ok (.ldc2_w 113, 3) := by decide +kernel
theorem dX10_told_29 : decode cX10_told 29 = .ok (.invokestatic 66, 3) := by decide +kernel
theorem dX10_told_32 : decode cX10_told 32 = .ok (.ifCond .eq 12, 3) := by decide +kernel
theorem dX10_told_35 : decode cX10_told 35 = .ok (.aload_n 0, 1) := by decide +kernel
theorem dX10_told_36 : decode cX10_told 36 = .ok (.getfield 22, 3) := by decide +kernel
theorem dX10_told_39 : decode cX10_told 39 = .ok (.iload_n 1, 1) := by decide +kernel
theorem dX10_told_40 : decode cX10_told 40 = .ok (.iconst 3, 1) := by decide +kernel
theorem dX10_told_41 : decode cX10_told 41 = .ok (.isub, 1) := by decide +kernel
theorem dX10_told_42 : decode cX10_told 42 = .ok (.iaload, 1) := by decide +kernel
theorem dX10_told_43 : decode cX10_told 43 = .ok (.ireturn, 1) := by decide +kernel
theorem dX10_told_44 : decode cX10_told 44 = .ok (.iload_n 1, 1) := by decide +kernel
theorem dX10_told_45 : decode cX10_told 45 = .ok (.i2l, 1) := by decide +kernel
theorem dX10_told_46 : decode cX10_told 46 = .ok (.ldc2_w 241, 3) := by decide +kernel
theorem dX10_told_49 : decode cX10_told 49 = .ok (.ldc2_w 243, 3) := by decide +kernel
theorem dX10_told_52 : decode cX10_told 52 = .ok (.invokestatic 66, 3) := by decide +kernel
theorem dX10_told_55 : decode cX10_told 55 = .ok (.ifCond .eq 12, 3) := by decide +kernel
theorem dX10_told_58 : decode cX10_told 58 = .ok (.aload_n 0, 1) := by decide +kernel
theorem dX10_told_59 : decode cX10_told 59 = .ok (.getfield 31, 3) := by decide +kernel
theorem dX10_told_62 : decode cX10_told 62 = .ok (.iload_n 1, 1) := by decide +kernel
theorem dX10_told_63 : decode cX10_told 63 = .ok (.iconst 5, 1) := by decide +kernel
theorem dX10_told_64 : decode cX10_told 64 = .ok (.isub, 1) := by decide +kernel
theorem dX10_told_65 : decode cX10_told 65 = .ok (.iaload, 1) := by decide +kernel
theorem dX10_told_66 : decode cX10_told 66 = .ok (.ireturn, 1) := by decide +kernel
theorem dX10_told_67 : decode cX10_told 67 = .ok (.iload_n 1, 1) := by decide +kernel
theorem dX10_told_68 : decode cX10_told 68 = .ok (.i2l, 1) := by decide +kernel
theorem dX10_told_69 : decode cX10_told 69 = .ok (.ldc2_w 245, 3) := by decide +kernel
theorem dX10_told_72 : decode cX10_told 72 = .ok (.ldc2_w 247, 3) := by decide +kernel
theorem dX10_told_75 : decode cX10_told 75 = .ok (.invokestatic 66, 3) := by decide +kernel
theorem dX10_told_78 : decode cX10_told 78 = .ok (.ifCond .eq 13, 3) := by decide +kernel
theorem dX10_told_81 : decode cX10_told 81 = .ok (.aload_n 0, 1) := by decide +kernel
theorem dX10_told_82 : decode cX10_told 82 = .ok (.getfield 34, 3) := by decide +kernel
theorem dX10_told_85 : decode cX10_told 85 = .ok (.iload_n 1, 1) := by decide +kernel
theorem dX10_told_86 : decode cX10_told 86 = .ok (.bipush 8, 2) := by decide +kernel
theorem dX10_told_88 : decode cX10_told 88 = .ok (.isub, 1) := by decide +kernel
theorem dX10_told_89 : decode cX10_told 89 = .ok (.iaload, 1) := by decide +kernel
theorem dX10_told_90 : decode cX10_told 90 = .ok (.ireturn, 1) := by decide +kernel
theorem dX10_told_91 : decode cX10_told 91 = .ok (.iload_n 1, 1) := by decide +kernel
theorem dX10_told_92 : decode cX10_told 92 = .ok (.ifCond .ne 10, 3) := by decide +kernel
theorem dX10_told_95 : decode cX10_told 95 = .ok (.aload_n 0, 1) := by decide +kernel
theorem dX10_told_96 : decode cX10_told 96 = .ok (.getfield 131, 3) := by decide +kernel
theorem dX10_told_99 : decode cX10_told 99 = .ok (.goto 5, 3) := by decide +kernel
theorem dX10_told_102 : decode cX10_told 102 = .ok (.bipush (-2), 2) := by decide +kernel
theorem dX10_told_104 : decode cX10_told 104 = .ok (.ireturn, 1) := by decide +kernel
end
section
theorem dL_law_0 : decode cL_law 0 = .ok (.new 7, 3) := by decide +kernel
theorem dL_law_3 : decode cL_law 3 = .ok (.dup, 1) := by decide +kernel
theorem dL_law_4 : decode cL_law 4 = .ok (.invokespecial 9, 3) := by decide +kernel
theorem dL_law_7 : decode cL_law 7 = .ok (.astore_n 1, 1) := by decide +kernel
theorem dL_law_8 : decode cL_law 8 = .ok (.new 10, 3) := by decide +kernel
theorem dL_law_11 : decode cL_law 11 = .ok (.dup, 1) := by decide +kernel
theorem dL_law_12 : decode cL_law 12 = .ok (.invokespecial 12, 3) := by decide +kernel
theorem dL_law_15 : decode cL_law 15 = .ok (.astore_n 2, 1) := by decide +kernel
theorem dL_law_16 : decode cL_law 16 = .ok (.iconst 0, 1) := by decide +kernel
theorem dL_law_17 : decode cL_law 17 = .ok (.istore_n 3, 1) := by decide +kernel
theorem dL_law_18 : decode cL_law 18 = .ok (.iload_n 3, 1) := by decide +kernel
theorem dL_law_19 : decode cL_law 19 = .ok (.aload_n 0, 1) := by decide +kernel
theorem dL_law_20 : decode cL_law 20 = .ok (.arraylength, 1) := by decide +kernel
theorem dL_law_21 : decode cL_law 21 = .ok (.bipush 6, 2) := by decide +kernel
theorem dL_law_23 : decode cL_law 23 = .ok (.isub, 1) := by decide +kernel
theorem dL_law_24 : decode cL_law 24 = .ok (.if_icmp .gt 1155, 3) := by decide +kernel
theorem dL_law_27 : decode cL_law 27 = .ok (.aload_n 0, 1) := by decide +kernel
theorem dL_law_28 : decode cL_law 28 = .ok (.iload_n 3, 1) := by decide +kernel
theorem dL_law_29 : decode cL_law 29 = .ok (.iaload, 1) := by decide +kernel
theorem dL_law_30 : decode cL_law 30 = .ok (.bipush 31, 2) := by decide +kernel
theorem dL_law_32 : decode cL_law 32 = .ok (.iand, 1) := by decide +kernel
theorem dL_law_33 : decode cL_law 33 = .ok (.tableswitch 1140 0 24 #[115, 168, 191, 234, 277, 330, 393, 416, 429, 442, 495, 558, 621, 674, 727, 780, 813, 866, 909, 942, 985, 1018, 1071, 1094, 1117], 115) := by decide +kernel
theorem dL_law_148 : decode cL_law 148 = .ok (.aload_n 1, 1) := by decide +kernel
theorem dL_law_149 : decode cL_law 149 = .ok (.aload_n 0, 1) := by decide +kernel
theorem dL_law_150 : decode cL_law 150 = .ok (.iload_n 3, 1) := by decide +kernel
theorem dL_law_151 : decode cL_law 151 = .ok (.iconst 1, 1) := by decide +kernel
theorem dL_law_152 : decode cL_law 152 = .ok (.iadd, 1) := by decide +kernel
theorem dL_law_153 : decode cL_law 153 = .ok (.iaload, 1) := by decide +kernel
theorem dL_law_154 : decode cL_law 154 = .ok (.aload_n 0, 1) := by decide +kernel
theorem dL_law_155 : decode cL_law 155 = .ok (.iload_n 3, 1) := by decide +kernel
theorem dL_law_156 : decode cL_law 156 = .ok (.iconst 2, 1) := by decide +kernel
theorem dL_law_157 : decode cL_law 157 = .ok (.iadd, 1) := by decide +kernel
theorem dL_law_158 : decode cL_law 158 = .ok (.iaload, 1) := by decide +kernel
theorem dL_law_159 : decode cL_law 159 = .ok (.aload_n 0, 1) := by decide +kernel
theorem dL_law_160 : decode cL_law 160 = .ok (.iload_n 3, 1) := by decide +kernel
theorem dL_law_161 : decode cL_law 161 = .ok (.iconst 3, 1) := by decide +kernel
theorem dL_law_162 : decode cL_law 162 = .ok (.iadd, 1) := by decide +kernel
theorem dL_law_163 : decode cL_law 163 = .ok (.iaload, 1) := by decide +kernel
theorem dL_law_164 : decode cL_law 164 = .ok (.aload_n 0, 1) := by decide +kernel
theorem dL_law_165 : decode cL_law 165 = .ok (.iload_n 3, 1) := by decide +kernel
theorem dL_law_166 : decode cL_law 166 = .ok (.iconst 4, 1) := by decide +kernel
theorem dL_law_167 : decode cL_law 167 = .ok (.iadd, 1) := by decide +kernel
theorem dL_law_168 : decode cL_law 168 = .ok (.iaload, 1) := by decide +kernel
theorem dL_law_169 : decode cL_law 169 = .ok (.invokevirtual 13, 3) := by decide +kernel
theorem dL_law_172 : decode cL_law 172 = .ok (.aload_n 2, 1) := by decide +kernel
theorem dL_law_173 : decode cL_law 173 = .ok (.aload_n 0, 1) := by decide +kernel
theorem dL_law_174 : decode cL_law 174 = .ok (.iload_n 3, 1) := by decide +kernel
theorem dL_law_175 : decode cL_law 175 = .ok (.iconst 1, 1) := by decide +kernel
theorem dL_law_176 : decode cL_law 176 = .ok (.iadd, 1) := by decide +kernel
theorem dL_law_177 : decode cL_law 177 = .ok (.iaload, 1) := by decide +kernel
theorem dL_law_178 : decode cL_law 178 = .ok (.aload_n 0, 1) := by decide +kernel
theorem dL_law_179 : decode cL_law 179 = .ok (.iload_n 3, 1) := by decide +kernel
theorem dL_law_180 : decode cL_law 180 = .ok (.iconst 2, 1) := by decide +kernel
theorem dL_law_181 : decode cL_law 181 = .ok (.iadd, 1) := by decide +kernel
theorem dL_law_182 : decode cL_law 182 = .ok (.iaload, 1) := by decide +kernel
theorem dL_law_183 : decode cL_law 183 = .ok (.aload_n 0, 1) := by decide +kernel
theorem dL_law_184 : decode cL_law 184 = .ok (.iload_n 3, 1) := by decide +kernel
theorem dL_law_185 : decode cL_law 185 = .ok (.iconst 3, 1) := by decide +kernel
theorem dL_law_186 : decode cL_law 186 = .ok (.iadd, 1) := by decide +kernel
theorem dL_law_187 : decode cL_law 187 = .ok (.iaload, 1) := by decide +kernel
theorem dL_law_188 : decode cL_law 188 = .ok (.aload_n 0, 1) := by decide +kernel
theorem dL_law_189 : decode cL_law 189 = .ok (.iload_n 3, 1) := by decide +kernel
theorem dL_law_190 : decode cL_law 190 = .ok (.iconst 4, 1) := by decide +kernel
theorem dL_law_191 : decode cL_law 191 = .ok (.iadd, 1) := by decide +kernel
theorem dL_law_192 : decode cL_law 192 = .ok (.iaload, 1) := by decide +kernel
theorem dL_law_193 : decode cL_law 193 = .ok (.invokevirtual 17, 3) := by decide +kernel
theorem dL_law_196 : decode cL_law 196 = .ok (.if_icmp .eq 977, 3) := by decide +kernel
theorem dL_law_199 : decode cL_law 199 = .ok (.iconst 0, 1) := by decide +kernel
theorem dL_law_200 : decode cL_law 200 = .ok (.ireturn, 1) := by decide +kernel
theorem dL_law_201 : decode cL_law 201 = .ok (.aload_n 1, 1) := by decide +kernel
theorem dL_law_202 : decode cL_law 202 = .ok (.aload_n 0, 1) := by decide +kernel
theorem dL_law_203 : decode cL_law 203 = .ok (.iload_n 3, 1) := by decide +kernel
theorem dL_law_204 : decode cL_law 204 = .ok (.iconst 1, 1) := by decide +kernel
theorem dL_law_205 : decode cL_law 205 = .ok (.iadd, 1) := by decide +kernel
theorem dL_law_206 : decode cL_law 206 = .ok (.iaload, 1) := by decide +kernel
theorem dL_law_207 : decode cL_law 207 = .ok (.invokevirtual 18, 3) := by decide +kernel
theorem dL_law_210 : decode cL_law 210 = .ok (.aload_n 2, 1) := by decide +kernel
theorem dL_law_211 : decode cL_law 211 = .ok (.aload_n 0, 1) := by decide +kernel
theorem dL_law_212 : decode cL_law 212 = .ok (.iload_n 3, 1) := by decide +kernel
theorem dL_law_213 : decode cL_law 213 = .ok (.iconst 1, 1) := by decide +kernel
theorem dL_law_214 : decode cL_law 214 = .ok (.iadd, 1) := by decide +kernel
theorem dL_law_215 : decode cL_law 215 = .ok (.iaload, 1) := by decide +kernel
theorem dL_law_216 : decode cL_law 216 = .ok (.invokevirtual 22, 3) := by decide +kernel
theorem dL_law_219 : decode cL_law 219 = .ok (.if_icmp .eq 954, 3) := by decide +kernel
theorem dL_law_222 : decode cL_law 222 = .ok (.iconst 0, 1) := by decide +kernel
theorem dL_law_223 : decode cL_law 223 = .ok (.ireturn, 1) := by decide +kernel
theorem dL_law_224 : decode cL_law 224 = .ok (.aload_n 1, 1) := by decide +kernel
theorem dL_law_225 : decode cL_law 225 = .ok (.aload_n 0, 1) := by decide +kernel
theorem dL_law_226 : decode cL_law 226 = .ok (.iload_n 3, 1) := by decide +kernel
theorem dL_law_227 : decode cL_law 227 = .ok (.iconst 1, 1) := by decide +kernel
theorem dL_law_228 : decode cL_law 228 = .ok (.iadd, 1) := by decide +kernel
theorem dL_law_229 : decode cL_law 229 = .ok (.iaload, 1) := by decide +kernel
theorem dL_law_230 : decode cL_law 230 = .ok (.aload_n 0, 1) := by decide +kernel
theorem dL_law_231 : decode cL_law 231 = .ok (.iload_n 3, 1) := by decide +kernel
theorem dL_law_232 : decode cL_law 232 = .ok (.iconst 2, 1) := by decide +kernel
theorem dL_law_233 : decode cL_law 233 = .ok (.iadd, 1) := by decide +kernel
theorem dL_law_234 : decode cL_law 234 = .ok (.iaload, 1) := by decide +kernel
theorem dL_law_235 : decode cL_law 235 = .ok (.aload_n 0, 1) := by decide +kernel
theorem dL_law_236 : decode cL_law 236 = .ok (.iload_n 3, 1) := by decide +kernel
theorem dL_law_237 : decode cL_law 237 = .ok (.iconst 3, 1) := by decide +kernel
theorem dL_law_238 : decode cL_law 238 = .ok (.iadd, 1) := by decide +kernel
theorem dL_law_239 : decode cL_law 239 = .ok (.iaload, 1) := by decide +kernel
theorem dL_law_240 : decode cL_law 240 = .ok (.invokevirtual 23, 3) := by decide +kernel
theorem dL_law_243 : decode cL_law 243 = .ok (.aload_n 2, 1) := by decide +kernel
theorem dL_law_244 : decode cL_law 244 = .ok (.aload_n 0, 1) := by decide +kernel
theorem dL_law_245 : decode cL_law 245 = .ok (.iload_n 3, 1) := by decide +kernel
theorem dL_law_246 : decode cL_law 246 = .ok (.iconst 1, 1) := by decide +kernel
theorem dL_law_247 : decode cL_law 247 = .ok (.iadd, 1) := by decide +kernel
theorem dL_law_248 : decode cL_law 248 = .ok (.iaload, 1) := by decide +kernel
theorem dL_law_249 : decode cL_law 249 = .ok (.aload_n 0, 1) := by decide +kernel
theorem dL_law_250 : decode cL_law 250 = .ok (.iload_n 3, 1) := by decide +kernel
theorem dL_law_251 : decode cL_law 251 = .ok (.iconst 2, 1) := by decide +kernel
theorem dL_law_252 : decode cL_law 252 = .ok (.iadd, 1) := by decide +kernel
theorem dL_law_253 : decode cL_law 253 = .ok (.iaload, 1) := by decide +kernel
theorem dL_law_254 : decode cL_law 254 = .ok (.aload_n 0, 1) := by decide +kernel
theorem dL_law_255 : decode cL_law 255 = .ok (.iload_n 3, 1) := by decide +kernel
theorem dL_law_256 : decode cL_law 256 = .ok (.iconst 3, 1) := by decide +kernel
theorem dL_law_257 : decode cL_law 257 = .ok (.iadd, 1) := by decide +kernel
theorem dL_law_258 : decode cL_law 258 = .ok (.iaload, 1) := by decide +kernel
theorem dL_law_259 : decode cL_law 259 = .ok (.invokevirtual 27, 3) := by decide +kernel
theorem dL_law_262 : decode cL_law 262 = .ok (.if_icmp .eq 911, 3) := by decide +kernel
theorem dL_law_265 : decode cL_law 265 = .ok (.iconst 0, 1) := by decide +kernel
theorem dL_law_266 : decode cL_law 266 = .ok (.ireturn, 1) := by decide +kernel
theorem dL_law_267 : decode cL_law 267 = .ok (.aload_n 1, 1) := by decide +kernel
theorem dL_law_268 : decode cL_law 268 = .ok (.aload_n 0, 1) := by decide +kernel
theorem dL_law_269 : decode cL_law 269 = .ok (.iload_n 3, 1) := by decide +kernel
theorem dL_law_270 : decode cL_law 270 = .ok (.iconst 1, 1) := by decide +kernel
theorem dL_law_271 : decode cL_law 271 = .ok (.iadd, 1) := by decide +kernel
theorem dL_law_272 : decode cL_law 272 = .ok (.iaload, 1) := by decide +kernel
theorem dL_law_273 : decode cL_law 273 = .ok (.aload_n 0, 1) := by decide +kernel
theorem dL_law_274 : decode cL_law 274 = .ok (.iload_n 3, 1) := by decide +kernel
theorem dL_law_275 : decode cL_law 275 = .ok (.iconst 2, 1) := by decide +kernel
theorem dL_law_276 : decode cL_law 276 = .ok (.iadd, 1) := by decide +kernel
theorem dL_law_277 : decode cL_law 277 = .ok (.iaload, 1) := by decide +kernel
theorem dL_law_278 : decode cL_law 278 = .ok (.aload_n 0, 1) := by decide +kernel
theorem dL_law_279 : decode cL_law 279 = .ok (.iload_n 3, 1) := by decide +kernel
theorem dL_law_280 : decode cL_law 280 = .ok (.iconst 3, 1) := by decide +kernel
theorem dL_law_281 : decode cL_law 281 = .ok (.iadd, 1) := by decide +kernel
theorem dL_law_282 : decode cL_law 282 = .ok (.iaload, 1) := by decide +kernel
theorem dL_law_283 : decode cL_law 283 = .ok (.invokevirtual 28, 3) := by decide +kernel
theorem dL_law_286 : decode cL_law 286 = .ok (.aload_n 2, 1) := by decide +kernel
theorem dL_law_287 : decode cL_law 287 = .ok (.aload_n 0, 1) := by decide +kernel
theorem dL_law_288 : decode cL_law 288 = .ok (.iload_n 3, 1) := by decide +kernel
theorem dL_law_289 : decode cL_law 289 = .ok (.iconst 1, 1) := by decide +kernel
theorem dL_law_290 : decode cL_law 290 = .ok (.iadd, 1) := by decide +kernel
theorem dL_law_291 : decode cL_law 291 = .ok (.iaload, 1) := by decide +kernel
theorem dL_law_292 : decode cL_law 292 = .ok (.aload_n 0, 1) := by decide +kernel
theorem dL_law_293 : decode cL_law 293 = .ok (.iload_n 3, 1) := by decide +kernel
theorem dL_law_294 : decode cL_law 294 = .ok (.iconst 2, 1) := by decide +kernel
theorem dL_law_295 : decode cL_law 295 = .ok (.iadd, 1) := by decide +kernel
theorem dL_law_296 : decode cL_law 296 = .ok (.iaload, 1) := by decide +kernel
theorem dL_law_297 : decode cL_law 297 = .ok (.aload_n 0, 1) := by decide +kernel
theorem dL_law_298 : decode cL_law 298 = .ok (.iload_n 3, 1) := by decide +kernel
theorem dL_law_299 : decode cL_law 299 = .ok (.iconst 3, 1) := by decide +kernel
theorem dL_law_300 : decode cL_law 300 = .ok (.iadd, 1) := by decide +kernel
theorem dL_law_301 : decode cL_law 301 = .ok (.iaload, 1) := by decide +kernel
theorem dL_law_302 : decode cL_law 302 = .ok (.invokevirtual 31, 3) := by decide +kernel
theorem dL_law_305 : decode cL_law 305 = .ok (.if_icmp .eq 868, 3) := by decide +kernel
theorem dL_law_308 : decode cL_law 308 = .ok (.iconst 0, 1) := by decide +kernel
theorem dL_law_309 : decode cL_law 309 = .ok (.ireturn, 1) := by decide +kernel
theorem dL_law_310 : decode cL_law 310 = .ok (.aload_n 1, 1) := by decide +kernel
theorem dL_law_311 : decode cL_law 311 = .ok (.aload_n 0, 1) := by decide +kernel
theorem dL_law_312 : decode cL_law 312 = .ok (.iload_n 3, 1) := by decide +kernel
theorem dL_law_313 : decode cL_law 313 = .ok (.iconst 1, 1) := by decide +kernel
theorem dL_law_314 : decode cL_law 314 = .ok (.iadd, 1) := by decide +kernel
theorem dL_law_315 : decode cL_law 315 = .ok (.iaload, 1) := by decide +kernel
theorem dL_law_316 : decode cL_law 316 = .ok (.aload_n 0, 1) := by decide +kernel
theorem dL_law_317 : decode cL_law 317 = .ok (.iload_n 3, 1) := by decide +kernel
theorem dL_law_318 : decode cL_law 318 = .ok (.iconst 2, 1) := by decide +kernel
theorem dL_law_319 : decode cL_law 319 = .ok (.iadd, 1) := by decide +kernel
theorem dL_law_320 : decode cL_law 320 = .ok (.iaload, 1) := by decide +kernel
theorem dL_law_321 : decode cL_law 321 = .ok (.aload_n 0, 1) := by decide +kernel
theorem dL_law_322 : decode cL_law 322 = .ok (.iload_n 3, 1) := by decide +kernel
theorem dL_law_323 : decode cL_law 323 = .ok (.iconst 3, 1) := by decide +kernel
theorem dL_law_324 : decode cL_law 324 = .ok (.iadd, 1) := by decide +kernel
theorem dL_law_325 : decode cL_law 325 = .ok (.iaload, 1) := by decide +kernel
theorem dL_law_326 : decode cL_law 326 = .ok (.aload_n 0, 1) := by decide +kernel
theorem dL_law_327 : decode cL_law 327 = .ok (.iload_n 3, 1) := by decide +kernel
theorem dL_law_328 : decode cL_law 328 = .ok (.iconst 4, 1) := by decide +kernel
theorem dL_law_329 : decode cL_law 329 = .ok (.iadd, 1) := by decide +kernel
theorem dL_law_330 : decode cL_law 330 = .ok (.iaload, 1) := by decide +kernel
theorem dL_law_331 : decode cL_law 331 = .ok (.invokevirtual 32, 3) := by decide +kernel
theorem dL_law_334 : decode cL_law 334 = .ok (.aload_n 2, 1) := by decide +kernel
theorem dL_law_335 : decode cL_law 335 = .ok (.aload_n 0, 1) := by decide +kernel
theorem dL_law_336 : decode cL_law 336 = .ok (.iload_n 3, 1) := by decide +kernel
theorem dL_law_337 : decode cL_law 337 = .ok (.iconst 1, 1) := by decide +kernel
theorem dL_law_338 : decode cL_law 338 = .ok (.iadd, 1) := by decide +kernel
theorem dL_law_339 : decode cL_law 339 = .ok (.iaload, 1) := by decide +kernel
theorem dL_law_340 : decode cL_law 340 = .ok (.aload_n 0, 1) := by decide +kernel
theorem dL_law_341 : decode cL_law 341 = .ok (.iload_n 3, 1) := by decide +kernel
theorem dL_law_342 : decode cL_law 342 = .ok (.iconst 2, 1) := by decide +kernel
theorem dL_law_343 : decode cL_law 343 = .ok (.iadd, 1) := by decide +kernel
theorem dL_law_344 : decode cL_law 344 = .ok (.iaload, 1) := by decide +kernel
theorem dL_law_345 : decode cL_law 345 = .ok (.aload_n 0, 1) := by decide +kernel
theorem dL_law_346 : decode cL_law 346 = .ok (.iload_n 3, 1) := by decide +kernel
theorem dL_law_347 : decode cL_law 347 = .ok (.iconst 3, 1) := by decide +kernel
theorem dL_law_348 : decode cL_law 348 = .ok (.iadd, 1) := by decide +kernel
theorem dL_law_349 : decode cL_law 349 = .ok (.iaload, 1) := by decide +kernel
theorem dL_law_350 : decode cL_law 350 = .ok (.aload_n 0, 1) := by decide +kernel
theorem dL_law_351 : decode cL_law 351 = .ok (.iload_n 3, 1) := by decide +kernel
theorem dL_law_352 : decode cL_law 352 = .ok (.iconst 4, 1) := by decide +kernel
theorem dL_law_353 : decode cL_law 353 = .ok (.iadd, 1) := by decide +kernel
theorem dL_law_354 : decode cL_law 354 = .ok (.iaload, 1) := by decide +kernel
theorem dL_law_355 : decode cL_law 355 = .ok (.invokevirtual 35, 3) := by decide +kernel
theorem dL_law_358 : decode cL_law 358 = .ok (.if_icmp .eq 815, 3) := by decide +kernel
theorem dL_law_361 : decode cL_law 361 = .ok (.iconst 0, 1) := by decide +kernel
theorem dL_law_362 : decode cL_law 362 = .ok (.ireturn, 1) := by decide +kernel
theorem dL_law_363 : decode cL_law 363 = .ok (.aload_n 1, 1) := by decide +kernel
theorem dL_law_364 : decode cL_law 364 = .ok (.aload_n 0, 1) := by decide +kernel
theorem dL_law_365 : decode cL_law 365 = .ok (.iload_n 3, 1) := by decide +kernel
theorem dL_law_366 : decode cL_law 366 = .ok (.iconst 1, 1) := by decide +kernel
theorem dL_law_367 : decode cL_law 367 = .ok (.iadd, 1) := by decide +kernel
theorem dL_law_368 : decode cL_law 368 = .ok (.iaload, 1) := by decide +kernel
theorem dL_law_369 : decode cL_law 369 = .ok (.aload_n 0, 1) := by decide +kernel
theorem dL_law_370 : decode cL_law 370 = .ok (.iload_n 3, 1) := by decide +kernel
theorem dL_law_371 : decode cL_law 371 = .ok (.iconst 2, 1) := by decide +kernel
theorem dL_law_372 : decode cL_law 372 = .ok (.iadd, 1) := by decide +kernel
theorem dL_law_373 : decode cL_law 373 = .ok (.iaload, 1) := by decide +kernel
theorem dL_law_374 : decode cL_law 374 = .ok (.aload_n 0, 1) := by decide +kernel
theorem dL_law_375 : decode cL_law 375 = .ok (.iload_n 3, 1) := by decide +kernel
theorem dL_law_376 : decode cL_law 376 = .ok (.iconst 3, 1) := by decide +kernel
theorem dL_law_377 : decode cL_law 377 = .ok (.iadd, 1) := by decide +kernel
theorem dL_law_378 : decode cL_law 378 = .ok (.iaload, 1) := by decide +kernel
theorem dL_law_379 : decode cL_law 379 = .ok (.aload_n 0, 1) := by decide +kernel
theorem dL_law_380 : decode cL_law 380 = .ok (.iload_n 3, 1) := by decide +kernel
theorem dL_law_381 : decode cL_law 381 = .ok (.iconst 4, 1) := by decide +kernel
theorem dL_law_382 : decode cL_law 382 = .ok (.iadd, 1) := by decide +kernel
theorem dL_law_383 : decode cL_law 383 = .ok (.iaload, 1) := by decide +kernel
theorem dL_law_384 : decode cL_law 384 = .ok (.aload_n 0, 1) := by decide +kernel
theorem dL_law_385 : decode cL_law 385 = .ok (.iload_n 3, 1) := by decide +kernel
theorem dL_law_386 : decode cL_law 386 = .ok (.iconst 5, 1) := by decide +kernel
theorem dL_law_387 : decode cL_law 387 = .ok (.iadd, 1) := by decide +kernel
theorem dL_law_388 : decode cL_law 388 = .ok (.iaload, 1) := by decide +kernel
theorem dL_law_389 : decode cL_law 389 = .ok (.invokevirtual 36, 3) := by decide +kernel
theorem dL_law_392 : decode cL_law 392 = .ok (.aload_n 2, 1) := by decide +kernel
theorem dL_law_393 : decode cL_law 393 = .ok (.aload_n 0, 1) := by decide +kernel
theorem dL_law_394 : decode cL_law 394 = .ok (.iload_n 3, 1) := by decide +kernel
theorem dL_law_395 : decode cL_law 395 = .ok (.iconst 1, 1) := by decide +kernel
theorem dL_law_396 : decode cL_law 396 = .ok (.iadd, 1) := by decide +kernel
theorem dL_law_397 : decode cL_law 397 = .ok (.iaload, 1) := by decide +kernel
theorem dL_law_398 : decode cL_law 398 = .ok (.aload_n 0, 1) := by decide +kernel
theorem dL_law_399 : decode cL_law 399 = .ok (.iload_n 3, 1) := by decide +kernel
theorem dL_law_400 : decode cL_law 400 = .ok (.iconst 2, 1) := by decide +kernel
theorem dL_law_401 : decode cL_law 401 = .ok (.iadd, 1) := by decide +kernel
theorem dL_law_402 : decode cL_law 402 = .ok (.iaload, 1) := by decide +kernel
theorem dL_law_403 : decode cL_law 403 = .ok (.aload_n 0, 1) := by decide +kernel
theorem dL_law_404 : decode cL_law 404 = .ok (.iload_n 3, 1) := by decide +kernel
theorem dL_law_405 : decode cL_law 405 = .ok (.iconst 3, 1) := by decide +kernel
theorem dL_law_406 : decode cL_law 406 = .ok (.iadd, 1) := by decide +kernel
theorem dL_law_407 : decode cL_law 407 = .ok (.iaload, 1) := by decide +kernel
theorem dL_law_408 : decode cL_law 408 = .ok (.aload_n 0, 1) := by decide +kernel
theorem dL_law_409 : decode cL_law 409 = .ok (.iload_n 3, 1) := by decide +kernel
theorem dL_law_410 : decode cL_law 410 = .ok (.iconst 4, 1) := by decide +kernel
theorem dL_law_411 : decode cL_law 411 = .ok (.iadd, 1) := by decide +kernel
theorem dL_law_412 : decode cL_law 412 = .ok (.iaload, 1) := by decide +kernel
theorem dL_law_413 : decode cL_law 413 = .ok (.aload_n 0, 1) := by decide +kernel
theorem dL_law_414 : decode cL_law 414 = .ok (.iload_n 3, 1) := by decide +kernel
theorem dL_law_415 : decode cL_law 415 = .ok (.iconst 5, 1) := by decide +kernel
theorem dL_law_416 : decode cL_law 416 = .ok (.iadd, 1) := by decide +kernel
theorem dL_law_417 : decode cL_law 417 = .ok (.iaload, 1) := by decide +kernel
theorem dL_law_418 : decode cL_law 418 = .ok (.invokevirtual 40, 3) := by decide +kernel
theorem dL_law_421 : decode cL_law 421 = .ok (.if_icmp .eq 752, 3) := by decide +kernel
theorem dL_law_424 : decode cL_law 424 = .ok (.iconst 0, 1) := by decide +kernel
theorem dL_law_425 : decode cL_law 425 = .ok (.ireturn, 1) := by decide +kernel
theorem dL_law_426 : decode cL_law 426 = .ok (.aload_n 1, 1) := by decide +kernel
theorem dL_law_427 : decode cL_law 427 = .ok (.aload_n 0, 1) := by decide +kernel
theorem dL_law_428 : decode cL_law 428 = .ok (.iload_n 3, 1) := by decide +kernel
theorem dL_law_429 : decode cL_law 429 = .ok (.iconst 1, 1) := by decide +kernel
theorem dL_law_430 : decode cL_law 430 = .ok (.iadd, 1) := by decide +kernel
theorem dL_law_431 : decode cL_law 431 = .ok (.iaload, 1) := by decide +kernel
theorem dL_law_432 : decode cL_law 432 = .ok (.invokevirtual 41, 3) := by decide +kernel
theorem dL_law_435 : decode cL_law 435 = .ok (.aload_n 2, 1) := by decide +kernel
theorem dL_law_436 : decode cL_law 436 = .ok (.aload_n 0, 1) := by decide +kernel
theorem dL_law_437 : decode cL_law 437 = .ok (.iload_n 3, 1) := by decide +kernel
theorem dL_law_438 : decode cL_law 438 = .ok (.iconst 1, 1) := by decide +kernel
theorem dL_law_439 : decode cL_law 439 = .ok (.iadd, 1) := by decide +kernel
theorem dL_law_440 : decode cL_law 440 = .ok (.iaload, 1) := by decide +kernel
theorem dL_law_441 : decode cL_law 441 = .ok (.invokevirtual 44, 3) := by decide +kernel
theorem dL_law_444 : decode cL_law 444 = .ok (.if_icmp .eq 729, 3) := by decide +kernel
theorem dL_law_447 : decode cL_law 447 = .ok (.iconst 0, 1) := by decide +kernel
theorem dL_law_448 : decode cL_law 448 = .ok (.ireturn, 1) := by decide +kernel
theorem dL_law_449 : decode cL_law 449 = .ok (.aload_n 1, 1) := by decide +kernel
theorem dL_law_450 : decode cL_law 450 = .ok (.invokevirtual 45, 3) := by decide +kernel
theorem dL_law_453 : decode cL_law 453 = .ok (.aload_n 2, 1) := by decide +kernel
theorem dL_law_454 : decode cL_law 454 = .ok (.invokevirtual 49, 3) := by decide +kernel
theorem dL_law_457 : decode cL_law 457 = .ok (.if_icmp .eq 716, 3) := by decide +kernel
theorem dL_law_460 : decode cL_law 460 = .ok (.iconst 0, 1) := by decide +kernel
theorem dL_law_461 : decode cL_law 461 = .ok (.ireturn, 1) := by decide +kernel
theorem dL_law_462 : decode cL_law 462 = .ok (.aload_n 1, 1) := by decide +kernel
theorem dL_law_463 : decode cL_law 463 = .ok (.invokevirtual 50, 3) := by decide +kernel
theorem dL_law_466 : decode cL_law 466 = .ok (.aload_n 2, 1) := by decide +kernel
theorem dL_law_467 : decode cL_law 467 = .ok (.invokevirtual 53, 3) := by decide +kernel
theorem dL_law_470 : decode cL_law 470 = .ok (.if_icmp .eq 703, 3) := by decide +kernel
theorem dL_law_473 : decode cL_law 473 = .ok (.iconst 0, 1) := by decide +kernel
theorem dL_law_474 : decode cL_law 474 = .ok (.ireturn, 1) := by decide +kernel
theorem dL_law_475 : decode cL_law 475 = .ok (.aload_n 1, 1) := by decide +kernel
theorem dL_law_476 : decode cL_law 476 = .ok (.aload_n 0, 1) := by decide +kernel
theorem dL_law_477 : decode cL_law 477 = .ok (.iload_n 3, 1) := by decide +kernel
theorem dL_law_478 : decode cL_law 478 = .ok (.iconst 1, 1) := by decide +kernel
theorem dL_law_479 : decode cL_law 479 = .ok (.iadd, 1) := by decide +kernel
theorem dL_law_480 : decode cL_law 480 = .ok (.iaload, 1) := by decide +kernel
theorem dL_law_481 : decode cL_law 481 = .ok (.aload_n 0, 1) := by decide +kernel
theorem dL_law_482 : decode cL_law 482 = .ok (.iload_n 3, 1) := by decide +kernel
theorem dL_law_483 : decode cL_law 483 = .ok (.iconst 2, 1) := by decide +kernel
theorem dL_law_484 : decode cL_law 484 = .ok (.iadd, 1) := by decide +kernel
theorem dL_law_485 : decode cL_law 485 = .ok (.iaload, 1) := by decide +kernel
theorem dL_law_486 : decode cL_law 486 = .ok (.aload_n 0, 1) := by decide +kernel
theorem dL_law_487 : decode cL_law 487 = .ok (.iload_n 3, 1) := by decide +kernel
theorem dL_law_488 : decode cL_law 488 = .ok (.iconst 3, 1) := by decide +kernel
theorem dL_law_489 : decode cL_law 489 = .ok (.iadd, 1) := by decide +kernel
theorem dL_law_490 : decode cL_law 490 = .ok (.iaload, 1) := by decide +kernel
theorem dL_law_491 : decode cL_law 491 = .ok (.aload_n 0, 1) := by decide +kernel
theorem dL_law_492 : decode cL_law 492 = .ok (.iload_n 3, 1) := by decide +kernel
theorem dL_law_493 : decode cL_law 493 = .ok (.iconst 4, 1) := by decide +kernel
theorem dL_law_494 : decode cL_law 494 = .ok (.iadd, 1) := by decide +kernel
theorem dL_law_495 : decode cL_law 495 = .ok (.iaload, 1) := by decide +kernel
theorem dL_law_496 : decode cL_law 496 = .ok (.invokevirtual 54, 3) := by decide +kernel
theorem dL_law_499 : decode cL_law 499 = .ok (.aload_n 2, 1) := by decide +kernel
theorem dL_law_500 : decode cL_law 500 = .ok (.aload_n 0, 1) := by decide +kernel
theorem dL_law_501 : decode cL_law 501 = .ok (.iload_n 3, 1) := by decide +kernel
theorem dL_law_502 : decode cL_law 502 = .ok (.iconst 1, 1) := by decide +kernel
theorem dL_law_503 : decode cL_law 503 = .ok (.iadd, 1) := by decide +kernel
theorem dL_law_504 : decode cL_law 504 = .ok (.iaload, 1) := by decide +kernel
theorem dL_law_505 : decode cL_law 505 = .ok (.aload_n 0, 1) := by decide +kernel
theorem dL_law_506 : decode cL_law 506 = .ok (.iload_n 3, 1) := by decide +kernel
theorem dL_law_507 : decode cL_law 507 = .ok (.iconst 2, 1) := by decide +kernel
theorem dL_law_508 : decode cL_law 508 = .ok (.iadd, 1) := by decide +kernel
theorem dL_law_509 : decode cL_law 509 = .ok (.iaload, 1) := by decide +kernel
theorem dL_law_510 : decode cL_law 510 = .ok (.aload_n 0, 1) := by decide +kernel
theorem dL_law_511 : decode cL_law 511 = .ok (.iload_n 3, 1) := by decide +kernel
theorem dL_law_512 : decode cL_law 512 = .ok (.iconst 3, 1) := by decide +kernel
theorem dL_law_513 : decode cL_law 513 = .ok (.iadd, 1) := by decide +kernel
theorem dL_law_514 : decode cL_law 514 = .ok (.iaload, 1) := by decide +kernel
theorem dL_law_515 : decode cL_law 515 = .ok (.aload_n 0, 1) := by decide +kernel
theorem dL_law_516 : decode cL_law 516 = .ok (.iload_n 3, 1) := by decide +kernel
theorem dL_law_517 : decode cL_law 517 = .ok (.iconst 4, 1) := by decide +kernel
theorem dL_law_518 : decode cL_law 518 = .ok (.iadd, 1) := by decide +kernel
theorem dL_law_519 : decode cL_law 519 = .ok (.iaload, 1) := by decide +kernel
theorem dL_law_520 : decode cL_law 520 = .ok (.invokevirtual 57, 3) := by decide +kernel
theorem dL_law_523 : decode cL_law 523 = .ok (.if_icmp .eq 650, 3) := by decide +kernel
theorem dL_law_526 : decode cL_law 526 = .ok (.iconst 0, 1) := by decide +kernel
theorem dL_law_527 : decode cL_law 527 = .ok (.ireturn, 1) := by decide +kernel
theorem dL_law_528 : decode cL_law 528 = .ok (.aload_n 1, 1) := by decide +kernel
theorem dL_law_529 : decode cL_law 529 = .ok (.aload_n 0, 1) := by decide +kernel
theorem dL_law_530 : decode cL_law 530 = .ok (.iload_n 3, 1) := by decide +kernel
theorem dL_law_531 : decode cL_law 531 = .ok (.iconst 1, 1) := by decide +kernel
theorem dL_law_532 : decode cL_law 532 = .ok (.iadd, 1) := by decide +kernel
theorem dL_law_533 : decode cL_law 533 = .ok (.iaload, 1) := by decide +kernel
theorem dL_law_534 : decode cL_law 534 = .ok (.aload_n 0, 1) := by decide +kernel
theorem dL_law_535 : decode cL_law 535 = .ok (.iload_n 3, 1) := by decide +kernel
theorem dL_law_536 : decode cL_law 536 = .ok (.iconst 2, 1) := by decide +kernel
theorem dL_law_537 : decode cL_law 537 = .ok (.iadd, 1) := by decide +kernel
theorem dL_law_538 : decode cL_law 538 = .ok (.iaload, 1) := by decide +kernel
theorem dL_law_539 : decode cL_law 539 = .ok (.aload_n 0, 1) := by decide +kernel
theorem dL_law_540 : decode cL_law 540 = .ok (.iload_n 3, 1) := by decide +kernel
theorem dL_law_541 : decode cL_law 541 = .ok (.iconst 3, 1) := by decide +kernel
theorem dL_law_542 : decode cL_law 542 = .ok (.iadd, 1) := by decide +kernel
theorem dL_law_543 : decode cL_law 543 = .ok (.iaload, 1) := by decide +kernel
theorem dL_law_544 : decode cL_law 544 = .ok (.aload_n 0, 1) := by decide +kernel
theorem dL_law_545 : decode cL_law 545 = .ok (.iload_n 3, 1) := by decide +kernel
theorem dL_law_546 : decode cL_law 546 = .ok (.iconst 4, 1) := by decide +kernel
theorem dL_law_547 : decode cL_law 547 = .ok (.iadd, 1) := by decide +kernel
theorem dL_law_548 : decode cL_law 548 = .ok (.iaload, 1) := by decide +kernel
theorem dL_law_549 : decode cL_law 549 = .ok (.aload_n 0, 1) := by decide +kernel
theorem dL_law_550 : decode cL_law 550 = .ok (.iload_n 3, 1) := by decide +kernel
theorem dL_law_551 : decode cL_law 551 = .ok (.iconst 5, 1) := by decide +kernel
theorem dL_law_552 : decode cL_law 552 = .ok (.iadd, 1) := by decide +kernel
theorem dL_law_553 : decode cL_law 553 = .ok (.iaload, 1) := by decide +kernel
theorem dL_law_554 : decode cL_law 554 = .ok (.invokevirtual 58, 3) := by decide +kernel
theorem dL_law_557 : decode cL_law 557 = .ok (.aload_n 2, 1) := by decide +kernel
theorem dL_law_558 : decode cL_law 558 = .ok (.aload_n 0, 1) := by decide +kernel
theorem dL_law_559 : decode cL_law 559 = .ok (.iload_n 3, 1) := by decide +kernel
theorem dL_law_560 : decode cL_law 560 = .ok (.iconst 1, 1) := by decide +kernel
theorem dL_law_561 : decode cL_law 561 = .ok (.iadd, 1) := by decide +kernel
theorem dL_law_562 : decode cL_law 562 = .ok (.iaload, 1) := by decide +kernel
theorem dL_law_563 : decode cL_law 563 = .ok (.aload_n 0, 1) := by decide +kernel
theorem dL_law_564 : decode cL_law 564 = .ok (.iload_n 3, 1) := by decide +kernel
theorem dL_law_565 : decode cL_law 565 = .ok (.iconst 2, 1) := by decide +kernel
theorem dL_law_566 : decode cL_law 566 = .ok (.iadd, 1) := by decide +kernel
theorem dL_law_567 : decode cL_law 567 = .ok (.iaload, 1) := by decide +kernel
theorem dL_law_568 : decode cL_law 568 = .ok (.aload_n 0, 1) := by decide +kernel
theorem dL_law_569 : decode cL_law 569 = .ok (.iload_n 3, 1) := by decide +kernel
theorem dL_law_570 : decode cL_law 570 = .ok (.iconst 3, 1) := by decide +kernel
theorem dL_law_571 : decode cL_law 571 = .ok (.iadd, 1) := by decide +kernel
theorem dL_law_572 : decode cL_law 572 = .ok (.iaload, 1) := by decide +kernel
theorem dL_law_573 : decode cL_law 573 = .ok (.aload_n 0, 1) := by decide +kernel
theorem dL_law_574 : decode cL_law 574 = .ok (.iload_n 3, 1) := by decide +kernel
theorem dL_law_575 : decode cL_law 575 = .ok (.iconst 4, 1) := by decide +kernel
theorem dL_law_576 : decode cL_law 576 = .ok (.iadd, 1) := by decide +kernel
theorem dL_law_577 : decode cL_law 577 = .ok (.iaload, 1) := by decide +kernel
theorem dL_law_578 : decode cL_law 578 = .ok (.aload_n 0, 1) := by decide +kernel
theorem dL_law_579 : decode cL_law 579 = .ok (.iload_n 3, 1) := by decide +kernel
theorem dL_law_580 : decode cL_law 580 = .ok (.iconst 5, 1) := by decide +kernel
theorem dL_law_581 : decode cL_law 581 = .ok (.iadd, 1) := by decide +kernel
theorem dL_law_582 : decode cL_law 582 = .ok (.iaload, 1) := by decide +kernel
theorem dL_law_583 : decode cL_law 583 = .ok (.invokevirtual 61, 3) := by decide +kernel
theorem dL_law_586 : decode cL_law 586 = .ok (.if_icmp .eq 587, 3) := by decide +kernel
theorem dL_law_589 : decode cL_law 589 = .ok (.iconst 0, 1) := by decide +kernel
theorem dL_law_590 : decode cL_law 590 = .ok (.ireturn, 1) := by decide +kernel
theorem dL_law_591 : decode cL_law 591 = .ok (.aload_n 1, 1) := by decide +kernel
theorem dL_law_592 : decode cL_law 592 = .ok (.aload_n 0, 1) := by decide +kernel
theorem dL_law_593 : decode cL_law 593 = .ok (.iload_n 3, 1) := by decide +kernel
theorem dL_law_594 : decode cL_law 594 = .ok (.iconst 1, 1) := by decide +kernel
theorem dL_law_595 : decode cL_law 595 = .ok (.iadd, 1) := by decide +kernel
theorem dL_law_596 : decode cL_law 596 = .ok (.iaload, 1) := by decide +kernel
theorem dL_law_597 : decode cL_law 597 = .ok (.aload_n 0, 1) := by decide +kernel
theorem dL_law_598 : decode cL_law 598 = .ok (.iload_n 3, 1) := by decide +kernel
theorem dL_law_599 : decode cL_law 599 = .ok (.iconst 2, 1) := by decide +kernel
theorem dL_law_600 : decode cL_law 600 = .ok (.iadd, 1) := by decide +kernel
theorem dL_law_601 : decode cL_law 601 = .ok (.iaload, 1) := by decide +kernel
theorem dL_law_602 : decode cL_law 602 = .ok (.aload_n 0, 1) := by decide +kernel
theorem dL_law_603 : decode cL_law 603 = .ok (.iload_n 3, 1) := by decide +kernel
theorem dL_law_604 : decode cL_law 604 = .ok (.iconst 3, 1) := by decide +kernel
theorem dL_law_605 : decode cL_law 605 = .ok (.iadd, 1) := by decide +kernel
theorem dL_law_606 : decode cL_law 606 = .ok (.iaload, 1) := by decide +kernel
theorem dL_law_607 : decode cL_law 607 = .ok (.aload_n 0, 1) := by decide +kernel
theorem dL_law_608 : decode cL_law 608 = .ok (.iload_n 3, 1) := by decide +kernel
theorem dL_law_609 : decode cL_law 609 = .ok (.iconst 4, 1) := by decide +kernel
theorem dL_law_610 : decode cL_law 610 = .ok (.iadd, 1) := by decide +kernel
theorem dL_law_611 : decode cL_law 611 = .ok (.iaload, 1) := by decide +kernel
theorem dL_law_612 : decode cL_law 612 = .ok (.aload_n 0, 1) := by decide +kernel
theorem dL_law_613 : decode cL_law 613 = .ok (.iload_n 3, 1) := by decide +kernel
theorem dL_law_614 : decode cL_law 614 = .ok (.iconst 5, 1) := by decide +kernel
theorem dL_law_615 : decode cL_law 615 = .ok (.iadd, 1) := by decide +kernel
theorem dL_law_616 : decode cL_law 616 = .ok (.iaload, 1) := by decide +kernel
theorem dL_law_617 : decode cL_law 617 = .ok (.invokevirtual 62, 3) := by decide +kernel
theorem dL_law_620 : decode cL_law 620 = .ok (.aload_n 2, 1) := by decide +kernel
theorem dL_law_621 : decode cL_law 621 = .ok (.aload_n 0, 1) := by decide +kernel
theorem dL_law_622 : decode cL_law 622 = .ok (.iload_n 3, 1) := by decide +kernel
theorem dL_law_623 : decode cL_law 623 = .ok (.iconst 1, 1) := by decide +kernel
theorem dL_law_624 : decode cL_law 624 = .ok (.iadd, 1) := by decide +kernel
theorem dL_law_625 : decode cL_law 625 = .ok (.iaload, 1) := by decide +kernel
theorem dL_law_626 : decode cL_law 626 = .ok (.aload_n 0, 1) := by decide +kernel
theorem dL_law_627 : decode cL_law 627 = .ok (.iload_n 3, 1) := by decide +kernel
theorem dL_law_628 : decode cL_law 628 = .ok (.iconst 2, 1) := by decide +kernel
theorem dL_law_629 : decode cL_law 629 = .ok (.iadd, 1) := by decide +kernel
theorem dL_law_630 : decode cL_law 630 = .ok (.iaload, 1) := by decide +kernel
theorem dL_law_631 : decode cL_law 631 = .ok (.aload_n 0, 1) := by decide +kernel
theorem dL_law_632 : decode cL_law 632 = .ok (.iload_n 3, 1) := by decide +kernel
theorem dL_law_633 : decode cL_law 633 = .ok (.iconst 3, 1) := by decide +kernel
theorem dL_law_634 : decode cL_law 634 = .ok (.iadd, 1) := by decide +kernel
theorem dL_law_635 : decode cL_law 635 = .ok (.iaload, 1) := by decide +kernel
theorem dL_law_636 : decode cL_law 636 = .ok (.aload_n 0, 1) := by decide +kernel
theorem dL_law_637 : decode cL_law 637 = .ok (.iload_n 3, 1) := by decide +kernel
theorem dL_law_638 : decode cL_law 638 = .ok (.iconst 4, 1) := by decide +kernel
theorem dL_law_639 : decode cL_law 639 = .ok (.iadd, 1) := by decide +kernel
theorem dL_law_640 : decode cL_law 640 = .ok (.iaload, 1) := by decide +kernel
theorem dL_law_641 : decode cL_law 641 = .ok (.aload_n 0, 1) := by decide +kernel
theorem dL_law_642 : decode cL_law 642 = .ok (.iload_n 3, 1) := by decide +kernel
theorem dL_law_643 : decode cL_law 643 = .ok (.iconst 5, 1) := by decide +kernel
theorem dL_law_644 : decode cL_law 644 = .ok (.iadd, 1) := by decide +kernel
theorem dL_law_645 : decode cL_law 645 = .ok (.iaload, 1) := by decide +kernel
theorem dL_law_646 : decode cL_law 646 = .ok (.invokevirtual 65, 3) := by decide +kernel
theorem dL_law_649 : decode cL_law 649 = .ok (.if_icmp .eq 524, 3) := by decide +kernel
theorem dL_law_652 : decode cL_law 652 = .ok (.iconst 0, 1) := by decide +kernel
theorem dL_law_653 : decode cL_law 653 = .ok (.ireturn, 1) := by decide +kernel
theorem dL_law_654 : decode cL_law 654 = .ok (.aload_n 1, 1) := by decide +kernel
theorem dL_law_655 : decode cL_law 655 = .ok (.aload_n 0, 1) := by decide +kernel
theorem dL_law_656 : decode cL_law 656 = .ok (.iload_n 3, 1) := by decide +kernel
theorem dL_law_657 : decode cL_law 657 = .ok (.iconst 1, 1) := by decide +kernel
theorem dL_law_658 : decode cL_law 658 = .ok (.iadd, 1) := by decide +kernel
theorem dL_law_659 : decode cL_law 659 = .ok (.iaload, 1) := by decide +kernel
theorem dL_law_660 : decode cL_law 660 = .ok (.aload_n 0, 1) := by decide +kernel
theorem dL_law_661 : decode cL_law 661 = .ok (.iload_n 3, 1) := by decide +kernel
theorem dL_law_662 : decode cL_law 662 = .ok (.iconst 2, 1) := by decide +kernel
theorem dL_law_663 : decode cL_law 663 = .ok (.iadd, 1) := by decide +kernel
theorem dL_law_664 : decode cL_law 664 = .ok (.iaload, 1) := by decide +kernel
theorem dL_law_665 : decode cL_law 665 = .ok (.aload_n 0, 1) := by decide +kernel
theorem dL_law_666 : decode cL_law 666 = .ok (.iload_n 3, 1) := by decide +kernel
theorem dL_law_667 : decode cL_law 667 = .ok (.iconst 3, 1) := by decide +kernel
theorem dL_law_668 : decode cL_law 668 = .ok (.iadd, 1) := by decide +kernel
theorem dL_law_669 : decode cL_law 669 = .ok (.iaload, 1) := by decide +kernel
theorem dL_law_670 : decode cL_law 670 = .ok (.aload_n 0, 1) := by decide +kernel
theorem dL_law_671 : decode cL_law 671 = .ok (.iload_n 3, 1) := by decide +kernel
theorem dL_law_672 : decode cL_law 672 = .ok (.iconst 4, 1) := by decide +kernel
theorem dL_law_673 : decode cL_law 673 = .ok (.iadd, 1) := by decide +kernel
theorem dL_law_674 : decode cL_law 674 = .ok (.iaload, 1) := by decide +kernel
theorem dL_law_675 : decode cL_law 675 = .ok (.invokevirtual 66, 3) := by decide +kernel
theorem dL_law_678 : decode cL_law 678 = .ok (.aload_n 2, 1) := by decide +kernel
theorem dL_law_679 : decode cL_law 679 = .ok (.aload_n 0, 1) := by decide +kernel
theorem dL_law_680 : decode cL_law 680 = .ok (.iload_n 3, 1) := by decide +kernel
theorem dL_law_681 : decode cL_law 681 = .ok (.iconst 1, 1) := by decide +kernel
theorem dL_law_682 : decode cL_law 682 = .ok (.iadd, 1) := by decide +kernel
theorem dL_law_683 : decode cL_law 683 = .ok (.iaload, 1) := by decide +kernel
theorem dL_law_684 : decode cL_law 684 = .ok (.aload_n 0, 1) := by decide +kernel
theorem dL_law_685 : decode cL_law 685 = .ok (.iload_n 3, 1) := by decide +kernel
theorem dL_law_686 : decode cL_law 686 = .ok (.iconst 2, 1) := by decide +kernel
theorem dL_law_687 : decode cL_law 687 = .ok (.iadd, 1) := by decide +kernel
theorem dL_law_688 : decode cL_law 688 = .ok (.iaload, 1) := by decide +kernel
theorem dL_law_689 : decode cL_law 689 = .ok (.aload_n 0, 1) := by decide +kernel
theorem dL_law_690 : decode cL_law 690 = .ok (.iload_n 3, 1) := by decide +kernel
theorem dL_law_691 : decode cL_law 691 = .ok (.iconst 3, 1) := by decide +kernel
theorem dL_law_692 : decode cL_law 692 = .ok (.iadd, 1) := by decide +kernel
theorem dL_law_693 : decode cL_law 693 = .ok (.iaload, 1) := by decide +kernel
theorem dL_law_694 : decode cL_law 694 = .ok (.aload_n 0, 1) := by decide +kernel
theorem dL_law_695 : decode cL_law 695 = .ok (.iload_n 3, 1) := by decide +kernel
theorem dL_law_696 : decode cL_law 696 = .ok (.iconst 4, 1) := by decide +kernel
theorem dL_law_697 : decode cL_law 697 = .ok (.iadd, 1) := by decide +kernel
theorem dL_law_698 : decode cL_law 698 = .ok (.iaload, 1) := by decide +kernel
theorem dL_law_699 : decode cL_law 699 = .ok (.invokevirtual 69, 3) := by decide +kernel
theorem dL_law_702 : decode cL_law 702 = .ok (.if_icmp .eq 471, 3) := by decide +kernel
theorem dL_law_705 : decode cL_law 705 = .ok (.iconst 0, 1) := by decide +kernel
theorem dL_law_706 : decode cL_law 706 = .ok (.ireturn, 1) := by decide +kernel
theorem dL_law_707 : decode cL_law 707 = .ok (.aload_n 1, 1) := by decide +kernel
theorem dL_law_708 : decode cL_law 708 = .ok (.aload_n 0, 1) := by decide +kernel
theorem dL_law_709 : decode cL_law 709 = .ok (.iload_n 3, 1) := by decide +kernel
theorem dL_law_710 : decode cL_law 710 = .ok (.iconst 1, 1) := by decide +kernel
theorem dL_law_711 : decode cL_law 711 = .ok (.iadd, 1) := by decide +kernel
theorem dL_law_712 : decode cL_law 712 = .ok (.iaload, 1) := by decide +kernel
theorem dL_law_713 : decode cL_law 713 = .ok (.aload_n 0, 1) := by decide +kernel
theorem dL_law_714 : decode cL_law 714 = .ok (.iload_n 3, 1) := by decide +kernel
theorem dL_law_715 : decode cL_law 715 = .ok (.iconst 2, 1) := by decide +kernel
theorem dL_law_716 : decode cL_law 716 = .ok (.iadd, 1) := by decide +kernel
theorem dL_law_717 : decode cL_law 717 = .ok (.iaload, 1) := by decide +kernel
theorem dL_law_718 : decode cL_law 718 = .ok (.aload_n 0, 1) := by decide +kernel
theorem dL_law_719 : decode cL_law 719 = .ok (.iload_n 3, 1) := by decide +kernel
theorem dL_law_720 : decode cL_law 720 = .ok (.iconst 3, 1) := by decide +kernel
theorem dL_law_721 : decode cL_law 721 = .ok (.iadd, 1) := by decide +kernel
theorem dL_law_722 : decode cL_law 722 = .ok (.iaload, 1) := by decide +kernel
theorem dL_law_723 : decode cL_law 723 = .ok (.aload_n 0, 1) := by decide +kernel
theorem dL_law_724 : decode cL_law 724 = .ok (.iload_n 3, 1) := by decide +kernel
theorem dL_law_725 : decode cL_law 725 = .ok (.iconst 4, 1) := by decide +kernel
theorem dL_law_726 : decode cL_law 726 = .ok (.iadd, 1) := by decide +kernel
theorem dL_law_727 : decode cL_law 727 = .ok (.iaload, 1) := by decide +kernel
theorem dL_law_728 : decode cL_law 728 = .ok (.invokevirtual 70, 3) := by decide +kernel
theorem dL_law_731 : decode cL_law 731 = .ok (.aload_n 2, 1) := by decide +kernel
theorem dL_law_732 : decode cL_law 732 = .ok (.aload_n 0, 1) := by decide +kernel
theorem dL_law_733 : decode cL_law 733 = .ok (.iload_n 3, 1) := by decide +kernel
theorem dL_law_734 : decode cL_law 734 = .ok (.iconst 1, 1) := by decide +kernel
theorem dL_law_735 : decode cL_law 735 = .ok (.iadd, 1) := by decide +kernel
theorem dL_law_736 : decode cL_law 736 = .ok (.iaload, 1) := by decide +kernel
theorem dL_law_737 : decode cL_law 737 = .ok (.aload_n 0, 1) := by decide +kernel
theorem dL_law_738 : decode cL_law 738 = .ok (.iload_n 3, 1) := by decide +kernel
theorem dL_law_739 : decode cL_law 739 = .ok (.iconst 2, 1) := by decide +kernel
theorem dL_law_740 : decode cL_law 740 = .ok (.iadd, 1) := by decide +kernel
theorem dL_law_741 : decode cL_law 741 = .ok (.iaload, 1) := by decide +kernel
theorem dL_law_742 : decode cL_law 742 = .ok (.aload_n 0, 1) := by decide +kernel
theorem dL_law_743 : decode cL_law 743 = .ok (.iload_n 3, 1) := by decide +kernel
theorem dL_law_744 : decode cL_law 744 = .ok (.iconst 3, 1) := by decide +kernel
theorem dL_law_745 : decode cL_law 745 = .ok (.iadd, 1) := by decide +kernel
theorem dL_law_746 : decode cL_law 746 = .ok (.iaload, 1) := by decide +kernel
theorem dL_law_747 : decode cL_law 747 = .ok (.aload_n 0, 1) := by decide +kernel
theorem dL_law_748 : decode cL_law 748 = .ok (.iload_n 3, 1) := by decide +kernel
theorem dL_law_749 : decode cL_law 749 = .ok (.iconst 4, 1) := by decide +kernel
theorem dL_law_750 : decode cL_law 750 = .ok (.iadd, 1) := by decide +kernel
theorem dL_law_751 : decode cL_law 751 = .ok (.iaload, 1) := by decide +kernel
theorem dL_law_752 : decode cL_law 752 = .ok (.invokevirtual 73, 3) := by decide +kernel
theorem dL_law_755 : decode cL_law 755 = .ok (.if_icmp .eq 418, 3) := by decide +kernel
theorem dL_law_758 : decode cL_law 758 = .ok (.iconst 0, 1) := by decide +kernel
theorem dL_law_759 : decode cL_law 759 = .ok (.ireturn, 1) := by decide +kernel
theorem dL_law_760 : decode cL_law 760 = .ok (.aload_n 1, 1) := by decide +kernel
theorem dL_law_761 : decode cL_law 761 = .ok (.aload_n 0, 1) := by decide +kernel
theorem dL_law_762 : decode cL_law 762 = .ok (.iload_n 3, 1) := by decide +kernel
theorem dL_law_763 : decode cL_law 763 = .ok (.iconst 1, 1) := by decide +kernel
theorem dL_law_764 : decode cL_law 764 = .ok (.iadd, 1) := by decide +kernel
theorem dL_law_765 : decode cL_law 765 = .ok (.iaload, 1) := by decide +kernel
theorem dL_law_766 : decode cL_law 766 = .ok (.aload_n 0, 1) := by decide +kernel
theorem dL_law_767 : decode cL_law 767 = .ok (.iload_n 3, 1) := by decide +kernel
theorem dL_law_768 : decode cL_law 768 = .ok (.iconst 2, 1) := by decide +kernel
theorem dL_law_769 : decode cL_law 769 = .ok (.iadd, 1) := by decide +kernel
theorem dL_law_770 : decode cL_law 770 = .ok (.iaload, 1) := by decide +kernel
theorem dL_law_771 : decode cL_law 771 = .ok (.aload_n 0, 1) := by decide +kernel
theorem dL_law_772 : decode cL_law 772 = .ok (.iload_n 3, 1) := by decide +kernel
theorem dL_law_773 : decode cL_law 773 = .ok (.iconst 3, 1) := by decide +kernel
theorem dL_law_774 : decode cL_law 774 = .ok (.iadd, 1) := by decide +kernel
theorem dL_law_775 : decode cL_law 775 = .ok (.iaload, 1) := by decide +kernel
theorem dL_law_776 : decode cL_law 776 = .ok (.aload_n 0, 1) := by decide +kernel
theorem dL_law_777 : decode cL_law 777 = .ok (.iload_n 3, 1) := by decide +kernel
theorem dL_law_778 : decode cL_law 778 = .ok (.iconst 4, 1) := by decide +kernel
theorem dL_law_779 : decode cL_law 779 = .ok (.iadd, 1) := by decide +kernel
theorem dL_law_780 : decode cL_law 780 = .ok (.iaload, 1) := by decide +kernel
theorem dL_law_781 : decode cL_law 781 = .ok (.invokevirtual 74, 3) := by decide +kernel
theorem dL_law_784 : decode cL_law 784 = .ok (.aload_n 2, 1) := by decide +kernel
theorem dL_law_785 : decode cL_law 785 = .ok (.aload_n 0, 1) := by decide +kernel
theorem dL_law_786 : decode cL_law 786 = .ok (.iload_n 3, 1) := by decide +kernel
theorem dL_law_787 : decode cL_law 787 = .ok (.iconst 1, 1) := by decide +kernel
theorem dL_law_788 : decode cL_law 788 = .ok (.iadd, 1) := by decide +kernel
theorem dL_law_789 : decode cL_law 789 = .ok (.iaload, 1) := by decide +kernel
theorem dL_law_790 : decode cL_law 790 = .ok (.aload_n 0, 1) := by decide +kernel
theorem dL_law_791 : decode cL_law 791 = .ok (.iload_n 3, 1) := by decide +kernel
theorem dL_law_792 : decode cL_law 792 = .ok (.iconst 2, 1) := by decide +kernel
theorem dL_law_793 : decode cL_law 793 = .ok (.iadd, 1) := by decide +kernel
theorem dL_law_794 : decode cL_law 794 = .ok (.iaload, 1) := by decide +kernel
theorem dL_law_795 : decode cL_law 795 = .ok (.aload_n 0, 1) := by decide +kernel
theorem dL_law_796 : decode cL_law 796 = .ok (.iload_n 3, 1) := by decide +kernel
theorem dL_law_797 : decode cL_law 797 = .ok (.iconst 3, 1) := by decide +kernel
theorem dL_law_798 : decode cL_law 798 = .ok (.iadd, 1) := by decide +kernel
theorem dL_law_799 : decode cL_law 799 = .ok (.iaload, 1) := by decide +kernel
theorem dL_law_800 : decode cL_law 800 = .ok (.aload_n 0, 1) := by decide +kernel
theorem dL_law_801 : decode cL_law 801 = .ok (.iload_n 3, 1) := by decide +kernel
theorem dL_law_802 : decode cL_law 802 = .ok (.iconst 4, 1) := by decide +kernel
theorem dL_law_803 : decode cL_law 803 = .ok (.iadd, 1) := by decide +kernel
theorem dL_law_804 : decode cL_law 804 = .ok (.iaload, 1) := by decide +kernel
theorem dL_law_805 : decode cL_law 805 = .ok (.invokevirtual 77, 3) := by decide +kernel
theorem dL_law_808 : decode cL_law 808 = .ok (.if_icmp .eq 365, 3) := by decide +kernel
theorem dL_law_811 : decode cL_law 811 = .ok (.iconst 0, 1) := by decide +kernel
theorem dL_law_812 : decode cL_law 812 = .ok (.ireturn, 1) := by decide +kernel
theorem dL_law_813 : decode cL_law 813 = .ok (.aload_n 1, 1) := by decide +kernel
theorem dL_law_814 : decode cL_law 814 = .ok (.aload_n 0, 1) := by decide +kernel
theorem dL_law_815 : decode cL_law 815 = .ok (.iload_n 3, 1) := by decide +kernel
theorem dL_law_816 : decode cL_law 816 = .ok (.iconst 1, 1) := by decide +kernel
theorem dL_law_817 : decode cL_law 817 = .ok (.iadd, 1) := by decide +kernel
theorem dL_law_818 : decode cL_law 818 = .ok (.iaload, 1) := by decide +kernel
theorem dL_law_819 : decode cL_law 819 = .ok (.aload_n 0, 1) := by decide +kernel
theorem dL_law_820 : decode cL_law 820 = .ok (.iload_n 3, 1) := by decide +kernel
theorem dL_law_821 : decode cL_law 821 = .ok (.iconst 2, 1) := by decide +kernel
theorem dL_law_822 : decode cL_law 822 = .ok (.iadd, 1) := by decide +kernel
theorem dL_law_823 : decode cL_law 823 = .ok (.iaload, 1) := by decide +kernel
theorem dL_law_824 : decode cL_law 824 = .ok (.invokevirtual 78, 3) := by decide +kernel
theorem dL_law_827 : decode cL_law 827 = .ok (.aload_n 2, 1) := by decide +kernel
theorem dL_law_828 : decode cL_law 828 = .ok (.aload_n 0, 1) := by decide +kernel
theorem dL_law_829 : decode cL_law 829 = .ok (.iload_n 3, 1) := by decide +kernel
theorem dL_law_830 : decode cL_law 830 = .ok (.iconst 1, 1) := by decide +kernel
theorem dL_law_831 : decode cL_law 831 = .ok (.iadd, 1) := by decide +kernel
theorem dL_law_832 : decode cL_law 832 = .ok (.iaload, 1) := by decide +kernel
theorem dL_law_833 : decode cL_law 833 = .ok (.aload_n 0, 1) := by decide +kernel
theorem dL_law_834 : decode cL_law 834 = .ok (.iload_n 3, 1) := by decide +kernel
theorem dL_law_835 : decode cL_law 835 = .ok (.iconst 2, 1) := by decide +kernel
theorem dL_law_836 : decode cL_law 836 = .ok (.iadd, 1) := by decide +kernel
theorem dL_law_837 : decode cL_law 837 = .ok (.iaload, 1) := by decide +kernel
theorem dL_law_838 : decode cL_law 838 = .ok (.invokevirtual 82, 3) := by decide +kernel
theorem dL_law_841 : decode cL_law 841 = .ok (.if_icmp .eq 332, 3) := by decide +kernel
theorem dL_law_844 : decode cL_law 844 = .ok (.iconst 0, 1) := by decide +kernel
theorem dL_law_845 : decode cL_law 845 = .ok (.ireturn, 1) := by decide +kernel
theorem dL_law_846 : decode cL_law 846 = .ok (.aload_n 1, 1) := by decide +kernel
theorem dL_law_847 : decode cL_law 847 = .ok (.aload_n 0, 1) := by decide +kernel
theorem dL_law_848 : decode cL_law 848 = .ok (.iload_n 3, 1) := by decide +kernel
theorem dL_law_849 : decode cL_law 849 = .ok (.iconst 1, 1) := by decide +kernel
theorem dL_law_850 : decode cL_law 850 = .ok (.iadd, 1) := by decide +kernel
theorem dL_law_851 : decode cL_law 851 = .ok (.iaload, 1) := by decide +kernel
theorem dL_law_852 : decode cL_law 852 = .ok (.aload_n 0, 1) := by decide +kernel
theorem dL_law_853 : decode cL_law 853 = .ok (.iload_n 3, 1) := by decide +kernel
theorem dL_law_854 : decode cL_law 854 = .ok (.iconst 2, 1) := by decide +kernel
theorem dL_law_855 : decode cL_law 855 = .ok (.iadd, 1) := by decide +kernel
theorem dL_law_856 : decode cL_law 856 = .ok (.iaload, 1) := by decide +kernel
theorem dL_law_857 : decode cL_law 857 = .ok (.aload_n 0, 1) := by decide +kernel
theorem dL_law_858 : decode cL_law 858 = .ok (.iload_n 3, 1) := by decide +kernel
theorem dL_law_859 : decode cL_law 859 = .ok (.iconst 3, 1) := by decide +kernel
theorem dL_law_860 : decode cL_law 860 = .ok (.iadd, 1) := by decide +kernel
theorem dL_law_861 : decode cL_law 861 = .ok (.iaload, 1) := by decide +kernel
theorem dL_law_862 : decode cL_law 862 = .ok (.aload_n 0, 1) := by decide +kernel
theorem dL_law_863 : decode cL_law 863 = .ok (.iload_n 3, 1) := by decide +kernel
theorem dL_law_864 : decode cL_law 864 = .ok (.iconst 4, 1) := by decide +kernel
theorem dL_law_865 : decode cL_law 865 = .ok (.iadd, 1) := by decide +kernel
theorem dL_law_866 : decode cL_law 866 = .ok (.iaload, 1) := by decide +kernel
theorem dL_law_867 : decode cL_law 867 = .ok (.invokevirtual 83, 3) := by decide +kernel
theorem dL_law_870 : decode cL_law 870 = .ok (.aload_n 2, 1) := by decide +kernel
theorem dL_law_871 : decode cL_law 871 = .ok (.aload_n 0, 1) := by decide +kernel
theorem dL_law_872 : decode cL_law 872 = .ok (.iload_n 3, 1) := by decide +kernel
theorem dL_law_873 : decode cL_law 873 = .ok (.iconst 1, 1) := by decide +kernel
theorem dL_law_874 : decode cL_law 874 = .ok (.iadd, 1) := by decide +kernel
theorem dL_law_875 : decode cL_law 875 = .ok (.iaload, 1) := by decide +kernel
theorem dL_law_876 : decode cL_law 876 = .ok (.aload_n 0, 1) := by decide +kernel
theorem dL_law_877 : decode cL_law 877 = .ok (.iload_n 3, 1) := by decide +kernel
theorem dL_law_878 : decode cL_law 878 = .ok (.iconst 2, 1) := by decide +kernel
theorem dL_law_879 : decode cL_law 879 = .ok (.iadd, 1) := by decide +kernel
theorem dL_law_880 : decode cL_law 880 = .ok (.iaload, 1) := by decide +kernel
theorem dL_law_881 : decode cL_law 881 = .ok (.aload_n 0, 1) := by decide +kernel
theorem dL_law_882 : decode cL_law 882 = .ok (.iload_n 3, 1) := by decide +kernel
theorem dL_law_883 : decode cL_law 883 = .ok (.iconst 3, 1) := by decide +kernel
theorem dL_law_884 : decode cL_law 884 = .ok (.iadd, 1) := by decide +kernel
theorem dL_law_885 : decode cL_law 885 = .ok (.iaload, 1) := by decide +kernel
theorem dL_law_886 : decode cL_law 886 = .ok (.aload_n 0, 1) := by decide +kernel
theorem dL_law_887 : decode cL_law 887 = .ok (.iload_n 3, 1) := by decide +kernel
theorem dL_law_888 : decode cL_law 888 = .ok (.iconst 4, 1) := by decide +kernel
theorem dL_law_889 : decode cL_law 889 = .ok (.iadd, 1) := by decide +kernel
theorem dL_law_890 : decode cL_law 890 = .ok (.iaload, 1) := by decide +kernel
theorem dL_law_891 : decode cL_law 891 = .ok (.invokevirtual 86, 3) := by decide +kernel
theorem dL_law_894 : decode cL_law 894 = .ok (.if_icmp .eq 279, 3) := by decide +kernel
theorem dL_law_897 : decode cL_law 897 = .ok (.iconst 0, 1) := by decide +kernel
theorem dL_law_898 : decode cL_law 898 = .ok (.ireturn, 1) := by decide +kernel
theorem dL_law_899 : decode cL_law 899 = .ok (.aload_n 1, 1) := by decide +kernel
theorem dL_law_900 : decode cL_law 900 = .ok (.aload_n 0, 1) := by decide +kernel
theorem dL_law_901 : decode cL_law 901 = .ok (.iload_n 3, 1) := by decide +kernel
theorem dL_law_902 : decode cL_law 902 = .ok (.iconst 1, 1) := by decide +kernel
theorem dL_law_903 : decode cL_law 903 = .ok (.iadd, 1) := by decide +kernel
theorem dL_law_904 : decode cL_law 904 = .ok (.iaload, 1) := by decide +kernel
theorem dL_law_905 : decode cL_law 905 = .ok (.aload_n 0, 1) := by decide +kernel
theorem dL_law_906 : decode cL_law 906 = .ok (.iload_n 3, 1) := by decide +kernel
theorem dL_law_907 : decode cL_law 907 = .ok (.iconst 2, 1) := by decide +kernel
theorem dL_law_908 : decode cL_law 908 = .ok (.iadd, 1) := by decide +kernel
theorem dL_law_909 : decode cL_law 909 = .ok (.iaload, 1) := by decide +kernel
theorem dL_law_910 : decode cL_law 910 = .ok (.aload_n 0, 1) := by decide +kernel
theorem dL_law_911 : decode cL_law 911 = .ok (.iload_n 3, 1) := by decide +kernel
theorem dL_law_912 : decode cL_law 912 = .ok (.iconst 3, 1) := by decide +kernel
theorem dL_law_913 : decode cL_law 913 = .ok (.iadd, 1) := by decide +kernel
theorem dL_law_914 : decode cL_law 914 = .ok (.iaload, 1) := by decide +kernel
theorem dL_law_915 : decode cL_law 915 = .ok (.invokevirtual 87, 3) := by decide +kernel
theorem dL_law_918 : decode cL_law 918 = .ok (.aload_n 2, 1) := by decide +kernel
theorem dL_law_919 : decode cL_law 919 = .ok (.aload_n 0, 1) := by decide +kernel
theorem dL_law_920 : decode cL_law 920 = .ok (.iload_n 3, 1) := by decide +kernel
theorem dL_law_921 : decode cL_law 921 = .ok (.iconst 1, 1) := by decide +kernel
theorem dL_law_922 : decode cL_law 922 = .ok (.iadd, 1) := by decide +kernel
theorem dL_law_923 : decode cL_law 923 = .ok (.iaload, 1) := by decide +kernel
theorem dL_law_924 : decode cL_law 924 = .ok (.aload_n 0, 1) := by decide +kernel
theorem dL_law_925 : decode cL_law 925 = .ok (.iload_n 3, 1) := by decide +kernel
theorem dL_law_926 : decode cL_law 926 = .ok (.iconst 2, 1) := by decide +kernel
theorem dL_law_927 : decode cL_law 927 = .ok (.iadd, 1) := by decide +kernel
theorem dL_law_928 : decode cL_law 928 = .ok (.iaload, 1) := by decide +kernel
theorem dL_law_929 : decode cL_law 929 = .ok (.aload_n 0, 1) := by decide +kernel
theorem dL_law_930 : decode cL_law 930 = .ok (.iload_n 3, 1) := by decide +kernel
theorem dL_law_931 : decode cL_law 931 = .ok (.iconst 3, 1) := by decide +kernel
theorem dL_law_932 : decode cL_law 932 = .ok (.iadd, 1) := by decide +kernel
theorem dL_law_933 : decode cL_law 933 = .ok (.iaload, 1) := by decide +kernel
theorem dL_law_934 : decode cL_law 934 = .ok (.invokevirtual 90, 3) := by decide +kernel
theorem dL_law_937 : decode cL_law 937 = .ok (.if_icmp .eq 236, 3) := by decide +kernel
theorem dL_law_940 : decode cL_law 940 = .ok (.iconst 0, 1) := by decide +kernel
theorem dL_law_941 : decode cL_law 941 = .ok (.ireturn, 1) := by decide +kernel
theorem dL_law_942 : decode cL_law 942 = .ok (.aload_n 1, 1) := by decide +kernel
theorem dL_law_943 : decode cL_law 943 = .ok (.aload_n 0, 1) := by decide +kernel
theorem dL_law_944 : decode cL_law 944 = .ok (.iload_n 3, 1) := by decide +kernel
theorem dL_law_945 : decode cL_law 945 = .ok (.iconst 1, 1) := by decide +kernel
theorem dL_law_946 : decode cL_law 946 = .ok (.iadd, 1) := by decide +kernel
theorem dL_law_947 : decode cL_law 947 = .ok (.iaload, 1) := by decide +kernel
theorem dL_law_948 : decode cL_law 948 = .ok (.aload_n 0, 1) := by decide +kernel
theorem dL_law_949 : decode cL_law 949 = .ok (.iload_n 3, 1) := by decide +kernel
theorem dL_law_950 : decode cL_law 950 = .ok (.iconst 2, 1) := by decide +kernel
theorem dL_law_951 : decode cL_law 951 = .ok (.iadd, 1) := by decide +kernel
theorem dL_law_952 : decode cL_law 952 = .ok (.iaload, 1) := by decide +kernel
theorem dL_law_953 : decode cL_law 953 = .ok (.invokevirtual 91, 3) := by decide +kernel
theorem dL_law_956 : decode cL_law 956 = .ok (.aload_n 2, 1) := by decide +kernel
theorem dL_law_957 : decode cL_law 957 = .ok (.aload_n 0, 1) := by decide +kernel
theorem dL_law_958 : decode cL_law 958 = .ok (.iload_n 3, 1) := by decide +kernel
theorem dL_law_959 : decode cL_law 959 = .ok (.iconst 1, 1) := by decide +kernel
theorem dL_law_960 : decode cL_law 960 = .ok (.iadd, 1) := by decide +kernel
theorem dL_law_961 : decode cL_law 961 = .ok (.iaload, 1) := by decide +kernel
theorem dL_law_962 : decode cL_law 962 = .ok (.aload_n 0, 1) := by decide +kernel
theorem dL_law_963 : decode cL_law 963 = .ok (.iload_n 3, 1) := by decide +kernel
theorem dL_law_964 : decode cL_law 964 = .ok (.iconst 2, 1) := by decide +kernel
theorem dL_law_965 : decode cL_law 965 = .ok (.iadd, 1) := by decide +kernel
theorem dL_law_966 : decode cL_law 966 = .ok (.iaload, 1) := by decide +kernel
theorem dL_law_967 : decode cL_law 967 = .ok (.invokevirtual 94, 3) := by decide +kernel
theorem dL_law_970 : decode cL_law 970 = .ok (.if_icmp .eq 203, 3) := by decide +kernel
theorem dL_law_973 : decode cL_law 973 = .ok (.iconst 0, 1) := by decide +kernel
theorem dL_law_974 : decode cL_law 974 = .ok (.ireturn, 1) := by decide +kernel
theorem dL_law_975 : decode cL_law 975 = .ok (.aload_n 1, 1) := by decide +kernel
theorem dL_law_976 : decode cL_law 976 = .ok (.aload_n 0, 1) := by decide +kernel
theorem dL_law_977 : decode cL_law 977 = .ok (.iload_n 3, 1) := by decide +kernel
theorem dL_law_978 : decode cL_law 978 = .ok (.iconst 1, 1) := by decide +kernel
theorem dL_law_979 : decode cL_law 979 = .ok (.iadd, 1) := by decide +kernel
theorem dL_law_980 : decode cL_law 980 = .ok (.iaload, 1) := by decide +kernel
theorem dL_law_981 : decode cL_law 981 = .ok (.aload_n 0, 1) := by decide +kernel
theorem dL_law_982 : decode cL_law 982 = .ok (.iload_n 3, 1) := by decide +kernel
theorem dL_law_983 : decode cL_law 983 = .ok (.iconst 2, 1) := by decide +kernel
theorem dL_law_984 : decode cL_law 984 = .ok (.iadd, 1) := by decide +kernel
theorem dL_law_985 : decode cL_law 985 = .ok (.iaload, 1) := by decide +kernel
theorem dL_law_986 : decode cL_law 986 = .ok (.aload_n 0, 1) := by decide +kernel
theorem dL_law_987 : decode cL_law 987 = .ok (.iload_n 3, 1) := by decide +kernel
theorem dL_law_988 : decode cL_law 988 = .ok (.iconst 3, 1) := by decide +kernel
theorem dL_law_989 : decode cL_law 989 = .ok (.iadd, 1) := by decide +kernel
theorem dL_law_990 : decode cL_law 990 = .ok (.iaload, 1) := by decide +kernel
theorem dL_law_991 : decode cL_law 991 = .ok (.invokevirtual 95, 3) := by decide +kernel
theorem dL_law_994 : decode cL_law 994 = .ok (.aload_n 2, 1) := by decide +kernel
theorem dL_law_995 : decode cL_law 995 = .ok (.aload_n 0, 1) := by decide +kernel
theorem dL_law_996 : decode cL_law 996 = .ok (.iload_n 3, 1) := by decide +kernel
theorem dL_law_997 : decode cL_law 997 = .ok (.iconst 1, 1) := by decide +kernel
theorem dL_law_998 : decode cL_law 998 = .ok (.iadd, 1) := by decide +kernel
theorem dL_law_999 : decode cL_law 999 = .ok (.iaload, 1) := by decide +kernel
theorem dL_law_1000 : decode cL_law 1000 = .ok (.aload_n 0, 1) := by decide +kernel
theorem dL_law_1001 : decode cL_law 1001 = .ok (.iload_n 3, 1) := by decide +kernel
theorem dL_law_1002 : decode cL_law 1002 = .ok (.iconst 2, 1) := by decide +kernel
theorem dL_law_1003 : decode cL_law 1003 = .ok (.iadd, 1) := by decide +kernel
theorem dL_law_1004 : decode cL_law 1004 = .ok (.iaload, 1) := by decide +kernel
theorem dL_law_1005 : decode cL_law 1005 = .ok (.aload_n 0, 1) := by decide +kernel
theorem dL_law_1006 : decode cL_law 1006 = .ok (.iload_n 3, 1) := by decide +kernel
theorem dL_law_1007 : decode cL_law 1007 = .ok (.iconst 3, 1) := by decide +kernel
theorem dL_law_1008 : decode cL_law 1008 = .ok (.iadd, 1) := by decide +kernel
theorem dL_law_1009 : decode cL_law 1009 = .ok (.iaload, 1) := by decide +kernel
theorem dL_law_1010 : decode cL_law 1010 = .ok (.invokevirtual 98, 3) := by decide +kernel
theorem dL_law_1013 : decode cL_law 1013 = .ok (.if_icmp .eq 160, 3) := by decide +kernel
theorem dL_law_1016 : decode cL_law 1016 = .ok (.iconst 0, 1) := by decide +kernel
theorem dL_law_1017 : decode cL_law 1017 = .ok (.ireturn, 1) := by decide +kernel
theorem dL_law_1018 : decode cL_law 1018 = .ok (.aload_n 1, 1) := by decide +kernel
theorem dL_law_1019 : decode cL_law 1019 = .ok (.aload_n 0, 1) := by decide +kernel
theorem dL_law_1020 : decode cL_law 1020 = .ok (.iload_n 3, 1) := by decide +kernel
theorem dL_law_1021 : decode cL_law 1021 = .ok (.iconst 1, 1) := by decide +kernel
theorem dL_law_1022 : decode cL_law 1022 = .ok (.iadd, 1) := by decide +kernel
theorem dL_law_1023 : decode cL_law 1023 = .ok (.iaload, 1) := by decide +kernel
theorem dL_law_1024 : decode cL_law 1024 = .ok (.aload_n 0, 1) := by decide +kernel
theorem dL_law_1025 : decode cL_law 1025 = .ok (.iload_n 3, 1) := by decide +kernel
theorem dL_law_1026 : decode cL_law 1026 = .ok (.iconst 2, 1) := by decide +kernel
theorem dL_law_1027 : decode cL_law 1027 = .ok (.iadd, 1) := by decide +kernel
theorem dL_law_1028 : decode cL_law 1028 = .ok (.iaload, 1) := by decide +kernel
theorem dL_law_1029 : decode cL_law 1029 = .ok (.invokevirtual 99, 3) := by decide +kernel
theorem dL_law_1032 : decode cL_law 1032 = .ok (.aload_n 2, 1) := by decide +kernel
theorem dL_law_1033 : decode cL_law 1033 = .ok (.aload_n 0, 1) := by decide +kernel
theorem dL_law_1034 : decode cL_law 1034 = .ok (.iload_n 3, 1) := by decide +kernel
theorem dL_law_1035 : decode cL_law 1035 = .ok (.iconst 1, 1) := by decide +kernel
theorem dL_law_1036 : decode cL_law 1036 = .ok (.iadd, 1) := by decide +kernel
theorem dL_law_1037 : decode cL_law 1037 = .ok (.iaload, 1) := by decide +kernel
theorem dL_law_1038 : decode cL_law 1038 = .ok (.aload_n 0, 1) := by decide +kernel
theorem dL_law_1039 : decode cL_law 1039 = .ok (.iload_n 3, 1) := by decide +kernel
theorem dL_law_1040 : decode cL_law 1040 = .ok (.iconst 2, 1) := by decide +kernel
theorem dL_law_1041 : decode cL_law 1041 = .ok (.iadd, 1) := by decide +kernel
theorem dL_law_1042 : decode cL_law 1042 = .ok (.iaload, 1) := by decide +kernel
theorem dL_law_1043 : decode cL_law 1043 = .ok (.invokevirtual 102, 3) := by decide +kernel
theorem dL_law_1046 : decode cL_law 1046 = .ok (.if_icmp .eq 127, 3) := by decide +kernel
theorem dL_law_1049 : decode cL_law 1049 = .ok (.iconst 0, 1) := by decide +kernel
theorem dL_law_1050 : decode cL_law 1050 = .ok (.ireturn, 1) := by decide +kernel
theorem dL_law_1051 : decode cL_law 1051 = .ok (.aload_n 1, 1) := by decide +kernel
theorem dL_law_1052 : decode cL_law 1052 = .ok (.aload_n 0, 1) := by decide +kernel
theorem dL_law_1053 : decode cL_law 1053 = .ok (.iload_n 3, 1) := by decide +kernel
theorem dL_law_1054 : decode cL_law 1054 = .ok (.iconst 1, 1) := by decide +kernel
theorem dL_law_1055 : decode cL_law 1055 = .ok (.iadd, 1) := by decide +kernel
theorem dL_law_1056 : decode cL_law 1056 = .ok (.iaload, 1) := by decide +kernel
theorem dL_law_1057 : decode cL_law 1057 = .ok (.aload_n 0, 1) := by decide +kernel
theorem dL_law_1058 : decode cL_law 1058 = .ok (.iload_n 3, 1) := by decide +kernel
theorem dL_law_1059 : decode cL_law 1059 = .ok (.iconst 2, 1) := by decide +kernel
theorem dL_law_1060 : decode cL_law 1060 = .ok (.iadd, 1) := by decide +kernel
theorem dL_law_1061 : decode cL_law 1061 = .ok (.iaload, 1) := by decide +kernel
theorem dL_law_1062 : decode cL_law 1062 = .ok (.aload_n 0, 1) := by decide +kernel
theorem dL_law_1063 : decode cL_law 1063 = .ok (.iload_n 3, 1) := by decide +kernel
theorem dL_law_1064 : decode cL_law 1064 = .ok (.iconst 3, 1) := by decide +kernel
theorem dL_law_1065 : decode cL_law 1065 = .ok (.iadd, 1) := by decide +kernel
theorem dL_law_1066 : decode cL_law 1066 = .ok (.iaload, 1) := by decide +kernel
theorem dL_law_1067 : decode cL_law 1067 = .ok (.aload_n 0, 1) := by decide +kernel
theorem dL_law_1068 : decode cL_law 1068 = .ok (.iload_n 3, 1) := by decide +kernel
theorem dL_law_1069 : decode cL_law 1069 = .ok (.iconst 4, 1) := by decide +kernel
theorem dL_law_1070 : decode cL_law 1070 = .ok (.iadd, 1) := by decide +kernel
theorem dL_law_1071 : decode cL_law 1071 = .ok (.iaload, 1) := by decide +kernel
theorem dL_law_1072 : decode cL_law 1072 = .ok (.invokevirtual 103, 3) := by decide +kernel
theorem dL_law_1075 : decode cL_law 1075 = .ok (.aload_n 2, 1) := by decide +kernel
theorem dL_law_1076 : decode cL_law 1076 = .ok (.aload_n 0, 1) := by decide +kernel
theorem dL_law_1077 : decode cL_law 1077 = .ok (.iload_n 3, 1) := by decide +kernel
theorem dL_law_1078 : decode cL_law 1078 = .ok (.iconst 1, 1) := by decide +kernel
theorem dL_law_1079 : decode cL_law 1079 = .ok (.iadd, 1) := by decide +kernel
theorem dL_law_1080 : decode cL_law 1080 = .ok (.iaload, 1) := by decide +kernel
theorem dL_law_1081 : decode cL_law 1081 = .ok (.aload_n 0, 1) := by decide +kernel
theorem dL_law_1082 : decode cL_law 1082 = .ok (.iload_n 3, 1) := by decide +kernel
theorem dL_law_1083 : decode cL_law 1083 = .ok (.iconst 2, 1) := by decide +kernel
theorem dL_law_1084 : decode cL_law 1084 = .ok (.iadd, 1) := by decide +kernel
theorem dL_law_1085 : decode cL_law 1085 = .ok (.iaload, 1) := by decide +kernel
theorem dL_law_1086 : decode cL_law 1086 = .ok (.aload_n 0, 1) := by decide +kernel
theorem dL_law_1087 : decode cL_law 1087 = .ok (.iload_n 3, 1) := by decide +kernel
theorem dL_law_1088 : decode cL_law 1088 = .ok (.iconst 3, 1) := by decide +kernel
theorem dL_law_1089 : decode cL_law 1089 = .ok (.iadd, 1) := by decide +kernel
theorem dL_law_1090 : decode cL_law 1090 = .ok (.iaload, 1) := by decide +kernel
theorem dL_law_1091 : decode cL_law 1091 = .ok (.aload_n 0, 1) := by decide +kernel
theorem dL_law_1092 : decode cL_law 1092 = .ok (.iload_n 3, 1) := by decide +kernel
theorem dL_law_1093 : decode cL_law 1093 = .ok (.iconst 4, 1) := by decide +kernel
theorem dL_law_1094 : decode cL_law 1094 = .ok (.iadd, 1) := by decide +kernel
theorem dL_law_1095 : decode cL_law 1095 = .ok (.iaload, 1) := by decide +kernel
theorem dL_law_1096 : decode cL_law 1096 = .ok (.invokevirtual 106, 3) := by decide +kernel
theorem dL_law_1099 : decode cL_law 1099 = .ok (.if_icmp .eq 74, 3) := by decide +kernel
theorem dL_law_1102 : decode cL_law 1102 = .ok (.iconst 0, 1) := by decide +kernel
theorem dL_law_1103 : decode cL_law 1103 = .ok (.ireturn, 1) := by decide +kernel
theorem dL_law_1104 : decode cL_law 1104 = .ok (.aload_n 1, 1) := by decide +kernel
theorem dL_law_1105 : decode cL_law 1105 = .ok (.aload_n 0, 1) := by decide +kernel
theorem dL_law_1106 : decode cL_law 1106 = .ok (.iload_n 3, 1) := by decide +kernel
theorem dL_law_1107 : decode cL_law 1107 = .ok (.iconst 1, 1) := by decide +kernel
theorem dL_law_1108 : decode cL_law 1108 = .ok (.iadd, 1) := by decide +kernel
theorem dL_law_1109 : decode cL_law 1109 = .ok (.iaload, 1) := by decide +kernel
theorem dL_law_1110 : decode cL_law 1110 = .ok (.invokevirtual 107, 3) := by decide +kernel
theorem dL_law_1113 : decode cL_law 1113 = .ok (.aload_n 2, 1) := by decide +kernel
theorem dL_law_1114 : decode cL_law 1114 = .ok (.aload_n 0, 1) := by decide +kernel
theorem dL_law_1115 : decode cL_law 1115 = .ok (.iload_n 3, 1) := by decide +kernel
theorem dL_law_1116 : decode cL_law 1116 = .ok (.iconst 1, 1) := by decide +kernel
theorem dL_law_1117 : decode cL_law 1117 = .ok (.iadd, 1) := by decide +kernel
theorem dL_law_1118 : decode cL_law 1118 = .ok (.iaload, 1) := by decide +kernel
theorem dL_law_1119 : decode cL_law 1119 = .ok (.invokevirtual 110, 3) := by decide +kernel
theorem dL_law_1122 : decode cL_law 1122 = .ok (.if_icmp .eq 51, 3) := by decide +kernel
theorem dL_law_1125 : decode cL_law 1125 = .ok (.iconst 0, 1) := by decide +kernel
theorem dL_law_1126 : decode cL_law 1126 = .ok (.ireturn, 1) := by decide +kernel
theorem dL_law_1127 : decode cL_law 1127 = .ok (.aload_n 1, 1) := by decide +kernel
theorem dL_law_1128 : decode cL_law 1128 = .ok (.aload_n 0, 1) := by decide +kernel
theorem dL_law_1129 : decode cL_law 1129 = .ok (.iload_n 3, 1) := by decide +kernel
theorem dL_law_1130 : decode cL_law 1130 = .ok (.iconst 1, 1) := by decide +kernel
theorem dL_law_1131 : decode cL_law 1131 = .ok (.iadd, 1) := by decide +kernel
theorem dL_law_1132 : decode cL_law 1132 = .ok (.iaload, 1) := by decide +kernel
theorem dL_law_1133 : decode cL_law 1133 = .ok (.invokevirtual 111, 3) := by decide +kernel
theorem dL_law_1136 : decode cL_law 1136 = .ok (.aload_n 2, 1) := by decide +kernel
theorem dL_law_1137 : decode cL_law 1137 = .ok (.aload_n 0, 1) := by decide +kernel
theorem dL_law_1138 : decode cL_law 1138 = .ok (.iload_n 3, 1) := by decide +kernel
theorem dL_law_1139 : decode cL_law 1139 = .ok (.iconst 1, 1) := by decide +kernel
theorem dL_law_1140 : decode cL_law 1140 = .ok (.iadd, 1) := by decide +kernel
theorem dL_law_1141 : decode cL_law 1141 = .ok (.iaload, 1) := by decide +kernel
theorem dL_law_1142 : decode cL_law 1142 = .ok (.invokevirtual 114, 3) := by decide +kernel
theorem dL_law_1145 : decode cL_law 1145 = .ok (.if_icmp .eq 28, 3) := by decide +kernel
theorem dL_law_1148 : decode cL_law 1148 = .ok (.iconst 0, 1) := by decide +kernel
theorem dL_law_1149 : decode cL_law 1149 = .ok (.ireturn, 1) := by decide +kernel
theorem dL_law_1150 : decode cL_law 1150 = .ok (.aload_n 1, 1) := by decide +kernel
theorem dL_law_1151 : decode cL_law 1151 = .ok (.aload_n 0, 1) := by decide +kernel
theorem dL_law_1152 : decode cL_law 1152 = .ok (.iload_n 3, 1) := by decide +kernel
theorem dL_law_1153 : decode cL_law 1153 = .ok (.iconst 1, 1) := by decide +kernel
theorem dL_law_1154 : decode cL_law 1154 = .ok (.iadd, 1) := by decide +kernel
theorem dL_law_1155 : decode cL_law 1155 = .ok (.iaload, 1) := by decide +kernel
theorem dL_law_1156 : decode cL_law 1156 = .ok (.invokevirtual 115, 3) := by decide +kernel
theorem dL_law_1159 : decode cL_law 1159 = .ok (.aload_n 2, 1) := by decide +kernel
theorem dL_law_1160 : decode cL_law 1160 = .ok (.aload_n 0, 1) := by decide +kernel
theorem dL_law_1161 : decode cL_law 1161 = .ok (.iload_n 3, 1) := by decide +kernel
theorem dL_law_1162 : decode cL_law 1162 = .ok (.iconst 1, 1) := by decide +kernel
theorem dL_law_1163 : decode cL_law 1163 = .ok (.iadd, 1) := by decide +kernel
theorem dL_law_1164 : decode cL_law 1164 = .ok (.iaload, 1) := by decide +kernel
theorem dL_law_1165 : decode cL_law 1165 = .ok (.invokevirtual 118, 3) := by decide +kernel
theorem dL_law_1168 : decode cL_law 1168 = .ok (.if_icmp .eq 5, 3) := by decide +kernel
theorem dL_law_1171 : decode cL_law 1171 = .ok (.iconst 0, 1) := by decide +kernel
theorem dL_law_1172 : decode cL_law 1172 = .ok (.ireturn, 1) := by decide +kernel
theorem dL_law_1173 : decode cL_law 1173 = .ok (.iinc 3 6, 3) := by decide +kernel
theorem dL_law_1176 : decode cL_law 1176 = .ok (.goto (-1158), 3) := by decide +kernel
theorem dL_law_1179 : decode cL_law 1179 = .ok (.iconst 1, 1) := by decide +kernel
theorem dL_law_1180 : decode cL_law 1180 = .ok (.ireturn, 1) := by decide +kernel
end
section
-- THE POOL: all cells of the system, by their addresses; contents without the tables' numbers
abbrev AE : Type := (Nat × vp_A) ⊕ (Nat × List Value)
abbrev Hp : Type := List Nat × (Nat → AE)
def cvE (kA : Nat → ClassId) (e : AE) : va_E := match e with
  | .inl a => .inl (kA a.1, a.2)
  | .inr o => .inr o
def hw (kA : Nat → ClassId) (X : Hp) : va_W := va_pl X.1 (fun a => cvE kA (X.2 a))
def Hs (X : Hp) (a : Nat) (e : AE) : Prop := a ∈ X.1 ∧ X.2 a = e
def hput (X : Hp) (a : Nat) (e : AE) : Hp := (X.1, va_up X.2 a e)
def hadd (X : Hp) (a : Nat) (e : AE) : Hp := (X.1 ++ [a], va_up X.2 a e)
theorem hw_get {kA : Nat → ClassId} {X : Hp} {a : Nat} {e : AE} (h : Hs X a e) : ∃ k : Nat, (hw kA X)[k]? = some (a, cvE kA e) := by
  obtain ⟨k, hk⟩ := va_pl_get (X := []) (f := fun a => cvE kA (X.2 a)) h.1
  refine ⟨k, ?_⟩
  rw [← h.2]
  exact hk
theorem hw_set {kA : Nat → ClassId} {X : Hp} {A : Nat → Prop} {a k : Nat} {e e' : AE} (hD : va_D A (hw kA X)) (h : Hs X a e) (hk : (hw kA X)[k]? = some (a, cvE kA e)) : (hw kA X).set k (a, cvE kA e') = hw kA (hput X a e') := by
  have hk2 : ([] ++ va_pl X.1 (fun a => cvE kA (X.2 a)))[k]? = some (a, (fun a => cvE kA (X.2 a)) a) := by
    show (hw kA X)[k]? = some (a, cvE kA (X.2 a))
    rw [h.2]
    exact hk
  have h3 := va_pl_set (X := []) (e := cvE kA e') hD h.1 hk2
  have h4 : (hw kA X).set k (a, cvE kA e') = va_pl X.1 (va_up (fun a => cvE kA (X.2 a)) a (cvE kA e')) := h3
  rw [h4]
  refine va_pl_congr (fun b => ?_)
  by_cases hb : b = a
  · subst hb
    simp [va_up, hput]
  · simp [va_up, hput, hb]
theorem hw_push {kA : Nat → ClassId} {X : Hp} {a : Nat} {e : AE} (h : a ∉ X.1) : hw kA X ++ [(a, cvE kA e)] = hw kA (hadd X a e) := by
  have h3 := va_pl_push (L := X.1) (f := fun a => cvE kA (X.2 a)) (e := cvE kA e) h
  have h4 : hw kA X ++ [(a, cvE kA e)] = va_pl (X.1 ++ [a]) (va_up (fun a => cvE kA (X.2 a)) a (cvE kA e)) := h3
  rw [h4]
  refine va_pl_congr (fun b => ?_)
  by_cases hb : b = a
  · subst hb
    simp [va_up, hadd]
  · simp [va_up, hadd, hb]
-- THE WORDS: those that go along with every call, and those of nest mates and of arrays of references
def gd : List Cond := lw_tbl.filter goodWord
def isX (w : Cond) : Bool := match w with
  | .fieldLinkNest .. => true
  | .methodLinkNest .. => true
  | .arrayOver (.object _) => true
  | _ => false
def xw : List Cond := tables_1.filter isX
theorem gd_t {w : Cond} (i : Nat) (h : tables_1[i]? = some w) (hg : goodWord w = true) : w ∈ gd := List.mem_filter.mpr ⟨List.mem_append_right _ (List.mem_of_getElem? h), hg⟩
theorem gd_s {w : Cond} (i : Nat) (h : (k2_sels lw_privs)[i]? = some w) (hg : goodWord w = true) : w ∈ gd := List.mem_filter.mpr ⟨List.mem_append_left _ (List.mem_of_getElem? h), hg⟩
theorem xw_t {w : Cond} (i : Nat) (h : tables_1[i]? = some w) (hg : isX w = true) : w ∈ xw := List.mem_filter.mpr ⟨List.mem_of_getElem? h, hg⟩
theorem gd_good : GoodIn gd gd := fun w h => ⟨h, good_of_word (List.mem_filter.mp h).2⟩
theorem gd_code {w : Cond} (h : w ∈ gd) : GoodIn gd (w :: gd) := fun v hv => (List.mem_cons.mp hv).elim (fun e => by subst e; exact gd_good _ h) (fun h => gd_good v h)
theorem xw_warm {s U : State} (hW : s.WarmedH U.vm) (h : ∀ w ∈ xw, va_Nw w s) : ∀ w ∈ xw, va_Nw w U := by
  intro w hw
  have h1 := h w hw
  have h2 := (List.mem_filter.mp hw).2
  match w, h1, h2 with
  | .fieldLinkNest .., h1, _ => exact va_Nw.warmF hW h1
  | .methodLinkNest .., h1, _ => exact va_Nw.warmM hW h1
  | .arrayOver (.object C), h1, _ => exact va_AO.moved hW.alike h1
theorem xw_vm {u U : State} (e : u.vm = U.vm) (h : ∀ w ∈ xw, va_Nw w u) : ∀ w ∈ xw, va_Nw w U := by
  intro w hw
  have h1 := h w hw
  have h2 := (List.mem_filter.mp hw).2
  match w, h1, h2 with
  | .fieldLinkNest .., h1, _ => exact va_Nw.same rfl e h1
  | .methodLinkNest .., h1, _ => exact va_Nw.same rfl e h1
  | .arrayOver (.object C), h1, _ => exact va_AO.moved (by rw [e]; exact Vm.Alike.refl _) h1
def ty6 (kA : Nat → ClassId) : List (ClassId × FieldType) := [(kA 0, .int), (kA 1, .boolean), (kA 2, .object "NapVoyage$Chart"), (kA 3, .object "NapVoyage$Plan"), (kA 4, .object "NapVoyage$Plane"), (kA 5, .object "NapVoyage$Way")]
/-- what a method's walk stands on -/
def Gx (p : Program) (s : State) (m : MethodId) (args : Array Value) (c : Code) (cc : ByteArray) (nL : Nat) (own : String) (D : va_G) (kA : Nat → ClassId) : Prop :=
  p.tables.exec = Jvm.exec ∧ c.code = cc ∧ c.maxLocals = nL ∧ s.vm.findClass own = some m.cls ∧ (∀ w ∈ gd, w.before args s = true) ∧ (∀ w ∈ xw, va_Nw w s) ∧ va_K D vwCl (ty6 kA) s
/-- the pool in the heap, apart, and since H0 nothing outside A has changed -/
def Sx (D : va_G) (kA : Nat → ClassId) (A : Nat → Prop) (H0 H : Heap) (locs : List Loc) (X : Hp) : Prop := va_P D vwCl (hw kA X) H ∧ va_D A (hw kA X) ∧ va_S A H0 H locs
-- a field's link: its class's number in vwCl, its slot
def FL (own : String) (idx ci k : Nat) : Prop := ∃ (C : String) (T : u_T) (N : Nat), vwCl[ci]? = some (C, T, N) ∧ k < N ∧ (∀ w ∈ u_ws C T N, w ∈ gd) ∧ (Cond.fieldLink own idx (T k).1 (T k).2.1 (T k).2.2.1 ∈ gd ∨ ∃ host, Cond.fieldLinkNest own idx (T k).1 (T k).2.1 (T k).2.2.1 host ∈ xw)
def FW (own : String) (idx ci k : Nat) (ty : FieldType) : Prop := ∃ (C : String) (T : u_T) (N : Nat) (ty0 : Nat → FieldType), vwCl[ci]? = some (C, T, N) ∧ k < N ∧ (∀ w ∈ u_ws C T N, w ∈ gd) ∧ (∀ k, k < N → parseFieldDescriptor (T k).2.2.1 = some (ty0 k)) ∧ (∀ a, a < N → ∀ b, b < N → a ≠ b → (T a).2.1 ≠ (T b).2.1) ∧ (T k).2.2.2 = false ∧ parseFieldDescriptor (T k).2.2.1 = some ty ∧ (Cond.fieldLink own idx (T k).1 (T k).2.1 (T k).2.2.1 ∈ gd ∨ ∃ host, Cond.fieldLinkNest own idx (T k).1 (T k).2.1 (T k).2.2.1 host ∈ xw)
def FF (own : String) (idx ci k : Nat) (ty : FieldType) : Prop := ∃ (C : String) (T : u_T) (N : Nat) (ty0 : Nat → FieldType), vwCl[ci]? = some (C, T, N) ∧ k < N ∧ (∀ w ∈ u_ws C T N, w ∈ gd) ∧ (∀ k, k < N → parseFieldDescriptor (T k).2.2.1 = some (ty0 k)) ∧ (∀ a, a < N → ∀ b, b < N → a ≠ b → (T a).2.1 ≠ (T b).2.1) ∧ (T k).2.2.2 = true ∧ (T k).1 = own ∧ parseFieldDescriptor (T k).2.2.1 = some ty ∧ Cond.fieldLink own idx (T k).1 (T k).2.1 (T k).2.2.1 ∈ gd
section PX
variable {p : Program} {l : Launch} {e : Env} {R : Room} {s : State} {m : MethodId} {args : Array Value} {below : List Frame} {meth : Method} {c : Code} {H H0 : Heap} {locs : List Loc} {cells slots : Nat} {Q : State → Prop} {cc : ByteArray} {nL pc : Nat} {ls : Array Slot} {rest : List Value} {own : String} {D : va_G} {kA : Nat → ClassId} {A : Nat → Prop} {X : Hp} {a ci k idx : Nat} {fs : List Value} {v : Value}
theorem x_get (G : Gx p s m args c cc nL own D kA) (hP : va_P D vwCl (hw kA X) H) (hs : Hs X a (.inr (ci, fs))) (hv : fs[k]? = some v) (hf : FL own idx ci k) (hdg : decode cc pc = .ok (.getfield idx, 3))
    (kk : W p l e R s m args below meth c H locs cells slots Q (F0 m (pc + 3) ls (v :: rest))) : W p l e R s m args below meth c H locs cells slots Q (F0 m pc ls (.ref a :: rest)) := by
  obtain ⟨hx, hb, hml, hown, hts, hE, hK⟩ := G
  obtain ⟨C, T, N, hc, hk, hin, hl⟩ := hf
  obtain ⟨q0, he⟩ := hw_get (kA := kA) hs
  rcases hl with hl | ⟨host, hl⟩
  · exact va_get hx hb hts hin hown hK hP q0 he hc k hk (hts _ hl) (fun _ h9 => h9) hv hdg kk
  · exact va_getN hx hb hts hin hown hK hP q0 he hc k hk (va_Nw.use rfl (hE _ hl)) (fun _ h9 => h9) hv hdg kk
theorem x_put {ty : FieldType} (G : Gx p s m args c cc nL own D kA) (S : Sx D kA A H0 H locs X) (hs : Hs X a (.inr (ci, fs))) (hk2 : k < fs.length) (hn : narrow ty v = v) (hfit : fits ty v = true) (hf : FW own idx ci k ty) (hdg : decode cc pc = .ok (.putfield idx, 3))
    (kk : ∀ (H1 : Heap) (locs1 : List Loc), Sx D kA A H0 H1 locs1 (hput X a (.inr (ci, fs.set k v))) → W p l e R s m args below meth c H1 locs1 cells slots Q (F0 m (pc + 3) ls rest)) : W p l e R s m args below meth c H locs cells slots Q (F0 m pc ls (v :: .ref a :: rest)) := by
  obtain ⟨hx, hb, hml, hown, hts, hE, hK⟩ := G
  obtain ⟨hP, hD, hS⟩ := S
  obtain ⟨C, T, N, ty0, hc, hk, hin, hty, hnm, hfin, hd, hl⟩ := hf
  obtain ⟨q0, he⟩ := hw_get (kA := kA) hs
  have e2 := hw_set (e' := .inr (ci, fs.set k v)) hD hs he
  rcases hl with hl | ⟨host, hl⟩
  · exact va_put hx hb hts hin ty0 hty hnm hown hK hP hD hS q0 he hc k hk (hts _ hl) (fun _ h9 => h9) hfin hd hn hfit hk2 hdg (fun H1 locs1 h1 h2 h3 => kk H1 locs1 ⟨by rw [← e2]; exact h1, by rw [← e2]; exact h2, h3⟩)
  · exact va_putN hx hb hts hin ty0 hty hnm hown hK hP hD hS q0 he hc k hk (va_Nw.use rfl (hE _ hl)) (fun _ h9 => h9) hfin hd hn hfit hk2 hdg (fun H1 locs1 h1 h2 h3 => kk H1 locs1 ⟨by rw [← e2]; exact h1, by rw [← e2]; exact h2, h3⟩)
theorem x_putF {ty : FieldType} (G : Gx p s m args c cc nL own D kA) (hin2 : meth.name = "<init>") (S : Sx D kA A H0 H locs X) (hs : Hs X a (.inr (ci, fs))) (hk2 : k < fs.length) (hn : narrow ty v = v) (hfit : fits ty v = true) (hf : FF own idx ci k ty) (hdg : decode cc pc = .ok (.putfield idx, 3))
    (kk : ∀ (H1 : Heap) (locs1 : List Loc), Sx D kA A H0 H1 locs1 (hput X a (.inr (ci, fs.set k v))) → W p l e R s m args below meth c H1 locs1 cells slots Q (F0 m (pc + 3) ls rest)) : W p l e R s m args below meth c H locs cells slots Q (F0 m pc ls (v :: .ref a :: rest)) := by
  obtain ⟨hx, hb, hml, hown, hts, hE, hK⟩ := G
  obtain ⟨hP, hD, hS⟩ := S
  obtain ⟨C, T, N, ty0, hc, hk, hin, hty, hnm, hfin, hdc, hd, hl⟩ := hf
  obtain ⟨q0, he⟩ := hw_get (kA := kA) hs
  have e2 := hw_set (e' := .inr (ci, fs.set k v)) hD hs he
  exact va_putF hx hb hts hin ty0 hty hnm hown hK hP hD hS q0 he hc k hk (hts _ hl) (fun _ h9 => h9) hfin hin2 hdc hd hn hfit hk2 hdg (fun H1 locs1 h1 h2 h3 => kk H1 locs1 ⟨by rw [← e2]; exact h1, by rw [← e2]; exact h2, h3⟩)
theorem x_iald (G : Gx p s m args c cc nL own D kA) (hP : va_P D vwCl (hw kA X) H) {n : Nat} {f : Nat → Int32} {i : Int32} (hs : Hs X a (.inl (0, n, .inl f))) (hin : vp_in i n) (hdg : decode cc pc = .ok (.iaload, 1))
    (kk : W p l e R s m args below meth c H locs cells slots Q (F0 m (pc + 1) ls (.int (f i.toNatClampNeg) :: rest))) : W p l e R s m args below meth c H locs cells slots Q (F0 m pc ls (.int i :: .ref a :: rest)) := by
  obtain ⟨hx, hb, hml, hown, hts, hE, hK⟩ := G
  obtain ⟨q0, he⟩ := hw_get (kA := kA) hs
  exact va_iald hx hb hK hP q0 0 he rfl hin hdg kk
theorem x_zald (G : Gx p s m args c cc nL own D kA) (hP : va_P D vwCl (hw kA X) H) {n : Nat} {f : Nat → Int32} {i : Int32} (hs : Hs X a (.inl (1, n, .inl f))) (hin : vp_in i n) (hdg : decode cc pc = .ok (.baload, 1))
    (kk : W p l e R s m args below meth c H locs cells slots Q (F0 m (pc + 1) ls (.int (f i.toNatClampNeg) :: rest))) : W p l e R s m args below meth c H locs cells slots Q (F0 m pc ls (.int i :: .ref a :: rest)) := by
  obtain ⟨hx, hb, hml, hown, hts, hE, hK⟩ := G
  obtain ⟨q0, he⟩ := hw_get (kA := kA) hs
  exact va_zald hx hb hK hP q0 1 he rfl hin hdg kk
theorem x_iast (G : Gx p s m args c cc nL own D kA) (S : Sx D kA A H0 H locs X) {n : Nat} {f : Nat → Int32} {i x : Int32} (hs : Hs X a (.inl (0, n, .inl f))) (hin : vp_in i n) (hdg : decode cc pc = .ok (.iastore, 1))
    (kk : ∀ (H1 : Heap) (locs1 : List Loc), Sx D kA A H0 H1 locs1 (hput X a (.inl (0, n, .inl (upd f i.toNatClampNeg x)))) → W p l e R s m args below meth c H1 locs1 cells slots Q (F0 m (pc + 1) ls rest)) : W p l e R s m args below meth c H locs cells slots Q (F0 m pc ls (.int x :: .int i :: .ref a :: rest)) := by
  obtain ⟨hx, hb, hml, hown, hts, hE, hK⟩ := G
  obtain ⟨hP, hD, hS⟩ := S
  obtain ⟨q0, he⟩ := hw_get (kA := kA) hs
  have e2 := hw_set (e' := .inl (0, n, .inl (upd f i.toNatClampNeg x))) hD hs he
  exact va_iast hx hb hK hP hD hS q0 0 he rfl hin hdg (fun H1 locs1 h1 h2 h3 => kk H1 locs1 ⟨by rw [← e2]; exact h1, by rw [← e2]; exact h2, h3⟩)
theorem x_zast (G : Gx p s m args c cc nL own D kA) (S : Sx D kA A H0 H locs X) {n : Nat} {f : Nat → Int32} {i x : Int32} (hs : Hs X a (.inl (1, n, .inl f))) (hin : vp_in i n) (hdg : decode cc pc = .ok (.bastore, 1))
    (kk : ∀ (H1 : Heap) (locs1 : List Loc), Sx D kA A H0 H1 locs1 (hput X a (.inl (1, n, .inl (upd f i.toNatClampNeg (vp_nar .boolean x))))) → W p l e R s m args below meth c H1 locs1 cells slots Q (F0 m (pc + 1) ls rest)) : W p l e R s m args below meth c H locs cells slots Q (F0 m pc ls (.int x :: .int i :: .ref a :: rest)) := by
  obtain ⟨hx, hb, hml, hown, hts, hE, hK⟩ := G
  obtain ⟨hP, hD, hS⟩ := S
  obtain ⟨q0, he⟩ := hw_get (kA := kA) hs
  have e2 := hw_set (e' := .inl (1, n, .inl (upd f i.toNatClampNeg (vp_nar .boolean x)))) hD hs he
  exact va_zast hx hb hK hP hD hS q0 1 he rfl hin hdg (fun H1 locs1 h1 h2 h3 => kk H1 locs1 ⟨by rw [← e2]; exact h1, by rw [← e2]; exact h2, h3⟩)
abbrev qA (f : Nat → Option Nat) : (Nat → Int32) ⊕ (Nat → Int64) ⊕ (Nat → UInt32) ⊕ (Nat → UInt64) ⊕ (Nat → Option Nat) := .inr (.inr (.inr (.inr f)))
theorem x_aald (G : Gx p s m args c cc nL own D kA) (hP : va_P D vwCl (hw kA X) H) {t n : Nat} {C : String} {f : Nat → Option Nat} {i : Int32} (hs : Hs X a (.inl (t, n, qA f))) (ht : (ty6 kA)[t]? = some (kA t, .object C)) (hin : vp_in i n) (hdg : decode cc pc = .ok (.aaload, 1))
    (kk : W p l e R s m args below meth c H locs cells slots Q (F0 m (pc + 1) ls (va_rf (f i.toNatClampNeg) :: rest))) : W p l e R s m args below meth c H locs cells slots Q (F0 m pc ls (.int i :: .ref a :: rest)) := by
  obtain ⟨hx, hb, hml, hown, hts, hE, hK⟩ := G
  obtain ⟨q0, he⟩ := hw_get (kA := kA) hs
  exact va_aldq hx hb hK hP q0 t he ht hin hdg kk
theorem x_aast (G : Gx p s m args c cc nL own D kA) (S : Sx D kA A H0 H locs X) {t n b : Nat} {r : vw_C} {f : Nat → Option Nat} {i : Int32} (hs : Hs X a (.inl (t, n, qA f))) (ht : (ty6 kA)[t]? = some (kA t, .object r.1)) (hs2 : Hs X b (.inr (ci, fs))) (hc : vwCl[ci]? = some r) (hin : vp_in i n) (hdg : decode cc pc = .ok (.aastore, 1))
    (kk : ∀ (H1 : Heap) (locs1 : List Loc), Sx D kA A H0 H1 locs1 (hput X a (.inl (t, n, qA (va_up f i.toNatClampNeg (some b))))) → W p l e R s m args below meth c H1 locs1 cells slots Q (F0 m (pc + 1) ls rest)) : W p l e R s m args below meth c H locs cells slots Q (F0 m pc ls (.ref b :: .int i :: .ref a :: rest)) := by
  obtain ⟨hx, hb, hml, hown, hts, hE, hK⟩ := G
  obtain ⟨hP, hD, hS⟩ := S
  obtain ⟨q0, he⟩ := hw_get (kA := kA) hs
  obtain ⟨q1, he1⟩ := hw_get (kA := kA) hs2
  have e2 := hw_set (e' := .inl (t, n, qA (va_up f i.toNatClampNeg (some b)))) hD hs he
  exact va_astq hx hb hK hP hD hS q0 t q1 ci he ht he1 hc hin hdg (fun H1 locs1 h1 h2 h3 => kk H1 locs1 ⟨by rw [← e2]; exact h1, by rw [← e2]; exact h2, h3⟩)
theorem x_alen (G : Gx p s m args c cc nL own D kA) (hP : va_P D vwCl (hw kA X) H) {t n : Nat} {ty : FieldType} {z : (Nat → Int32) ⊕ (Nat → Int64) ⊕ (Nat → UInt32) ⊕ (Nat → UInt64) ⊕ (Nat → Option Nat)} (hs : Hs X a (.inl (t, n, z))) (ht : (ty6 kA)[t]? = some (kA t, ty)) (hdg : decode cc pc = .ok (.arraylength, 1))
    (kk : W p l e R s m args below meth c H locs cells slots Q (F0 m (pc + 1) ls (.int (nI n) :: rest))) : W p l e R s m args below meth c H locs cells slots Q (F0 m pc ls (.ref a :: rest)) := by
  obtain ⟨hx, hb, hml, hown, hts, hE, hK⟩ := G
  obtain ⟨q0, he⟩ := hw_get (kA := kA) hs
  exact va_alen hx hb hK hP q0 t he ht rfl hdg kk
end PX
end
section
section PN
variable {p : Program} {l : Launch} {e : Env} {R : Room} {s : State} {m : MethodId} {args : Array Value} {below : List Frame} {meth : Method} {c : Code} {H H0 : Heap} {locs : List Loc} {cells slots : Nat} {Q : State → Prop} {cc : ByteArray} {nL pc : Nat} {ls : Array Slot} {rest : List Value} {own : String} {D : va_G} {kA : Nat → ClassId} {A : Nat → Prop} {X : Hp} {a ci k idx : Nat} {fs : List Value} {v : Value}
theorem Sx.fresh {q : Nat} {e' : AE} (hD : va_D A (hw kA X ++ [(q, cvE kA e')])) : q ∉ X.1 := va_pl_fresh2 (X := []) (L := X.1) (f := fun a => cvE kA (X.2 a)) (q := q) (e := cvE kA e') hD
/-- a class that can be made: its number, its slots' values at birth -/
def NW (own : String) (idx ci N : Nat) (fs : List Value) : Prop := ∃ (C : String) (T : u_T) (ty : Nat → FieldType), vwCl[ci]? = some (C, T, N) ∧ (∀ w ∈ u_ws C T N, w ∈ gd) ∧ (∀ k, k < N → parseFieldDescriptor (T k).2.2.1 = some (ty k)) ∧ Cond.classLink own idx C ∈ gd ∧ Cond.instantiable C N ∈ gd ∧ Cond.initialized C ∈ gd ∧ ∀ j, j < N → defaultValue (ty j) = vp_V fs j
theorem x_new {N : Nat} (G : Gx p s m args c cc nL own D kA) (S : Sx D kA A H0 H locs X) (hA : ∀ q, H0.size ≤ q → A q) (hf : NW own idx ci N fs) (hcells : cells + 1 ≤ R.cells) (hslots : slots + N ≤ R.slots) (hdg : decode cc pc = .ok (.new idx, 3))
    (kk : ∀ (q : Nat) (H1 : Heap), q ∉ X.1 → Sx D kA A H0 H1 locs (hadd X q (.inr (ci, fs))) → W p l e R s m args below meth c H1 locs (cells + 1) (slots + N) Q (F0 m (pc + 3) ls (.ref q :: rest))) : W p l e R s m args below meth c H locs cells slots Q (F0 m pc ls rest) := by
  obtain ⟨hx, hb, hml, hown, hts, hE, hK⟩ := G
  obtain ⟨hP, hD, hS⟩ := S
  obtain ⟨C, T, ty, hc, hin, hty, hl, hi, hn, hfs⟩ := hf
  refine va_new hx hb hts hin ty hty hown (hts _ hl) (hts _ hi) (hts _ hn) hK hP hD hS hA hc hfs hcells hslots hdg (fun q H1 h1 h2 h3 => ?_)
  have hq : q ∉ X.1 := Sx.fresh (e' := .inr (ci, fs)) h2
  have e2 := hw_push (kA := kA) (e := .inr (ci, fs)) hq
  exact kk q H1 hq ⟨by rw [← e2]; exact h1, by rw [← e2]; exact h2, h3⟩
theorem x_newa {atype : ArrayType} {t N' : Nat} {n : Int32} {ty : FieldType} (G : Gx p s m args c cc nL own D kA) (S : Sx D kA A H0 H locs X) (hA : ∀ q, H0.size ≤ q → A q) (hw1 : Cond.arrayClass (newarray.typeOf atype) ∈ gd) (hty : newarray.typeOf atype = ty) (ht : (ty6 kA)[t]? = some (kA t, ty)) (hnr : va_RA s (kA t) ty → s.vm.findClass ("[" ++ ty.toString) = some (kA t)) (hdv : defaultValue ty = .int 0) (hn : ¬ n < 0) (hN : n.toNatClampNeg = N') (hbytes : N' * componentBytes ty ≤ 536870912) (hcells : cells + 1 ≤ R.cells) (hslots : slots + N' ≤ R.slots) (hdg : decode cc pc = .ok (.newarray atype, 2))
    (kk : ∀ (q : Nat) (H1 : Heap), q ∉ X.1 → Sx D kA A H0 H1 locs (hadd X q (.inl (t, N', .inl (fun _ => 0)))) → W p l e R s m args below meth c H1 locs (cells + 1) (slots + N') Q (F0 m (pc + 2) ls (.ref q :: rest))) : W p l e R s m args below meth c H locs cells slots Q (F0 m pc ls (.int n :: rest)) := by
  obtain ⟨hx, hb, hml, hown, hts, hE, hK⟩ := G
  obtain ⟨hP, hD, hS⟩ := S
  refine va_newa (a0 := (N', .inl (fun _ => 0))) hx hb (hts _ hw1) hty hK hP hD hS hA (fun cA => by rw [hdv]; rfl) hn hN hbytes hcells hslots hdg (fun q cA H1 h0 h1 h2 h3 => ?_)
  have hcA : cA = kA t := by
    have e1 := (hK.2 t _ ht).2
    have e2 := (h0.2 6 (cA, ty) rfl).2
    have e3 := hnr e1
    have e4 : s.vm.findClass ("[" ++ ty.toString) = some cA := by
      subst hty
      cases atype <;> exact e2
    rw [e3] at e4
    exact (Option.some.inj e4).symm
  subst hcA
  have hq : q ∉ X.1 := Sx.fresh (e' := .inl (t, N', .inl (fun _ => 0))) h2
  have e2 := hw_push (kA := kA) (e := .inl (t, N', .inl (fun _ => 0))) hq
  exact kk q H1 hq ⟨by rw [← e2]; exact h1, by rw [← e2]; exact h2, h3⟩
theorem x_newq {t N' : Nat} {n : Int32} {C : String} (G : Gx p s m args c cc nL own D kA) (S : Sx D kA A H0 H locs X) (hA : ∀ q, H0.size ≤ q → A q) (hl : Cond.classLink own idx C ∈ gd) (ho : Cond.arrayOver (.object C) ∈ xw) (ht : (ty6 kA)[t]? = some (kA t, .object C)) (hn : ¬ n < 0) (hN : n.toNatClampNeg = N') (hbytes : N' * 4 ≤ 536870912) (hcells : cells + 1 ≤ R.cells) (hslots : slots + N' ≤ R.slots) (hdg : decode cc pc = .ok (.anewarray idx, 3))
    (kk : ∀ (q : Nat) (H1 : Heap), q ∉ X.1 → Sx D kA A H0 H1 locs (hadd X q (.inl (t, N', qA (fun _ => none)))) → W p l e R s m args below meth c H1 locs (cells + 1) (slots + N') Q (F0 m (pc + 3) ls (.ref q :: rest))) : W p l e R s m args below meth c H locs cells slots Q (F0 m pc ls (.int n :: rest)) := by
  obtain ⟨hx, hb, hml, hown, hts, hE, hK⟩ := G
  obtain ⟨hP, hD, hS⟩ := S
  refine va_newq hx hb hown (hts _ hl) (hE _ ho) hK hP hD hS hA hn hN hbytes hcells hslots hdg (fun q cA H1 h0 h1 h2 h3 => ?_)
  have hcA : cA = kA t := by
    obtain ⟨_, _, _, _, _, e3⟩ := (hK.2 t _ ht).2
    obtain ⟨_, _, _, _, _, e4⟩ := (h0.2 6 (cA, .object C) rfl).2
    rw [e3] at e4
    exact (Option.some.inj e4).symm
  subst hcA
  have hq : q ∉ X.1 := Sx.fresh (e' := .inl (t, N', qA (fun _ => none))) h2
  have e2 := hw_push (kA := kA) (e := .inl (t, N', qA (fun _ => none))) hq
  exact kk q H1 hq ⟨by rw [← e2]; exact h1, by rw [← e2]; exact h2, h3⟩
theorem x_min (G : Gx p s m args c cc nL own D kA) (hls : ls.size = nL) (hl : Cond.methodLink own idx Lib.Math.min.name ∈ gd) (h1 : Cond.static Lib.Math.min.name ∈ gd) (h2 : Cond.initialized "java/lang/Math" ∈ gd) (h3 : Cond.code Lib.Math.min.name Lib.Math.min.code 2 (some .int) ∈ gd) (hfr : 1 ≤ R.frames) (hlo : (rest.map fun v => v.category).sum + 13 ≤ R.locals) (hc : cells ≤ R.cells) (hs : slots ≤ R.slots) {x y : Int32} (hdg : decode cc pc = .ok (.invokestatic idx, 3))
    (kk : W p l e R s m args below meth c H locs cells slots Q (F0 m (pc + 3) ls (.int (if y < x then y else x) :: rest))) : W p l e R s m args below meth c H locs cells slots Q (F0 m pc ls (.int y :: .int x :: rest)) := by
  obtain ⟨hx, hb, hml, hown, hts, hE, hK⟩ := G
  exact va_mmin hx hb (by rw [hml, hls]) hown (hts _ hl) (hts _ h1) (hts _ h2) (hts _ h3) hfr hlo hc hs hdg kk
theorem x_max (G : Gx p s m args c cc nL own D kA) (hls : ls.size = nL) (hl : Cond.methodLink own idx Lib.Math.max.name ∈ gd) (h1 : Cond.static Lib.Math.max.name ∈ gd) (h2 : Cond.initialized "java/lang/Math" ∈ gd) (h3 : Cond.code Lib.Math.max.name Lib.Math.max.code 2 (some .int) ∈ gd) (hfr : 1 ≤ R.frames) (hlo : (rest.map fun v => v.category).sum + 13 ≤ R.locals) (hc : cells ≤ R.cells) (hs : slots ≤ R.slots) {x y : Int32} (hdg : decode cc pc = .ok (.invokestatic idx, 3))
    (kk : W p l e R s m args below meth c H locs cells slots Q (F0 m (pc + 3) ls (.int (if x < y then y else x) :: rest))) : W p l e R s m args below meth c H locs cells slots Q (F0 m pc ls (.int y :: .int x :: rest)) := by
  obtain ⟨hx, hb, hml, hown, hts, hE, hK⟩ := G
  exact va_mmax hx hb (by rw [hml, hls]) hown (hts _ hl) (hts _ h1) (hts _ h2) (hts _ h3) hfr hlo hc hs hdg kk
theorem x_copyi (G : Gx p s m args c cc nL own D kA) (S : Sx D kA A H0 H locs X) (hls : ls.size = nL) (hl : Cond.methodLink own idx arraycopyName ∈ gd) (hw1 : Cond.native arraycopyName ∈ gd) (hw2 : Cond.static arraycopyName ∈ gd) (hw3 : Cond.initialized "java/lang/System" ∈ gd)
    {a0 n0 n1 : Nat} {f g : Nat → Int32} (hs0 : Hs X a0 (.inl (0, n0, .inl f))) (hs1 : Hs X a (.inl (0, n1, .inl g))) {sp dp n : Int32} (h1 : ¬ sp < 0) (h2 : ¬ dp < 0) (h3 : ¬ n < 0) (h4 : sp.toNatClampNeg + n.toNatClampNeg ≤ n0) (h5 : dp.toNatClampNeg + n.toNatClampNeg ≤ n1) (hframes : 1 ≤ R.frames) (hlocals : (rest.map fun v => v.category).sum + (nativeFrameWords "java/lang/System" "arraycopy" 5 + 11) ≤ R.locals) (hdg : decode cc pc = .ok (.invokestatic idx, 3))
    (kk : ∀ (H1 : Heap) (locs1 : List Loc), Sx D kA A H0 H1 locs1 (hput X a (.inl (0, n1, .inl (va_cpy f g sp.toNatClampNeg dp.toNatClampNeg n.toNatClampNeg)))) → W p l e R s m args below meth c H1 locs1 cells slots Q (F0 m (pc + 3) ls rest)) : W p l e R s m args below meth c H locs cells slots Q (F0 m pc ls (.int n :: .int dp :: .ref a :: .int sp :: .ref a0 :: rest)) := by
  obtain ⟨hx, hb, hml, hown, hts, hE, hK⟩ := G
  obtain ⟨hP, hD, hS⟩ := S
  obtain ⟨q0, he0⟩ := hw_get (kA := kA) hs0
  obtain ⟨q1, he1⟩ := hw_get (kA := kA) hs1
  have e2 := hw_set (e' := .inl (0, n1, .inl (va_cpy f g sp.toNatClampNeg dp.toNatClampNeg n.toNatClampNeg))) hD hs1 he1
  exact va_copyi (ty := .int) hx hb (by rw [hml, hls]) hown (hts _ hl) (hts _ hw1) (hts _ hw2) (hts _ hw3) hK hP hD hS q0 q1 0 0 he0 he1 rfl rfl rfl h1 h2 h3 h4 h5 (fun _ _ => rfl) hframes hlocals hdg (fun H1 locs1 h1 h2 h3 => kk H1 locs1 ⟨by rw [← e2]; exact h1, by rw [← e2]; exact h2, h3⟩)
end PN
-- CONTRACTS
def Pre (D : va_G) (kA : Nat → ClassId) (X : Hp) (U : State) : Prop := va_P D vwCl (hw kA X) U.heap ∧ va_K D vwCl (ty6 kA) U ∧ ∀ w ∈ xw, va_Nw w U
def PreM (D : va_G) (kA : Nat → ClassId) (X : Hp) (sz : Nat) (U : State) : Prop := U.heap.size = sz ∧ Pre D kA X U ∧ va_D (fun _ => True) (hw kA X)
def PoM (D : va_G) (kA : Nat → ClassId) (X : Hp) (sz : Nat) (X' : Hp) (t : State) : Prop := va_P D vwCl (hw kA X') t.heap ∧ va_D (va_A (hw kA X) sz) (hw kA X')
abbrev rmO (fr mc ms lo : Nat) : Room := { frames := fr, cells := mc, slots := ms, locals := lo }
theorem Pre.blind {D : va_G} {kA : Nat → ClassId} {X : Hp} {av : List Value} : FrameBlind (va_Pc av (Pre D kA X)) := fun a U g mk q => by
  obtain ⟨q0, qP, qK, qX⟩ := q
  exact ⟨q0, qP, va_K.moved (u := U) (U := U.calling g mk a) (Vm.Alike.refl U.vm) qK, xw_vm (u := U) (U := U.calling g mk a) rfl qX⟩
theorem PreM.blind {D : va_G} {kA : Nat → ClassId} {X : Hp} {sz : Nat} {av : List Value} : FrameBlind (va_Pc av (PreM D kA X sz)) := fun a U g mk q => by
  obtain ⟨q0, q1, ⟨qP, qK, qX⟩, qD⟩ := q
  exact ⟨q0, q1, ⟨qP, va_K.moved (u := U) (U := U.calling g mk a) (Vm.Alike.refl U.vm) qK, xw_vm (u := U) (U := U.calling g mk a) rfl qX⟩, qD⟩
-- the links of calls
def MLB (own : String) (idx : Nat) (y : MethodName) (n : Nat) : Prop := (Cond.methodLink own idx y ∈ gd ∨ ∃ host, Cond.methodLinkNest own idx y host ∈ xw) ∧ Cond.initialized y.cls ∈ gd ∧ y.cls ≠ "java/lang/invoke/MethodHandle" ∧ y.cls ≠ "java/lang/invoke/VarHandle" ∧ (parseMethodDescriptor y.desc).map (fun d => d.parameters.length) = some n
def MLS (own : String) (idx : Nat) (y : MethodName) (n : Nat) : Prop := MLB own idx y n ∧ Cond.static y ∈ gd
def MLV (own : String) (idx : Nat) (y : MethodName) (n : Nat) : Prop := MLB own idx y n ∧ Cond.instanceMethod y ∈ gd ∧ Cond.selects y.cls y y ∈ gd
def MLI (own : String) (idx : Nat) (y : MethodName) (n : Nat) : Prop := MLB own idx y n ∧ Cond.instanceMethod y ∈ gd ∧ y.name = "<init>"
section PR
variable {p : Program} {l : Launch} {e : Env} {R : Room} {s : State} {m : MethodId} {args : Array Value} {below : List Frame} {meth : Method} {c : Code} {H H0 : Heap} {locs : List Loc} {cells slots : Nat} {Q : State → Prop} {cc : ByteArray} {nL pc : Nat} {ls : Array Slot} {rest st0 As : List Value} {own : String} {D : va_G} {kA : Nat → ClassId} {A : Nat → Prop} {X : Hp} {b ci idx n mc ms fr lo maxL : Nat} {fs : List Value} {y : MethodName} {bytes : ByteArray} {ret : Option FieldType} {Pc : Array Value → State → Prop} {Qc : Array Value → State → Outcome → State → Prop} {free : Addr → Prop}
theorem x_runS (G : Gx p s m args c cc nL own D kA) (hM : Met l y (.code y bytes maxL ret :: gd) (rmO fr mc ms lo) Pc Qc mc ms free) (hcd : Cond.code y bytes maxL ret ∈ gd) (hl : MLS own idx y n) (hp : PreS s H Pc As) (hR : fr + 1 ≤ R.frames ∧ 8 + (maxL + 11) + lo ≤ R.locals) (hn : As.length = n) (hls : ls.size = nL) (hst : st0 = As.reverse ++ rest) (hW : (rest.map fun v => v.category).sum ≤ 8) (hdg : decode cc pc = .ok (.invokestatic idx, 3)) (hf : cells + mc ≤ R.cells ∧ slots + ms ≤ R.slots) :
    va_Run p l e R s m args below meth c H locs cells slots mc ms (F0 m pc ls st0) rest (Qc As.toArray) free := by
  obtain ⟨hx, hb, hml, hown, hts, hE, hK⟩ := G
  obtain ⟨⟨hl, hi, h1, h2, h3⟩, hs⟩ := hl
  subst hst
  rcases hl with hl | ⟨host, hl⟩
  · exact va_runS ⟨hx, hb, hml, hown, hts⟩ hM ⟨callB_of n hts (gd_code hcd) rfl rfl rfl (hts _ hi) (hts _ hl) ⟨h1, h2, h3⟩ hR, hts _ hs⟩ hp rfl hn hls rfl (lv_room hW) hdg hf
  · exact va_runSN ⟨hx, hb, hml, hown, hts⟩ hM ⟨va_cnB n hts (gd_code hcd) rfl rfl rfl (hE _ hl) (hts _ hi) ⟨h1, h2, h3⟩ hR, hts _ hs, trivial⟩ hp rfl hn hls rfl (lv_room hW) hdg hf
theorem x_runV (G : Gx p s m args c cc nL own D kA) (hP : va_P D vwCl (hw kA X) H) (hs : Hs X b (.inr (ci, fs))) {r : vw_C} (hc : vwCl[ci]? = some r) (hcy : r.1 = y.cls) (hM : Met l y (.code y bytes maxL ret :: gd) (rmO fr mc ms lo) Pc Qc mc ms free) (hcd : Cond.code y bytes maxL ret ∈ gd) (hl : MLV own idx y n) (hp : FrameBlind Pc ∧ ∀ U : State, U.heap = H → s.WarmedH U.vm → Pc (Value.ref b :: As).toArray U) (hR : fr + 1 ≤ R.frames ∧ 8 + (maxL + 11) + lo ≤ R.locals) (hn : As.length = n) (hls : ls.size = nL) (hst : st0 = As.reverse ++ .ref b :: rest) (hW : (rest.map fun v => v.category).sum ≤ 8) (hdg : decode cc pc = .ok (.invokevirtual idx, 3)) (hf : cells + mc ≤ R.cells ∧ slots + ms ≤ R.slots) :
    va_Run p l e R s m args below meth c H locs cells slots mc ms (F0 m pc ls st0) rest (Qc (Value.ref b :: As).toArray) free := by
  obtain ⟨hx, hb, hml, hown, hts, hE, hK⟩ := G
  obtain ⟨⟨hl, hi, h1, h2, h3⟩, hs1, hs2⟩ := hl
  obtain ⟨q0, he⟩ := hw_get (kA := kA) hs
  have hrec := va_recv hK hP hc he
  rw [hcy] at hrec
  subst hst
  rcases hl with hl | ⟨host, hl⟩
  · exact va_runV ⟨hx, hb, hml, hown, hts⟩ hM ⟨callB_of n hts (gd_code hcd) rfl rfl rfl (hts _ hi) (hts _ hl) ⟨h1, h2, h3⟩ hR, hts _ hs1, hts _ hs2⟩ ⟨hp.1, hrec, hp.2⟩ rfl hn hls rfl (lv_room hW) hdg hf
  · exact va_runVN ⟨hx, hb, hml, hown, hts⟩ hM ⟨va_cnB n hts (gd_code hcd) rfl rfl rfl (hE _ hl) (hts _ hi) ⟨h1, h2, h3⟩ hR, hts _ hs1, hts _ hs2⟩ ⟨hp.1, hrec, hp.2⟩ rfl hn hls rfl (lv_room hW) hdg hf
theorem x_runI (G : Gx p s m args c cc nL own D kA) (hM : Met l y (.code y bytes maxL none :: gd) (rmO fr mc ms lo) Pc Qc mc ms free) (hcd : Cond.code y bytes maxL none ∈ gd) (hl : MLI own idx y n) (hp : PreS s H Pc (.ref b :: As)) (hR : fr + 1 ≤ R.frames ∧ 8 + (maxL + 11) + lo ≤ R.locals) (hn : As.length = n) (hls : ls.size = nL) (hst : st0 = As.reverse ++ .ref b :: rest) (hW : (rest.map fun v => v.category).sum ≤ 8) (hdg : decode cc pc = .ok (.invokespecial idx, 3)) (hf : cells + mc ≤ R.cells ∧ slots + ms ≤ R.slots) :
    va_Run p l e R s m args below meth c H locs cells slots mc ms (F0 m pc ls st0) rest (Qc (Value.ref b :: As).toArray) free := by
  obtain ⟨hx, hb, hml, hown, hts, hE, hK⟩ := G
  obtain ⟨⟨hl, hi, h1, h2, h3⟩, hs1, hs2⟩ := hl
  subst hst
  rcases hl with hl | ⟨host, hl⟩
  · exact va_runI ⟨hx, hb, hml, hown, hts⟩ hM ⟨callB_of n hts (gd_code hcd) rfl rfl rfl (hts _ hi) (hts _ hl) ⟨h1, h2, h3⟩ hR, hs2, hts _ hs1⟩ hp rfl hn hls rfl (lv_room hW) hdg hf
  · exact va_runIN ⟨hx, hb, hml, hown, hts⟩ hM ⟨va_cnB n hts (gd_code hcd) rfl rfl rfl (hE _ hl) (hts _ hi) ⟨h1, h2, h3⟩ hR, hs2, hts _ hs1⟩ hp rfl hn hls rfl (lv_room hW) hdg hf
-- what the caller gives
theorem Gx.pre (G : Gx p s m args c cc nL own D kA) (hP : va_P D vwCl (hw kA X) H) {av : List Value} : ∀ U : State, U.heap = H → s.WarmedH U.vm → va_Pc av (Pre D kA X) av.toArray U := by
  obtain ⟨hx, hb, hml, hown, hts, hE, hK⟩ := G
  exact fun U hU hW => ⟨rfl, by rw [hU]; exact hP, va_K.moved hW.alike hK, xw_warm hW hE⟩
theorem Gx.preM (G : Gx p s m args c cc nL own D kA) (S : Sx D kA A H0 H locs X) {av : List Value} : ∀ U : State, U.heap = H → s.WarmedH U.vm → va_Pc av (PreM D kA X H.size) av.toArray U := by
  obtain ⟨hx, hb, hml, hown, hts, hE, hK⟩ := G
  obtain ⟨hP, hD, hS⟩ := S
  exact fun U hU hW => ⟨rfl, by rw [hU], ⟨by rw [hU]; exact hP, va_K.moved hW.alike hK, xw_warm hW hE⟩, hD.weaken (fun _ _ _ _ => trivial)⟩
theorem Sx.fre (S : Sx D kA A H0 H locs X) (hA : ∀ q, H0.size ≤ q → A q) : ∀ q, va_A (hw kA X) H.size q → A q := by
  obtain ⟨hP, hD, hS⟩ := S
  intro q hq
  rcases hq with ⟨k, e', hk⟩ | hq
  · exact hD.2 k _ hk
  · exact hA q (Nat.le_trans hS.1 hq)
theorem Sx.back {X' : Hp} {sz : Nat} {t : State} {H1 : Heap} {locs1 : List Loc} (hF : ∀ q, va_A (hw kA X) sz q → A q) (hB : PoM D kA X sz X' t) (ht : t.heap = H1) (hS1 : va_S A H0 H1 locs1) : Sx D kA A H0 H1 locs1 X' :=
  ⟨by rw [← ht]; exact hB.1, hB.2.weaken (fun k q _ h => hF q.1 h), hS1⟩
end PR
end
section
section PE
variable {l : Launch} {D : va_G} {kA : Nat → ClassId} {X : Hp} {av : List Value} {y : MethodName} {cc : ByteArray} {nL fr lo mc ms sz : Nat} {ret : Option FieldType}
/-- a method that only reads: from its entry -/
theorem x_enR {Qc : Array Value → State → Outcome → State → Prop} (hy : plainName y.cls = true) (hnl : (lg_sl av).length ≤ nL)
    (body : ∀ p e s m below meth c, Gx p s m av.toArray c cc nL y.cls D kA → meth.sig.returnType = ret → meth.locks = false → va_P D vwCl (hw kA X) s.heap → ∀ ls, lv_has ls nL (lv_args 0 av) →
      W p l e (rmO fr 0 0 lo) s m av.toArray below meth c s.heap [] 0 0 (MQ below Qc av.toArray s 0 0 (fun _ => False)) (F0 m 0 ls [])) :
    Met l y (.code y cc nL ret :: gd) (rmO fr 0 0 lo) (va_Pc av (Pre D kA X)) Qc 0 0 (fun _ => False) := by
  refine Met.ofW (cc := cc) (maxL := nL) (ret := ret) hy rfl ?_
  intro p e s m args below meth c s₁ B hml hv
  obtain ⟨rfl, hP, hK, hE⟩ := hv
  have hts := atoms_spec (ws := .code y cc nL ret :: gd) B.pre
  have hl := lv_entry av (n := nL) hnl
  rw [lg_entry_eq]
  exact body p e s m below meth c ⟨B.exec, B.bytes, hml, findClass_of_methodNamed B.named, fun w h => hts w (List.mem_cons_of_mem _ h), hE, hK⟩ B.returns B.notSynchronized hP _ hl
/-- a method that writes: from its entry -/
theorem x_enM {Qc : Array Value → State → Outcome → State → Prop} (hy : plainName y.cls = true) (hnl : (lg_sl av).length ≤ nL)
    (body : ∀ p e s m below meth c, Gx p s m av.toArray c cc nL y.cls D kA → meth.sig.returnType = ret → meth.locks = false → meth.name = y.name → s.heap.size = sz → (∀ q, s.heap.size ≤ q → va_A (hw kA X) sz q) → Sx D kA (va_A (hw kA X) sz) s.heap s.heap [] X → ∀ ls, lv_has ls nL (lv_args 0 av) →
      W p l e (rmO fr mc ms lo) s m av.toArray below meth c s.heap [] 0 0 (MQ below Qc av.toArray s mc ms (va_A (hw kA X) sz)) (F0 m 0 ls [])) :
    Met l y (.code y cc nL ret :: gd) (rmO fr mc ms lo) (va_Pc av (PreM D kA X sz)) Qc mc ms (va_A (hw kA X) sz) := by
  refine Met.ofW (cc := cc) (maxL := nL) (ret := ret) hy rfl ?_
  intro p e s m args below meth c s₁ B hml hv
  obtain ⟨rfl, hsz, ⟨hP, hK, hE⟩, hD0⟩ := hv
  have hts := atoms_spec (ws := .code y cc nL ret :: gd) B.pre
  have hl := lv_entry av (n := nL) hnl
  rw [lg_entry_eq]
  exact body p e s m below meth c ⟨B.exec, B.bytes, hml, findClass_of_methodNamed B.named, fun w h => hts w (List.mem_cons_of_mem _ h), hE, hK⟩ B.returns B.notSynchronized (name_of_methodNamed B.named B.method).1 hsz (fun q h => Or.inr (by rw [← hsz]; exact h)) ⟨hP, hD0.self, va_S.rf⟩ _ hl
end PE
theorem rf_or9 (r : Option Nat) : va_rf r = .null ∨ ∃ a, va_rf r = .ref a := match r with
  | none => Or.inl rfl
  | some a => Or.inr ⟨a, rfl⟩
section PT
variable {p : Program} {l : Launch} {e : Env} {R : Room} {s : State} {m : MethodId} {args : Array Value} {below : List Frame} {meth : Method} {c : Code} {H : Heap} {locs : List Loc} {cells slots : Nat} {cc : ByteArray} {nL pc mc ms sz : Nat} {ls : Array Slot} {own : String} {D : va_G} {kA : Nat → ClassId} {X X0 : Hp}
-- ends of methods that only read
theorem x_iretR {v : Int32} {post : Int32 → Prop} (G : Gx p s m args c cc nL own D kA) (hr : meth.sig.returnType = some .int) (hlk : meth.locks = false) (h : post v) (hdg : decode cc pc = .ok (.ireturn, 1)) :
    W p l e R s m args below meth c s.heap [] 0 0 (MQ below (vp_Si post) args s 0 0 (fun _ => False)) (F0 m pc ls [.int v]) :=
  W.iret G.1 G.2.1 hr (fun t ht _ => ⟨v, rfl, h, ht⟩) (fun _ h => by cases h) hdg hlk
theorem x_zretR {v : Int32} {post : Int32 → Prop} (G : Gx p s m args c cc nL own D kA) (hr : meth.sig.returnType = some .boolean) (hlk : meth.locks = false) (hz : v = 0 ∨ v = 1) (h : post v) (hdg : decode cc pc = .ok (.ireturn, 1)) :
    W p l e R s m args below meth c s.heap [] 0 0 (MQ below (vp_Si post) args s 0 0 (fun _ => False)) (F0 m pc ls [.int v]) :=
  W.zret G.1 G.2.1 hr (by rcases hz with rfl | rfl <;> rfl) (fun t ht _ => ⟨v, rfl, h, ht⟩) (fun _ h => by cases h) hdg hlk
theorem x_aretR {r : Option Nat} {C : String} {post : Option Nat → Prop} (G : Gx p s m args c cc nL own D kA) (hr : meth.sig.returnType = some (.object C)) (hlk : meth.locks = false) (h : post r) (hdg : decode cc pc = .ok (.areturn, 1)) :
    W p l e R s m args below meth c s.heap [] 0 0 (MQ below (va_Sq post) args s 0 0 (fun _ => False)) (F0 m pc ls [va_rf r]) :=
  W.aret (v := va_rf r) G.1 G.2.1 hr (Or.inl ⟨C, rfl⟩) (rf_or9 r) (fun t ht _ => ⟨r, rfl, h, ht⟩) (fun _ h => by cases h) hdg hlk
-- ends of methods that write
theorem x_iretM {v : Int32} {post : Int32 → Hp → Prop} (G : Gx p s m args c cc nL own D kA) (hr : meth.sig.returnType = some .int) (hlk : meth.locks = false) (S : Sx D kA (va_A (hw kA X0) sz) s.heap H locs X) (h1 : cells ≤ mc) (h2 : slots ≤ ms) (h : post v X) (hdg : decode cc pc = .ok (.ireturn, 1)) :
    W p l e R s m args below meth c H locs cells slots (MQ below (va_Qi post (PoM D kA X0 sz) (va_A (hw kA X0) sz)) args s mc ms (va_A (hw kA X0) sz)) (F0 m pc ls [.int v]) :=
  W.widen h1 h2 (W.iret G.1 G.2.1 hr (fun t ht _ => ⟨⟨v, X, rfl, h, by rw [ht]; exact S.1, S.2.1⟩, S.2.2.F ht⟩) S.2.2.2.2 hdg hlk)
theorem x_zretM {v : Int32} {post : Int32 → Hp → Prop} (G : Gx p s m args c cc nL own D kA) (hr : meth.sig.returnType = some .boolean) (hlk : meth.locks = false) (hz : v = 0 ∨ v = 1) (S : Sx D kA (va_A (hw kA X0) sz) s.heap H locs X) (h1 : cells ≤ mc) (h2 : slots ≤ ms) (h : post v X) (hdg : decode cc pc = .ok (.ireturn, 1)) :
    W p l e R s m args below meth c H locs cells slots (MQ below (va_Qi post (PoM D kA X0 sz) (va_A (hw kA X0) sz)) args s mc ms (va_A (hw kA X0) sz)) (F0 m pc ls [.int v]) :=
  W.widen h1 h2 (W.zret G.1 G.2.1 hr (by rcases hz with rfl | rfl <;> rfl) (fun t ht _ => ⟨⟨v, X, rfl, h, by rw [ht]; exact S.1, S.2.1⟩, S.2.2.F ht⟩) S.2.2.2.2 hdg hlk)
theorem x_vretM {post : Hp → Prop} (G : Gx p s m args c cc nL own D kA) (hr : meth.sig.returnType = none) (hlk : meth.locks = false) (S : Sx D kA (va_A (hw kA X0) sz) s.heap H locs X) (h1 : cells ≤ mc) (h2 : slots ≤ ms) (h : post X) (hdg : decode cc pc = .ok (.return_, 1)) :
    W p l e R s m args below meth c H locs cells slots (MQ below (va_Qv post (PoM D kA X0 sz) (va_A (hw kA X0) sz)) args s mc ms (va_A (hw kA X0) sz)) (F0 m pc ls []) :=
  W.widen h1 h2 (W.vret G.1 G.2.1 hr (fun t ht _ => ⟨⟨X, rfl, h, by rw [ht]; exact S.1, S.2.1⟩, S.2.2.F ht⟩) S.2.2.2.2 hdg hlk)
theorem x_aretM {r : Option Nat} {C : String} {post : Option Nat → Hp → Prop} (G : Gx p s m args c cc nL own D kA) (hr : meth.sig.returnType = some (.object C)) (hlk : meth.locks = false) (S : Sx D kA (va_A (hw kA X0) sz) s.heap H locs X) (h1 : cells ≤ mc) (h2 : slots ≤ ms) (h : post r X) (hdg : decode cc pc = .ok (.areturn, 1)) :
    W p l e R s m args below meth c H locs cells slots (MQ below (va_Qq post (PoM D kA X0 sz) (va_A (hw kA X0) sz)) args s mc ms (va_A (hw kA X0) sz)) (F0 m pc ls [va_rf r]) :=
  W.widen h1 h2 (W.aret (v := va_rf r) G.1 G.2.1 hr (Or.inl ⟨C, rfl⟩) (rf_or9 r) (fun t ht _ => ⟨⟨r, X, rfl, h, by rw [ht]; exact S.1, S.2.1⟩, S.2.2.F ht⟩) S.2.2.2.2 hdg hlk)
end PT
section PL
variable {p : Program} {l : Launch} {e : Env} {R : Room} {s : State} {m : MethodId} {args : Array Value} {below : List Frame} {meth : Method} {c : Code} {H H0 : Heap} {locs : List Loc} {cells slots : Nat} {Q : State → Prop} {cc : ByteArray} {nL pc : Nat} {ls : Array Slot} {rest st0 As : List Value} {own : String} {D : va_G} {kA : Nat → ClassId} {A : Nat → Prop} {X : Hp} {b ci idx n mc ms fr lo maxL : Nat} {fs : List Value} {y : MethodName} {bytes : ByteArray} {ret : Option FieldType}
-- calls of methods that only read: S static, V of an object; i an int, q a reference
theorem x_cRSi {post : Int32 → Prop} (G : Gx p s m args c cc nL own D kA) (hP : va_P D vwCl (hw kA X) H) (hM : Met l y (.code y bytes maxL ret :: gd) (rmO fr 0 0 lo) (va_Pc As (Pre D kA X)) (vp_Si post) 0 0 (fun _ => False)) (hcd : Cond.code y bytes maxL ret ∈ gd) (hl : MLS own idx y n) (hR : fr + 1 ≤ R.frames ∧ 8 + (maxL + 11) + lo ≤ R.locals) (hn : As.length = n) (hls : ls.size = nL) (hst : st0 = As.reverse ++ rest) (hW : (rest.map fun v => v.category).sum ≤ 8) (hdg : decode cc pc = .ok (.invokestatic idx, 3)) (hf : cells ≤ R.cells ∧ slots ≤ R.slots)
    (kk : ∀ r : Int32, post r → W p l e R s m args below meth c H locs cells slots Q (F0 m (pc + 3) ls (.int r :: rest))) : W p l e R s m args below meth c H locs cells slots Q (F0 m pc ls st0) :=
  vp_callSi (va_Run.run (x_runS G hM hcd hl ⟨Pre.blind, G.pre hP⟩ hR hn hls hst hW hdg hf)) kk
theorem x_cRVi {post : Int32 → Prop} {r : vw_C} (G : Gx p s m args c cc nL own D kA) (hP : va_P D vwCl (hw kA X) H) (hs : Hs X b (.inr (ci, fs))) (hc : vwCl[ci]? = some r) (hcy : r.1 = y.cls) (hM : Met l y (.code y bytes maxL ret :: gd) (rmO fr 0 0 lo) (va_Pc (.ref b :: As) (Pre D kA X)) (vp_Si post) 0 0 (fun _ => False)) (hcd : Cond.code y bytes maxL ret ∈ gd) (hl : MLV own idx y n) (hR : fr + 1 ≤ R.frames ∧ 8 + (maxL + 11) + lo ≤ R.locals) (hn : As.length = n) (hls : ls.size = nL) (hst : st0 = As.reverse ++ .ref b :: rest) (hW : (rest.map fun v => v.category).sum ≤ 8) (hdg : decode cc pc = .ok (.invokevirtual idx, 3)) (hf : cells ≤ R.cells ∧ slots ≤ R.slots)
    (kk : ∀ r : Int32, post r → W p l e R s m args below meth c H locs cells slots Q (F0 m (pc + 3) ls (.int r :: rest))) : W p l e R s m args below meth c H locs cells slots Q (F0 m pc ls st0) :=
  vp_callSi (va_Run.run (x_runV G hP hs hc hcy hM hcd hl ⟨Pre.blind, G.pre hP⟩ hR hn hls hst hW hdg hf)) kk
theorem x_cRVq {post : Option Nat → Prop} {r : vw_C} (G : Gx p s m args c cc nL own D kA) (hP : va_P D vwCl (hw kA X) H) (hs : Hs X b (.inr (ci, fs))) (hc : vwCl[ci]? = some r) (hcy : r.1 = y.cls) (hM : Met l y (.code y bytes maxL ret :: gd) (rmO fr 0 0 lo) (va_Pc (.ref b :: As) (Pre D kA X)) (va_Sq post) 0 0 (fun _ => False)) (hcd : Cond.code y bytes maxL ret ∈ gd) (hl : MLV own idx y n) (hR : fr + 1 ≤ R.frames ∧ 8 + (maxL + 11) + lo ≤ R.locals) (hn : As.length = n) (hls : ls.size = nL) (hst : st0 = As.reverse ++ .ref b :: rest) (hW : (rest.map fun v => v.category).sum ≤ 8) (hdg : decode cc pc = .ok (.invokevirtual idx, 3)) (hf : cells ≤ R.cells ∧ slots ≤ R.slots)
    (kk : ∀ r : Option Nat, post r → W p l e R s m args below meth c H locs cells slots Q (F0 m (pc + 3) ls (va_rf r :: rest))) : W p l e R s m args below meth c H locs cells slots Q (F0 m pc ls st0) :=
  va_csq (va_Run.run (x_runV G hP hs hc hcy hM hcd hl ⟨Pre.blind, G.pre hP⟩ hR hn hls hst hW hdg hf)) kk
-- calls of methods that write
theorem x_cMVi {post : Int32 → Hp → Prop} {r : vw_C} (G : Gx p s m args c cc nL own D kA) (S : Sx D kA A H0 H locs X) (hA : ∀ q, H0.size ≤ q → A q) (hs : Hs X b (.inr (ci, fs))) (hc : vwCl[ci]? = some r) (hcy : r.1 = y.cls) (hM : Met l y (.code y bytes maxL ret :: gd) (rmO fr mc ms lo) (va_Pc (.ref b :: As) (PreM D kA X H.size)) (va_Qi post (PoM D kA X H.size) (va_A (hw kA X) H.size)) mc ms (va_A (hw kA X) H.size)) (hcd : Cond.code y bytes maxL ret ∈ gd) (hl : MLV own idx y n) (hR : fr + 1 ≤ R.frames ∧ 8 + (maxL + 11) + lo ≤ R.locals) (hn : As.length = n) (hls : ls.size = nL) (hst : st0 = As.reverse ++ .ref b :: rest) (hW : (rest.map fun v => v.category).sum ≤ 8) (hdg : decode cc pc = .ok (.invokevirtual idx, 3)) (hf : cells + mc ≤ R.cells ∧ slots + ms ≤ R.slots)
    (kk : ∀ (r : Int32) (X' : Hp) (H1 : Heap) (locs1 : List Loc), post r X' → Sx D kA A H0 H1 locs1 X' → W p l e R s m args below meth c H1 locs1 (cells + mc) (slots + ms) Q (F0 m (pc + 3) ls (.int r :: rest))) : W p l e R s m args below meth c H locs cells slots Q (F0 m pc ls st0) :=
  va_calli (x_runV G S.1 hs hc hcy hM hcd hl ⟨PreM.blind, G.preM S⟩ hR hn hls hst hW hdg hf) S.2.2 (fun q _ h => S.fre hA q h) (S.fre hA) (fun r u t H1 locs1 ht _ hp hB _ _ hS1 => kk r u H1 locs1 hp (Sx.back (S.fre hA) hB ht hS1))
theorem x_cMVv {post : Hp → Prop} {r : vw_C} (G : Gx p s m args c cc nL own D kA) (S : Sx D kA A H0 H locs X) (hA : ∀ q, H0.size ≤ q → A q) (hs : Hs X b (.inr (ci, fs))) (hc : vwCl[ci]? = some r) (hcy : r.1 = y.cls) (hM : Met l y (.code y bytes maxL ret :: gd) (rmO fr mc ms lo) (va_Pc (.ref b :: As) (PreM D kA X H.size)) (va_Qv post (PoM D kA X H.size) (va_A (hw kA X) H.size)) mc ms (va_A (hw kA X) H.size)) (hcd : Cond.code y bytes maxL ret ∈ gd) (hl : MLV own idx y n) (hR : fr + 1 ≤ R.frames ∧ 8 + (maxL + 11) + lo ≤ R.locals) (hn : As.length = n) (hls : ls.size = nL) (hst : st0 = As.reverse ++ .ref b :: rest) (hW : (rest.map fun v => v.category).sum ≤ 8) (hdg : decode cc pc = .ok (.invokevirtual idx, 3)) (hf : cells + mc ≤ R.cells ∧ slots + ms ≤ R.slots)
    (kk : ∀ (X' : Hp) (H1 : Heap) (locs1 : List Loc), post X' → Sx D kA A H0 H1 locs1 X' → W p l e R s m args below meth c H1 locs1 (cells + mc) (slots + ms) Q (F0 m (pc + 3) ls rest)) : W p l e R s m args below meth c H locs cells slots Q (F0 m pc ls st0) :=
  va_callv (x_runV G S.1 hs hc hcy hM hcd hl ⟨PreM.blind, G.preM S⟩ hR hn hls hst hW hdg hf) S.2.2 (fun q _ h => S.fre hA q h) (S.fre hA) (fun u t H1 locs1 ht _ hp hB _ _ hS1 => kk u H1 locs1 hp (Sx.back (S.fre hA) hB ht hS1))
theorem x_cMVq {post : Option Nat → Hp → Prop} {r : vw_C} (G : Gx p s m args c cc nL own D kA) (S : Sx D kA A H0 H locs X) (hA : ∀ q, H0.size ≤ q → A q) (hs : Hs X b (.inr (ci, fs))) (hc : vwCl[ci]? = some r) (hcy : r.1 = y.cls) (hM : Met l y (.code y bytes maxL ret :: gd) (rmO fr mc ms lo) (va_Pc (.ref b :: As) (PreM D kA X H.size)) (va_Qq post (PoM D kA X H.size) (va_A (hw kA X) H.size)) mc ms (va_A (hw kA X) H.size)) (hcd : Cond.code y bytes maxL ret ∈ gd) (hl : MLV own idx y n) (hR : fr + 1 ≤ R.frames ∧ 8 + (maxL + 11) + lo ≤ R.locals) (hn : As.length = n) (hls : ls.size = nL) (hst : st0 = As.reverse ++ .ref b :: rest) (hW : (rest.map fun v => v.category).sum ≤ 8) (hdg : decode cc pc = .ok (.invokevirtual idx, 3)) (hf : cells + mc ≤ R.cells ∧ slots + ms ≤ R.slots)
    (kk : ∀ (r : Option Nat) (X' : Hp) (H1 : Heap) (locs1 : List Loc), post r X' → Sx D kA A H0 H1 locs1 X' → W p l e R s m args below meth c H1 locs1 (cells + mc) (slots + ms) Q (F0 m (pc + 3) ls (va_rf r :: rest))) : W p l e R s m args below meth c H locs cells slots Q (F0 m pc ls st0) :=
  va_callq (x_runV G S.1 hs hc hcy hM hcd hl ⟨PreM.blind, G.preM S⟩ hR hn hls hst hW hdg hf) S.2.2 (fun q _ h => S.fre hA q h) (S.fre hA) (fun r u t H1 locs1 ht _ hp hB _ _ hS1 => kk r u H1 locs1 hp (Sx.back (S.fre hA) hB ht hS1))
theorem x_cMIv {post : Hp → Prop} (G : Gx p s m args c cc nL own D kA) (S : Sx D kA A H0 H locs X) (hA : ∀ q, H0.size ≤ q → A q) (hM : Met l y (.code y bytes maxL none :: gd) (rmO fr mc ms lo) (va_Pc (.ref b :: As) (PreM D kA X H.size)) (va_Qv post (PoM D kA X H.size) (va_A (hw kA X) H.size)) mc ms (va_A (hw kA X) H.size)) (hcd : Cond.code y bytes maxL none ∈ gd) (hl : MLI own idx y n) (hR : fr + 1 ≤ R.frames ∧ 8 + (maxL + 11) + lo ≤ R.locals) (hn : As.length = n) (hls : ls.size = nL) (hst : st0 = As.reverse ++ .ref b :: rest) (hW : (rest.map fun v => v.category).sum ≤ 8) (hdg : decode cc pc = .ok (.invokespecial idx, 3)) (hf : cells + mc ≤ R.cells ∧ slots + ms ≤ R.slots)
    (kk : ∀ (X' : Hp) (H1 : Heap) (locs1 : List Loc), post X' → Sx D kA A H0 H1 locs1 X' → W p l e R s m args below meth c H1 locs1 (cells + mc) (slots + ms) Q (F0 m (pc + 3) ls rest)) : W p l e R s m args below meth c H locs cells slots Q (F0 m pc ls st0) :=
  va_callv (x_runI G hM hcd hl ⟨PreM.blind, G.preM S⟩ hR hn hls hst hW hdg hf) S.2.2 (fun q _ h => S.fre hA q h) (S.fre hA) (fun u t H1 locs1 ht _ hp hB _ _ hS1 => kk u H1 locs1 hp (Sx.back (S.fre hA) hB ht hS1))
theorem x_objInit {a : Nat} (G : Gx p s m args c cc nL own D kA) (hl : Cond.methodLink own idx objectInit ∈ gd) (h1 : Cond.instanceMethod objectInit ∈ gd) (h2 : Cond.code objectInit ⟨#[0xb1]⟩ 1 none ∈ gd) (hls : ls.size = nL) (hdg : decode cc pc = .ok (.invokespecial idx, 3)) (hfr : 1 ≤ R.frames) (hlo : 2 * (F0 m pc ls (.ref a :: rest)).monitorRoom + (rest.map fun v => v.category).sum + 12 ≤ R.locals)
    (kk : W p l e R s m args below meth c H locs cells slots Q (F0 m (pc + 3) ls rest)) : W p l e R s m args below meth c H locs cells slots Q (F0 m pc ls (.ref a :: rest)) := by
  obtain ⟨hx, hb, hml, hown, hts, hE, hK⟩ := G
  exact W.objInit hx hb hown (hts _ hl) (hts _ h1) (hts _ h2) rfl (by rw [hml]; exact hls) rfl hdg hfr hlo kk
end PL
end
section
theorem in_X0 : ∀ w ∈ u_ws RX0 TX0 6, w ∈ gd := by
  intro w hw
  obtain ⟨k, hk, rfl⟩ := List.mem_map.mp hw
  have hk := List.mem_range.mp hk
  match k, hk with
  | 0, _ => exact gd_t 180 (by decide +kernel) (by decide +kernel)
  | 1, _ => exact gd_t 182 (by decide +kernel) (by decide +kernel)
  | 2, _ => exact gd_t 184 (by decide +kernel) (by decide +kernel)
  | 3, _ => exact gd_t 186 (by decide +kernel) (by decide +kernel)
  | 4, _ => exact gd_t 188 (by decide +kernel) (by decide +kernel)
  | 5, _ => exact gd_t 190 (by decide +kernel) (by decide +kernel)
  | k + 6, hk => exact absurd hk (by omega)
theorem in_X1 : ∀ w ∈ u_ws RX1 TX1 2, w ∈ gd := by
  intro w hw
  obtain ⟨k, hk, rfl⟩ := List.mem_map.mp hw
  have hk := List.mem_range.mp hk
  match k, hk with
  | 0, _ => exact gd_t 84 (by decide +kernel) (by decide +kernel)
  | 1, _ => exact gd_t 86 (by decide +kernel) (by decide +kernel)
  | k + 2, hk => exact absurd hk (by omega)
theorem in_X2 : ∀ w ∈ u_ws RX2 TX2 2, w ∈ gd := by
  intro w hw
  obtain ⟨k, hk, rfl⟩ := List.mem_map.mp hw
  have hk := List.mem_range.mp hk
  match k, hk with
  | 0, _ => exact gd_t 75 (by decide +kernel) (by decide +kernel)
  | 1, _ => exact gd_t 77 (by decide +kernel) (by decide +kernel)
  | k + 2, hk => exact absurd hk (by omega)
theorem in_X3 : ∀ w ∈ u_ws RX3 TX3 2, w ∈ gd := by
  intro w hw
  obtain ⟨k, hk, rfl⟩ := List.mem_map.mp hw
  have hk := List.mem_range.mp hk
  match k, hk with
  | 0, _ => exact gd_t 141 (by decide +kernel) (by decide +kernel)
  | 1, _ => exact gd_t 143 (by decide +kernel) (by decide +kernel)
  | k + 2, hk => exact absurd hk (by omega)
theorem in_X4 : ∀ w ∈ u_ws RX4 TX4 4, w ∈ gd := by
  intro w hw
  obtain ⟨k, hk, rfl⟩ := List.mem_map.mp hw
  have hk := List.mem_range.mp hk
  match k, hk with
  | 0, _ => exact gd_t 121 (by decide +kernel) (by decide +kernel)
  | 1, _ => exact gd_t 123 (by decide +kernel) (by decide +kernel)
  | 2, _ => exact gd_t 125 (by decide +kernel) (by decide +kernel)
  | 3, _ => exact gd_t 127 (by decide +kernel) (by decide +kernel)
  | k + 4, hk => exact absurd hk (by omega)
theorem in_X5 : ∀ w ∈ u_ws RX5 TX5 2, w ∈ gd := by
  intro w hw
  obtain ⟨k, hk, rfl⟩ := List.mem_map.mp hw
  have hk := List.mem_range.mp hk
  match k, hk with
  | 0, _ => exact gd_t 438 (by decide +kernel) (by decide +kernel)
  | 1, _ => exact gd_t 440 (by decide +kernel) (by decide +kernel)
  | k + 2, hk => exact absurd hk (by omega)
theorem in_X6 : ∀ w ∈ u_ws RX6 TX6 3, w ∈ gd := by
  intro w hw
  obtain ⟨k, hk, rfl⟩ := List.mem_map.mp hw
  have hk := List.mem_range.mp hk
  match k, hk with
  | 0, _ => exact gd_t 101 (by decide +kernel) (by decide +kernel)
  | 1, _ => exact gd_t 103 (by decide +kernel) (by decide +kernel)
  | 2, _ => exact gd_t 105 (by decide +kernel) (by decide +kernel)
  | k + 3, hk => exact absurd hk (by omega)
theorem in_X7 : ∀ w ∈ u_ws RX7 TX7 3, w ∈ gd := by
  intro w hw
  obtain ⟨k, hk, rfl⟩ := List.mem_map.mp hw
  have hk := List.mem_range.mp hk
  match k, hk with
  | 0, _ => exact gd_t 163 (by decide +kernel) (by decide +kernel)
  | 1, _ => exact gd_t 165 (by decide +kernel) (by decide +kernel)
  | 2, _ => exact gd_t 167 (by decide +kernel) (by decide +kernel)
  | k + 3, hk => exact absurd hk (by omega)
theorem in_X8 : ∀ w ∈ u_ws RX8 TX8 7, w ∈ gd := by
  intro w hw
  obtain ⟨k, hk, rfl⟩ := List.mem_map.mp hw
  have hk := List.mem_range.mp hk
  match k, hk with
  | 0, _ => exact gd_t 49 (by decide +kernel) (by decide +kernel)
  | 1, _ => exact gd_t 51 (by decide +kernel) (by decide +kernel)
  | 2, _ => exact gd_t 53 (by decide +kernel) (by decide +kernel)
  | 3, _ => exact gd_t 55 (by decide +kernel) (by decide +kernel)
  | 4, _ => exact gd_t 57 (by decide +kernel) (by decide +kernel)
  | 5, _ => exact gd_t 59 (by decide +kernel) (by decide +kernel)
  | 6, _ => exact gd_t 61 (by decide +kernel) (by decide +kernel)
  | k + 7, hk => exact absurd hk (by omega)
theorem in_X9 : ∀ w ∈ u_ws RX9 TX9 6, w ∈ gd := by
  intro w hw
  obtain ⟨k, hk, rfl⟩ := List.mem_map.mp hw
  have hk := List.mem_range.mp hk
  match k, hk with
  | 0, _ => exact gd_t 199 (by decide +kernel) (by decide +kernel)
  | 1, _ => exact gd_t 201 (by decide +kernel) (by decide +kernel)
  | 2, _ => exact gd_t 203 (by decide +kernel) (by decide +kernel)
  | 3, _ => exact gd_t 205 (by decide +kernel) (by decide +kernel)
  | 4, _ => exact gd_t 207 (by decide +kernel) (by decide +kernel)
  | 5, _ => exact gd_t 209 (by decide +kernel) (by decide +kernel)
  | k + 6, hk => exact absurd hk (by omega)
theorem in_X10 : ∀ w ∈ u_ws RX10 TX10 27, w ∈ gd := by
  intro w hw
  obtain ⟨k, hk, rfl⟩ := List.mem_map.mp hw
  have hk := List.mem_range.mp hk
  match k, hk with
  | 0, _ => exact gd_t 643 (by decide +kernel) (by decide +kernel)
  | 1, _ => exact gd_t 645 (by decide +kernel) (by decide +kernel)
  | 2, _ => exact gd_t 647 (by decide +kernel) (by decide +kernel)
  | 3, _ => exact gd_t 649 (by decide +kernel) (by decide +kernel)
  | 4, _ => exact gd_t 651 (by decide +kernel) (by decide +kernel)
  | 5, _ => exact gd_t 653 (by decide +kernel) (by decide +kernel)
  | 6, _ => exact gd_t 655 (by decide +kernel) (by decide +kernel)
  | 7, _ => exact gd_t 657 (by decide +kernel) (by decide +kernel)
  | 8, _ => exact gd_t 659 (by decide +kernel) (by decide +kernel)
  | 9, _ => exact gd_t 661 (by decide +kernel) (by decide +kernel)
  | 10, _ => exact gd_t 663 (by decide +kernel) (by decide +kernel)
  | 11, _ => exact gd_t 665 (by decide +kernel) (by decide +kernel)
  | 12, _ => exact gd_t 667 (by decide +kernel) (by decide +kernel)
  | 13, _ => exact gd_t 669 (by decide +kernel) (by decide +kernel)
  | 14, _ => exact gd_t 671 (by decide +kernel) (by decide +kernel)
  | 15, _ => exact gd_t 673 (by decide +kernel) (by decide +kernel)
  | 16, _ => exact gd_t 675 (by decide +kernel) (by decide +kernel)
  | 17, _ => exact gd_t 677 (by decide +kernel) (by decide +kernel)
  | 18, _ => exact gd_t 679 (by decide +kernel) (by decide +kernel)
  | 19, _ => exact gd_t 681 (by decide +kernel) (by decide +kernel)
  | 20, _ => exact gd_t 683 (by decide +kernel) (by decide +kernel)
  | 21, _ => exact gd_t 685 (by decide +kernel) (by decide +kernel)
  | 22, _ => exact gd_t 687 (by decide +kernel) (by decide +kernel)
  | 23, _ => exact gd_t 689 (by decide +kernel) (by decide +kernel)
  | 24, _ => exact gd_t 691 (by decide +kernel) (by decide +kernel)
  | 25, _ => exact gd_t 693 (by decide +kernel) (by decide +kernel)
  | 26, _ => exact gd_t 695 (by decide +kernel) (by decide +kernel)
  | k + 27, hk => exact absurd hk (by omega)
theorem cd_X0_init : Cond.code yX0_init cX0_init 2 none ∈ gd := gd_t 150 (by decide +kernel) (by decide +kernel)
theorem cd_X0_setOut : Cond.code yX0_setOut cX0_setOut 4 none ∈ gd := gd_t 367 (by decide +kernel) (by decide +kernel)
theorem cd_X0_sailBy : Cond.code yX0_sailBy cX0_sailBy 6 (some .int) ∈ gd := gd_t 371 (by decide +kernel) (by decide +kernel)
theorem cd_X0_sailByThumb : Cond.code yX0_sailByThumb cX0_sailByThumb 3 none ∈ gd := gd_t 520 (by decide +kernel) (by decide +kernel)
theorem cd_X0_thingByThumb : Cond.code yX0_thingByThumb cX0_thingByThumb 2 (some .int) ∈ gd := gd_t 524 (by decide +kernel) (by decide +kernel)
theorem cd_X0_saidByThumb : Cond.code yX0_saidByThumb cX0_saidByThumb 2 (some .boolean) ∈ gd := gd_t 528 (by decide +kernel) (by decide +kernel)
theorem cd_X0_doDeed : Cond.code yX0_doDeed cX0_doDeed 4 (some .boolean) ∈ gd := gd_t 376 (by decide +kernel) (by decide +kernel)
theorem cd_X0_safeByTurns : Cond.code yX0_safeByTurns cX0_safeByTurns 10 (some .int) ∈ gd := gd_t 549 (by decide +kernel) (by decide +kernel)
theorem cd_X1_init : Cond.code yX1_init cX1_init 2 none ∈ gd := gd_t 26 (by decide +kernel) (by decide +kernel)
theorem cd_X1_copy : Cond.code yX1_copy cX1_copy 3 none ∈ gd := gd_t 588 (by decide +kernel) (by decide +kernel)
theorem cd_X2_init : Cond.code yX2_init cX2_init 1 none ∈ gd := gd_t 69 (by decide +kernel) (by decide +kernel)
theorem cd_X2_changeGive : Cond.code yX2_changeGive cX2_changeGive 4 (some .int) ∈ gd := gd_t 268 (by decide +kernel) (by decide +kernel)
theorem cd_X2_changeDeep : Cond.code yX2_changeDeep cX2_changeDeep 4 (some .int) ∈ gd := gd_t 273 (by decide +kernel) (by decide +kernel)
theorem cd_X2_owedBehind : Cond.code yX2_owedBehind cX2_owedBehind 5 (some .int) ∈ gd := gd_t 304 (by decide +kernel) (by decide +kernel)
theorem cd_X2_blindOf : Cond.code yX2_blindOf cX2_blindOf 5 (some .int) ∈ gd := gd_t 326 (by decide +kernel) (by decide +kernel)
theorem cd_X2_blindAlone : Cond.code yX2_blindAlone cX2_blindAlone 4 (some .int) ∈ gd := gd_t 330 (by decide +kernel) (by decide +kernel)
theorem cd_X2_copy : Cond.code yX2_copy cX2_copy 2 none ∈ gd := gd_t 599 (by decide +kernel) (by decide +kernel)
theorem cd_X3_init : Cond.code yX3_init cX3_init 1 none ∈ gd := gd_t 134 (by decide +kernel) (by decide +kernel)
theorem cd_X3_write : Cond.code yX3_write cX3_write 2 (some .boolean) ∈ gd := gd_t 338 (by decide +kernel) (by decide +kernel)
theorem cd_X3_faultPlace : Cond.code yX3_faultPlace cX3_faultPlace 3 (some .int) ∈ gd := gd_t 350 (by decide +kernel) (by decide +kernel)
theorem cd_X3_wantedBehind : Cond.code yX3_wantedBehind cX3_wantedBehind 3 (some .int) ∈ gd := gd_t 353 (by decide +kernel) (by decide +kernel)
theorem cd_X3_thingOf : Cond.code yX3_thingOf cX3_thingOf 1 (some .int) ∈ gd := gd_t 356 (by decide +kernel) (by decide +kernel)
theorem cd_X4_init : Cond.code yX4_init cX4_init 4 none ∈ gd := gd_t 112 (by decide +kernel) (by decide +kernel)
theorem cd_X4_forget : Cond.code yX4_forget cX4_forget 2 none ∈ gd := gd_t 235 (by decide +kernel) (by decide +kernel)
theorem cd_X4_reaches : Cond.code yX4_reaches cX4_reaches 3 (some .boolean) ∈ gd := gd_t 412 (by decide +kernel) (by decide +kernel)
theorem cd_X4_bestFrom : Cond.code yX4_bestFrom cX4_bestFrom 6 (some .int) ∈ gd := gd_t 417 (by decide +kernel) (by decide +kernel)
theorem cd_X4_firstDeed : Cond.code yX4_firstDeed cX4_firstDeed 5 (some .int) ∈ gd := gd_t 494 (by decide +kernel) (by decide +kernel)
theorem cd_X4_follow : Cond.code yX4_follow cX4_follow 10 (some .int) ∈ gd := gd_t 510 (by decide +kernel) (by decide +kernel)
theorem cd_X4_fill : Cond.code yX4_fill cX4_fill 9 none ∈ gd := gd_t 421 (by decide +kernel) (by decide +kernel)
theorem cd_X4_fillHour : Cond.code yX4_fillHour cX4_fillHour 7 none ∈ gd := gd_t 460 (by decide +kernel) (by decide +kernel)
theorem cd_X4_weigh : Cond.code yX4_weigh cX4_weigh 7 none ∈ gd := gd_t 476 (by decide +kernel) (by decide +kernel)
theorem cd_X4_deedThere : Cond.code yX4_deedThere cX4_deedThere 8 (some .int) ∈ gd := gd_t 498 (by decide +kernel) (by decide +kernel)
theorem cd_X4_planeBehind : Cond.code yX4_planeBehind cX4_planeBehind 6 (some (.object "NapVoyage$Plane")) ∈ gd := gd_t 469 (by decide +kernel) (by decide +kernel)
theorem cd_X4_planeOf : Cond.code yX4_planeOf cX4_planeOf 6 (some (.object "NapVoyage$Plane")) ∈ gd := gd_t 425 (by decide +kernel) (by decide +kernel)
theorem cd_X4_spendable : Cond.code yX4_spendable cX4_spendable 5 (some .int) ∈ gd := gd_t 429 (by decide +kernel) (by decide +kernel)
theorem cd_X5_init : Cond.code yX5_init cX5_init 1 none ∈ gd := gd_t 433 (by decide +kernel) (by decide +kernel)
theorem cd_X5_at : Cond.code yX5_at cX5_at 2 (some .int) ∈ gd := gd_t 484 (by decide +kernel) (by decide +kernel)
theorem cd_X5_put : Cond.code yX5_put cX5_put 3 none ∈ gd := gd_t 465 (by decide +kernel) (by decide +kernel)
theorem cd_X6_init : Cond.code yX6_init cX6_init 1 none ∈ gd := gd_t 96 (by decide +kernel) (by decide +kernel)
theorem cd_X6_ready : Cond.code yX6_ready cX6_ready 5 none ∈ gd := gd_t 446 (by decide +kernel) (by decide +kernel)
theorem cd_X6_readyFor : Cond.code yX6_readyFor cX6_readyFor 9 none ∈ gd := gd_t 450 (by decide +kernel) (by decide +kernel)
theorem cd_X6_safeBy : Cond.code yX6_safeBy cX6_safeBy 7 (some .int) ∈ gd := gd_t 480 (by decide +kernel) (by decide +kernel)
theorem cd_X7_init : Cond.code yX7_init cX7_init 1 none ∈ gd := gd_t 156 (by decide +kernel) (by decide +kernel)
theorem cd_X7_pass : Cond.code yX7_pass cX7_pass 3 none ∈ gd := gd_t 386 (by decide +kernel) (by decide +kernel)
theorem cd_X7_safe : Cond.code yX7_safe cX7_safe 3 (some .int) ∈ gd := gd_t 394 (by decide +kernel) (by decide +kernel)
theorem cd_X7_riskiest : Cond.code yX7_riskiest cX7_riskiest 4 (some .int) ∈ gd := gd_t 404 (by decide +kernel) (by decide +kernel)
theorem cd_X7_struckBy : Cond.code yX7_struckBy cX7_struckBy 4 (some .int) ∈ gd := gd_t 576 (by decide +kernel) (by decide +kernel)
theorem cd_X7_drawBehind : Cond.code yX7_drawBehind cX7_drawBehind 1 (some .int) ∈ gd := gd_t 579 (by decide +kernel) (by decide +kernel)
theorem cd_X8_init : Cond.code yX8_init cX8_init 1 none ∈ gd := gd_t 33 (by decide +kernel) (by decide +kernel)
theorem cd_X8_hasRoom : Cond.code yX8_hasRoom cX8_hasRoom 2 (some .boolean) ∈ gd := gd_t 226 (by decide +kernel) (by decide +kernel)
theorem cd_X8_hasLeg : Cond.code yX8_hasLeg cX8_hasLeg 2 (some .boolean) ∈ gd := gd_t 255 (by decide +kernel) (by decide +kernel)
theorem cd_X8_hasHour : Cond.code yX8_hasHour cX8_hasHour 2 (some .boolean) ∈ gd := gd_t 285 (by decide +kernel) (by decide +kernel)
theorem cd_X8_lengthen : Cond.code yX8_lengthen cX8_lengthen 5 none ∈ gd := gd_t 230 (by decide +kernel) (by decide +kernel)
theorem cd_X8_shorten : Cond.code yX8_shorten cX8_shorten 1 none ∈ gd := gd_t 243 (by decide +kernel) (by decide +kernel)
theorem cd_X8_firstHourOf : Cond.code yX8_firstHourOf cX8_firstHourOf 4 (some .int) ∈ gd := gd_t 260 (by decide +kernel) (by decide +kernel)
theorem cd_X8_shipsAt : Cond.code yX8_shipsAt cX8_shipsAt 2 (some .int) ∈ gd := gd_t 322 (by decide +kernel) (by decide +kernel)
theorem cd_X8_squallAt : Cond.code yX8_squallAt cX8_squallAt 2 (some .boolean) ∈ gd := gd_t 300 (by decide +kernel) (by decide +kernel)
theorem cd_X8_lets : Cond.code yX8_lets cX8_lets 3 (some .boolean) ∈ gd := gd_t 295 (by decide +kernel) (by decide +kernel)
theorem cd_X8_copy : Cond.code yX8_copy cX8_copy 2 none ∈ gd := gd_t 592 (by decide +kernel) (by decide +kernel)
theorem cd_X9_init : Cond.code yX9_init cX9_init 3 none ∈ gd := gd_t 18 (by decide +kernel) (by decide +kernel)
theorem cd_X9_leg : Cond.code yX9_leg cX9_leg 6 (some .int) ∈ gd := gd_t 215 (by decide +kernel) (by decide +kernel)
theorem cd_X9_cut : Cond.code yX9_cut cX9_cut 3 (some .int) ∈ gd := gd_t 239 (by decide +kernel) (by decide +kernel)
theorem cd_X9_about : Cond.code yX9_about cX9_about 5 (some .int) ∈ gd := gd_t 247 (by decide +kernel) (by decide +kernel)
theorem cd_X9_nap : Cond.code yX9_nap cX9_nap 5 (some .int) ∈ gd := gd_t 264 (by decide +kernel) (by decide +kernel)
theorem cd_X9_owed : Cond.code yX9_owed cX9_owed 6 (some .int) ∈ gd := gd_t 281 (by decide +kernel) (by decide +kernel)
theorem cd_X9_risk : Cond.code yX9_risk cX9_risk 8 (some .int) ∈ gd := gd_t 318 (by decide +kernel) (by decide +kernel)
theorem cd_X9_say : Cond.code yX9_say cX9_say 2 (some .int) ∈ gd := gd_t 334 (by decide +kernel) (by decide +kernel)
theorem cd_X9_wipe : Cond.code yX9_wipe cX9_wipe 2 (some .int) ∈ gd := gd_t 342 (by decide +kernel) (by decide +kernel)
theorem cd_X9_fault : Cond.code yX9_fault cX9_fault 1 (some .int) ∈ gd := gd_t 346 (by decide +kernel) (by decide +kernel)
theorem cd_X9_judge : Cond.code yX9_judge cX9_judge 7 (some .int) ∈ gd := gd_t 360 (by decide +kernel) (by decide +kernel)
theorem cd_X9_best : Cond.code yX9_best cX9_best 7 (some .int) ∈ gd := gd_t 408 (by decide +kernel) (by decide +kernel)
theorem cd_X9_does : Cond.code yX9_does cX9_does 7 (some .int) ∈ gd := gd_t 490 (by decide +kernel) (by decide +kernel)
theorem cd_X9_logged : Cond.code yX9_logged cX9_logged 6 (some .int) ∈ gd := gd_t 506 (by decide +kernel) (by decide +kernel)
theorem cd_X9_thumb : Cond.code yX9_thumb cX9_thumb 6 (some .int) ∈ gd := gd_t 516 (by decide +kernel) (by decide +kernel)
theorem cd_X9_worth : Cond.code yX9_worth cX9_worth 6 (some .int) ∈ gd := gd_t 533 (by decide +kernel) (by decide +kernel)
theorem cd_X9_round : Cond.code yX9_round cX9_round 5 (some .int) ∈ gd := gd_t 537 (by decide +kernel) (by decide +kernel)
theorem cd_X9_soonest : Cond.code yX9_soonest cX9_soonest 7 (some .int) ∈ gd := gd_t 541 (by decide +kernel) (by decide +kernel)
theorem cd_X9_two : Cond.code yX9_two cX9_two 5 (some .int) ∈ gd := gd_t 545 (by decide +kernel) (by decide +kernel)
theorem cd_X9_share : Cond.code yX9_share cX9_share 8 (some .int) ∈ gd := gd_t 557 (by decide +kernel) (by decide +kernel)
theorem cd_X9_up : Cond.code yX9_up cX9_up 4 (some .int) ∈ gd := gd_t 561 (by decide +kernel) (by decide +kernel)
theorem cd_X9_trust : Cond.code yX9_trust cX9_trust 4 (some .int) ∈ gd := gd_t 568 (by decide +kernel) (by decide +kernel)
theorem cd_X9_draw : Cond.code yX9_draw cX9_draw 6 (some .int) ∈ gd := gd_t 572 (by decide +kernel) (by decide +kernel)
theorem cd_X9_image : Cond.code yX9_image cX9_image 2 (some .int) ∈ gd := gd_t 584 (by decide +kernel) (by decide +kernel)
theorem cd_X9_restore : Cond.code yX9_restore cX9_restore 2 (some .int) ∈ gd := gd_t 604 (by decide +kernel) (by decide +kernel)
theorem cd_X9_told : Cond.code yX9_told cX9_told 2 (some .int) ∈ gd := gd_t 608 (by decide +kernel) (by decide +kernel)
theorem cd_X9_within : Cond.code yX9_within cX9_within 3 (some .boolean) ∈ gd := gd_t 222 (by decide +kernel) (by decide +kernel)
theorem cd_X9_isOwed : Cond.code yX9_isOwed cX9_isOwed 1 (some .boolean) ∈ gd := gd_t 288 (by decide +kernel) (by decide +kernel)
theorem cd_X9_isBattery : Cond.code yX9_isBattery cX9_isBattery 1 (some .boolean) ∈ gd := gd_t 363 (by decide +kernel) (by decide +kernel)
theorem cd_X9_isThing : Cond.code yX9_isThing cX9_isThing 1 (some .boolean) ∈ gd := gd_t 291 (by decide +kernel) (by decide +kernel)
theorem cd_X9_wayOf : Cond.code yX9_wayOf cX9_wayOf 2 (some (.object "NapVoyage$Way")) ∈ gd := gd_t 251 (by decide +kernel) (by decide +kernel)
theorem cd_X9_planOf : Cond.code yX9_planOf cX9_planOf 2 (some (.object "NapVoyage$Plan")) ∈ gd := gd_t 219 (by decide +kernel) (by decide +kernel)
theorem cd_X9_forgetPlans : Cond.code yX9_forgetPlans cX9_forgetPlans 2 none ∈ gd := gd_t 277 (by decide +kernel) (by decide +kernel)
theorem cd_X9_getsUp : Cond.code yX9_getsUp cX9_getsUp 3 (some .boolean) ∈ gd := gd_t 564 (by decide +kernel) (by decide +kernel)
theorem cd_X9_isNight : Cond.code yX9_isNight cX9_isNight 1 (some .boolean) ∈ gd := gd_t 314 (by decide +kernel) (by decide +kernel)
theorem cd_X9_hoursOf : Cond.code yX9_hoursOf cX9_hoursOf 1 (some .int) ∈ gd := gd_t 390 (by decide +kernel) (by decide +kernel)
theorem cd_X9_batteryOf : Cond.code yX9_batteryOf cX9_batteryOf 1 (some .int) ∈ gd := gd_t 380 (by decide +kernel) (by decide +kernel)
theorem cd_X9_codeOf : Cond.code yX9_codeOf cX9_codeOf 1 (some .int) ∈ gd := gd_t 502 (by decide +kernel) (by decide +kernel)
theorem cd_X9_lessened : Cond.code yX9_lessened cX9_lessened 2 (some .int) ∈ gd := gd_t 398 (by decide +kernel) (by decide +kernel)
theorem cd_X10_init : Cond.code yX10_init cX10_init 1 none ∈ gd := gd_t 613 (by decide +kernel) (by decide +kernel)
theorem cd_X10_in : Cond.code yX10_in cX10_in 6 (some .boolean) ∈ gd := gd_t 707 (by decide +kernel) (by decide +kernel)
theorem cd_X10_isWay : Cond.code yX10_isWay cX10_isWay 1 (some .boolean) ∈ gd := gd_t 704 (by decide +kernel) (by decide +kernel)
theorem cd_X10_isOwed : Cond.code yX10_isOwed cX10_isOwed 1 (some .boolean) ∈ gd := gd_t 742 (by decide +kernel) (by decide +kernel)
theorem cd_X10_isBattery : Cond.code yX10_isBattery cX10_isBattery 1 (some .boolean) ∈ gd := gd_t 792 (by decide +kernel) (by decide +kernel)
theorem cd_X10_isEnd : Cond.code yX10_isEnd cX10_isEnd 1 (some .boolean) ∈ gd := gd_t 712 (by decide +kernel) (by decide +kernel)
theorem cd_X10_layHours : Cond.code yX10_layHours cX10_layHours 5 none ∈ gd := gd_t 716 (by decide +kernel) (by decide +kernel)
theorem cd_X10_leg : Cond.code yX10_leg cX10_leg 6 (some .int) ∈ gd := gd_t 701 (by decide +kernel) (by decide +kernel)
theorem cd_X10_cut : Cond.code yX10_cut cX10_cut 2 (some .int) ∈ gd := gd_t 720 (by decide +kernel) (by decide +kernel)
theorem cd_X10_about : Cond.code yX10_about cX10_about 6 (some .int) ∈ gd := gd_t 724 (by decide +kernel) (by decide +kernel)
theorem cd_X10_nap : Cond.code yX10_nap cX10_nap 5 (some .int) ∈ gd := gd_t 728 (by decide +kernel) (by decide +kernel)
theorem cd_X10_isSquall : Cond.code yX10_isSquall cX10_isSquall 3 (some .boolean) ∈ gd := gd_t 752 (by decide +kernel) (by decide +kernel)
theorem cd_X10_canBe : Cond.code yX10_canBe cX10_canBe 4 (some .boolean) ∈ gd := gd_t 748 (by decide +kernel) (by decide +kernel)
theorem cd_X10_isNight : Cond.code yX10_isNight cX10_isNight 1 (some .boolean) ∈ gd := gd_t 759 (by decide +kernel) (by decide +kernel)
theorem cd_X10_owedBehind : Cond.code yX10_owedBehind cX10_owedBehind 6 (some .int) ∈ gd := gd_t 756 (by decide +kernel) (by decide +kernel)
theorem cd_X10_blindOf : Cond.code yX10_blindOf cX10_blindOf 7 (some .int) ∈ gd := gd_t 771 (by decide +kernel) (by decide +kernel)
theorem cd_X10_riskOf : Cond.code yX10_riskOf cX10_riskOf 6 (some .int) ∈ gd := gd_t 767 (by decide +kernel) (by decide +kernel)
theorem cd_X10_lessened : Cond.code yX10_lessened cX10_lessened 2 (some .int) ∈ gd := gd_t 814 (by decide +kernel) (by decide +kernel)
theorem cd_X10_isHour : Cond.code yX10_isHour cX10_isHour 3 (some .boolean) ∈ gd := gd_t 739 (by decide +kernel) (by decide +kernel)
theorem cd_X10_owed : Cond.code yX10_owed cX10_owed 5 (some .int) ∈ gd := gd_t 735 (by decide +kernel) (by decide +kernel)
theorem cd_X10_risk : Cond.code yX10_risk cX10_risk 7 (some .int) ∈ gd := gd_t 763 (by decide +kernel) (by decide +kernel)
theorem cd_X10_say : Cond.code yX10_say cX10_say 2 (some .int) ∈ gd := gd_t 775 (by decide +kernel) (by decide +kernel)
theorem cd_X10_wipe : Cond.code yX10_wipe cX10_wipe 2 (some .int) ∈ gd := gd_t 781 (by decide +kernel) (by decide +kernel)
theorem cd_X10_fault : Cond.code yX10_fault cX10_fault 4 (some .int) ∈ gd := gd_t 785 (by decide +kernel) (by decide +kernel)
theorem cd_X10_passHour : Cond.code yX10_passHour cX10_passHour 4 none ∈ gd := gd_t 806 (by decide +kernel) (by decide +kernel)
theorem cd_X10_doThing : Cond.code yX10_doThing cX10_doThing 6 (some .boolean) ∈ gd := gd_t 802 (by decide +kernel) (by decide +kernel)
theorem cd_X10_judgeAll : Cond.code yX10_judgeAll cX10_judgeAll 9 none ∈ gd := gd_t 798 (by decide +kernel) (by decide +kernel)
theorem cd_X10_safeOfTimes : Cond.code yX10_safeOfTimes cX10_safeOfTimes 3 (some .int) ∈ gd := gd_t 810 (by decide +kernel) (by decide +kernel)
theorem cd_X10_mostRisk : Cond.code yX10_mostRisk cX10_mostRisk 3 (some .int) ∈ gd := gd_t 819 (by decide +kernel) (by decide +kernel)
theorem cd_X10_judge : Cond.code yX10_judge cX10_judge 5 (some .int) ∈ gd := gd_t 789 (by decide +kernel) (by decide +kernel)
theorem cd_X10_at : Cond.code yX10_at cX10_at 5 (some .int) ∈ gd := gd_t 845 (by decide +kernel) (by decide +kernel)
theorem cd_X10_valueOf : Cond.code yX10_valueOf cX10_valueOf 13 (some .int) ∈ gd := gd_t 842 (by decide +kernel) (by decide +kernel)
theorem cd_X10_triedAt : Cond.code yX10_triedAt cX10_triedAt 1 (some .int) ∈ gd := gd_t 838 (by decide +kernel) (by decide +kernel)
theorem cd_X10_lay : Cond.code yX10_lay cX10_lay 10 none ∈ gd := gd_t 835 (by decide +kernel) (by decide +kernel)
theorem cd_X10_bestOf : Cond.code yX10_bestOf cX10_bestOf 6 (some .int) ∈ gd := gd_t 831 (by decide +kernel) (by decide +kernel)
theorem cd_X10_doesOf : Cond.code yX10_doesOf cX10_doesOf 9 (some .int) ∈ gd := gd_t 853 (by decide +kernel) (by decide +kernel)
theorem cd_X10_isPlace : Cond.code yX10_isPlace cX10_isPlace 6 (some .boolean) ∈ gd := gd_t 827 (by decide +kernel) (by decide +kernel)
theorem cd_X10_best : Cond.code yX10_best cX10_best 6 (some .int) ∈ gd := gd_t 823 (by decide +kernel) (by decide +kernel)
theorem cd_X10_does : Cond.code yX10_does cX10_does 6 (some .int) ∈ gd := gd_t 849 (by decide +kernel) (by decide +kernel)
theorem cd_X10_logged : Cond.code yX10_logged cX10_logged 12 (some .int) ∈ gd := gd_t 857 (by decide +kernel) (by decide +kernel)
theorem cd_X10_thumbDoes : Cond.code yX10_thumbDoes cX10_thumbDoes 6 (some .int) ∈ gd := gd_t 870 (by decide +kernel) (by decide +kernel)
theorem cd_X10_thumbAll : Cond.code yX10_thumbAll cX10_thumbAll 4 none ∈ gd := gd_t 866 (by decide +kernel) (by decide +kernel)
theorem cd_X10_thumb : Cond.code yX10_thumb cX10_thumb 6 (some .int) ∈ gd := gd_t 861 (by decide +kernel) (by decide +kernel)
theorem cd_X10_worth : Cond.code yX10_worth cX10_worth 5 (some .int) ∈ gd := gd_t 874 (by decide +kernel) (by decide +kernel)
theorem cd_X10_round : Cond.code yX10_round cX10_round 3 (some .int) ∈ gd := gd_t 878 (by decide +kernel) (by decide +kernel)
theorem cd_X10_soonest : Cond.code yX10_soonest cX10_soonest 6 (some .int) ∈ gd := gd_t 882 (by decide +kernel) (by decide +kernel)
theorem cd_X10_twoOf : Cond.code yX10_twoOf cX10_twoOf 9 (some .int) ∈ gd := gd_t 890 (by decide +kernel) (by decide +kernel)
theorem cd_X10_two : Cond.code yX10_two cX10_two 4 (some .int) ∈ gd := gd_t 886 (by decide +kernel) (by decide +kernel)
theorem cd_X10_share : Cond.code yX10_share cX10_share 7 (some .int) ∈ gd := gd_t 894 (by decide +kernel) (by decide +kernel)
theorem cd_X10_getsUp : Cond.code yX10_getsUp cX10_getsUp 3 (some .boolean) ∈ gd := gd_t 902 (by decide +kernel) (by decide +kernel)
theorem cd_X10_up : Cond.code yX10_up cX10_up 4 (some .int) ∈ gd := gd_t 898 (by decide +kernel) (by decide +kernel)
theorem cd_X10_trust : Cond.code yX10_trust cX10_trust 4 (some .int) ∈ gd := gd_t 906 (by decide +kernel) (by decide +kernel)
theorem cd_X10_thousandth : Cond.code yX10_thousandth cX10_thousandth 1 (some .int) ∈ gd := gd_t 915 (by decide +kernel) (by decide +kernel)
theorem cd_X10_draw : Cond.code yX10_draw cX10_draw 7 (some .int) ∈ gd := gd_t 910 (by decide +kernel) (by decide +kernel)
theorem cd_X10_pass : Cond.code yX10_pass cX10_pass 3 (some .int) ∈ gd := gd_t 928 (by decide +kernel) (by decide +kernel)
theorem cd_X10_passAll : Cond.code yX10_passAll cX10_passAll 2 none ∈ gd := gd_t 924 (by decide +kernel) (by decide +kernel)
theorem cd_X10_image : Cond.code yX10_image cX10_image 2 (some .int) ∈ gd := gd_t 920 (by decide +kernel) (by decide +kernel)
theorem cd_X10_restore : Cond.code yX10_restore cX10_restore 2 (some .int) ∈ gd := gd_t 932 (by decide +kernel) (by decide +kernel)
theorem cd_X10_told : Cond.code yX10_told cX10_told 2 (some .int) ∈ gd := gd_t 936 (by decide +kernel) (by decide +kernel)
theorem mk_X0_3 : Cond.methodLink RX0 3 objectInit ∈ gd := gd_t 151 (by decide +kernel) (by decide +kernel)
theorem ff_X0_9 : FF RX0 9 0 0 (.object "NapVoyage$Naps") := ⟨RX0, TX0, 6, tyX0, rfl, by decide, in_X0, tyX0_ok, nmX0, rfl, rfl, by decide +kernel, gd_t 170 (by decide +kernel) (by decide +kernel)⟩
theorem nw_X0_15 : NW RX0 15 7 3 [.int 0, .null, .null] := ⟨RX7, TX7, tyX7, rfl, in_X7, tyX7_ok, gd_t 152 (by decide +kernel) (by decide +kernel), gd_t 153 (by decide +kernel) (by decide +kernel), gd_t 9 (by decide +kernel) (by decide +kernel), by decide +kernel⟩
theorem ml_X0_17 : MLI RX0 17 yX7_init 0 := ⟨⟨Or.inr ⟨"NapVoyage", xw_t 154 (by decide +kernel) (by decide +kernel)⟩, gd_t 9 (by decide +kernel) (by decide +kernel), by decide, by decide, by decide +kernel⟩, gd_t 155 (by decide +kernel) (by decide +kernel), rfl⟩
theorem ff_X0_18 : FF RX0 18 0 1 (.object "NapVoyage$Track") := ⟨RX0, TX0, 6, tyX0, rfl, by decide, in_X0, tyX0_ok, nmX0, rfl, rfl, by decide +kernel, gd_t 171 (by decide +kernel) (by decide +kernel)⟩
theorem fw_X0_22 : FW RX0 22 0 2 (.object "NapVoyage$Way") := ⟨RX0, TX0, 6, tyX0, rfl, by decide, in_X0, tyX0_ok, nmX0, rfl, by decide +kernel, Or.inl (gd_t 173 (by decide +kernel) (by decide +kernel))⟩
theorem fw_X0_26 : FW RX0 26 0 3 .int := ⟨RX0, TX0, 6, tyX0, rfl, by decide, in_X0, tyX0_ok, nmX0, rfl, by decide +kernel, Or.inl (gd_t 174 (by decide +kernel) (by decide +kernel))⟩
theorem fw_X0_30 : FW RX0 30 0 4 .int := ⟨RX0, TX0, 6, tyX0, rfl, by decide, in_X0, tyX0_ok, nmX0, rfl, by decide +kernel, Or.inl (gd_t 176 (by decide +kernel) (by decide +kernel))⟩
theorem fw_X0_33 : FW RX0 33 0 5 .int := ⟨RX0, TX0, 6, tyX0, rfl, by decide, in_X0, tyX0_ok, nmX0, rfl, by decide +kernel, Or.inl (gd_t 178 (by decide +kernel) (by decide +kernel))⟩
theorem fl_X0_18 : FL RX0 18 0 1 := ⟨RX0, TX0, 6, rfl, by decide, in_X0, Or.inl (gd_t 171 (by decide +kernel) (by decide +kernel))⟩
theorem fw_X0_36 : FW RX0 36 7 0 .int := ⟨RX7, TX7, 3, tyX7, rfl, by decide, in_X7, tyX7_ok, nmX7, rfl, by decide +kernel, Or.inr ⟨"NapVoyage", xw_t 159 (by decide +kernel) (by decide +kernel)⟩⟩
theorem fl_X0_39 : FL RX0 39 3 0 := ⟨RX3, TX3, 2, rfl, by decide, in_X3, Or.inr ⟨"NapVoyage", xw_t 137 (by decide +kernel) (by decide +kernel)⟩⟩
theorem fl_X0_44 : FL RX0 44 3 1 := ⟨RX3, TX3, 2, rfl, by decide, in_X3, Or.inr ⟨"NapVoyage", xw_t 140 (by decide +kernel) (by decide +kernel)⟩⟩
theorem ml_X0_48 : MLS RX0 48 yX3_thingOf 1 := ⟨⟨Or.inr ⟨"NapVoyage", xw_t 372 (by decide +kernel) (by decide +kernel)⟩, gd_t 7 (by decide +kernel) (by decide +kernel), by decide, by decide, by decide +kernel⟩, gd_t 355 (by decide +kernel) (by decide +kernel)⟩
theorem ml_X0_52 : MLV RX0 52 yX0_doDeed 1 := ⟨⟨Or.inl (gd_t 373 (by decide +kernel) (by decide +kernel)), gd_t 8 (by decide +kernel) (by decide +kernel), by decide, by decide, by decide +kernel⟩, gd_t 375 (by decide +kernel) (by decide +kernel), gd_s 22 (by decide +kernel) (by decide +kernel)⟩
theorem fl_X0_22 : FL RX0 22 0 2 := ⟨RX0, TX0, 6, rfl, by decide, in_X0, Or.inl (gd_t 173 (by decide +kernel) (by decide +kernel))⟩
theorem fl_X0_26 : FL RX0 26 0 3 := ⟨RX0, TX0, 6, rfl, by decide, in_X0, Or.inl (gd_t 174 (by decide +kernel) (by decide +kernel))⟩
theorem fl_X0_56 : FL RX0 56 8 1 := ⟨RX8, TX8, 7, rfl, by decide, in_X8, Or.inr ⟨"NapVoyage", xw_t 40 (by decide +kernel) (by decide +kernel)⟩⟩
theorem ml_X0_61 : MLV RX0 61 yX0_thingByThumb 1 := ⟨⟨Or.inl (gd_t 521 (by decide +kernel) (by decide +kernel)), gd_t 8 (by decide +kernel) (by decide +kernel), by decide, by decide, by decide +kernel⟩, gd_t 523 (by decide +kernel) (by decide +kernel), gd_s 43 (by decide +kernel) (by decide +kernel)⟩
theorem ml_X0_64 : MLV RX0 64 yX8_lets 2 := ⟨⟨Or.inr ⟨"NapVoyage", xw_t 377 (by decide +kernel) (by decide +kernel)⟩, gd_t 3 (by decide +kernel) (by decide +kernel), by decide, by decide, by decide +kernel⟩, gd_t 294 (by decide +kernel) (by decide +kernel), gd_s 12 (by decide +kernel) (by decide +kernel)⟩
theorem ml_X0_68 : MLV RX0 68 yX0_saidByThumb 1 := ⟨⟨Or.inl (gd_t 525 (by decide +kernel) (by decide +kernel)), gd_t 8 (by decide +kernel) (by decide +kernel), by decide, by decide, by decide +kernel⟩, gd_t 527 (by decide +kernel) (by decide +kernel), gd_s 44 (by decide +kernel) (by decide +kernel)⟩
theorem fl_X0_30 : FL RX0 30 0 4 := ⟨RX0, TX0, 6, rfl, by decide, in_X0, Or.inl (gd_t 176 (by decide +kernel) (by decide +kernel))⟩
theorem ml_X0_71 : MLV RX0 71 yX8_shipsAt 1 := ⟨⟨Or.inr ⟨"NapVoyage", xw_t 382 (by decide +kernel) (by decide +kernel)⟩, gd_t 3 (by decide +kernel) (by decide +kernel), by decide, by decide, by decide +kernel⟩, gd_t 321 (by decide +kernel) (by decide +kernel), gd_s 15 (by decide +kernel) (by decide +kernel)⟩
theorem ml_X0_74 : MLS RX0 74 yX9_isNight 1 := ⟨⟨Or.inr ⟨"NapVoyage", xw_t 529 (by decide +kernel) (by decide +kernel)⟩, gd_t 1 (by decide +kernel) (by decide +kernel), by decide, by decide, by decide +kernel⟩, gd_t 313 (by decide +kernel) (by decide +kernel)⟩
theorem fl_X0_33 : FL RX0 33 0 5 := ⟨RX0, TX0, 6, rfl, by decide, in_X0, Or.inl (gd_t 178 (by decide +kernel) (by decide +kernel))⟩
theorem ml_X0_77 : MLS RX0 77 yX9_batteryOf 1 := ⟨⟨Or.inr ⟨"NapVoyage", xw_t 378 (by decide +kernel) (by decide +kernel)⟩, gd_t 1 (by decide +kernel) (by decide +kernel), by decide, by decide, by decide +kernel⟩, gd_t 379 (by decide +kernel) (by decide +kernel)⟩
theorem fl_X0_9 : FL RX0 9 0 0 := ⟨RX0, TX0, 6, rfl, by decide, in_X0, Or.inl (gd_t 170 (by decide +kernel) (by decide +kernel))⟩
theorem ml_X0_80 : MLV RX0 80 yX2_blindOf 2 := ⟨⟨Or.inr ⟨"NapVoyage", xw_t 381 (by decide +kernel) (by decide +kernel)⟩, gd_t 4 (by decide +kernel) (by decide +kernel), by decide, by decide, by decide +kernel⟩, gd_t 325 (by decide +kernel) (by decide +kernel), gd_s 16 (by decide +kernel) (by decide +kernel)⟩
theorem ml_X0_86 : MLV RX0 86 yX7_pass 2 := ⟨⟨Or.inr ⟨"NapVoyage", xw_t 383 (by decide +kernel) (by decide +kernel)⟩, gd_t 9 (by decide +kernel) (by decide +kernel), by decide, by decide, by decide +kernel⟩, gd_t 385 (by decide +kernel) (by decide +kernel), gd_s 23 (by decide +kernel) (by decide +kernel)⟩
theorem ml_X0_90 : MLV RX0 90 yX2_owedBehind 4 := ⟨⟨Or.inr ⟨"NapVoyage", xw_t 387 (by decide +kernel) (by decide +kernel)⟩, gd_t 4 (by decide +kernel) (by decide +kernel), by decide, by decide, by decide +kernel⟩, gd_t 303 (by decide +kernel) (by decide +kernel), gd_s 14 (by decide +kernel) (by decide +kernel)⟩
theorem ml_X0_94 : MLS RX0 94 yX9_hoursOf 1 := ⟨⟨Or.inr ⟨"NapVoyage", xw_t 388 (by decide +kernel) (by decide +kernel)⟩, gd_t 1 (by decide +kernel) (by decide +kernel), by decide, by decide, by decide +kernel⟩, gd_t 389 (by decide +kernel) (by decide +kernel)⟩
theorem ml_X0_97 : MLV RX0 97 yX8_squallAt 1 := ⟨⟨Or.inr ⟨"NapVoyage", xw_t 550 (by decide +kernel) (by decide +kernel)⟩, gd_t 3 (by decide +kernel) (by decide +kernel), by decide, by decide, by decide +kernel⟩, gd_t 299 (by decide +kernel) (by decide +kernel), gd_s 13 (by decide +kernel) (by decide +kernel)⟩
theorem mk_X0_100 : Cond.methodLink RX0 100 Lib.Math.min.name ∈ gd := gd_t 551 (by decide +kernel) (by decide +kernel)
theorem mk_X0_105 : Cond.methodLink RX0 105 Lib.Math.max.name ∈ gd := gd_t 552 (by decide +kernel) (by decide +kernel)
theorem ml_X0_108 : MLV RX0 108 yX7_safe 0 := ⟨⟨Or.inr ⟨"NapVoyage", xw_t 553 (by decide +kernel) (by decide +kernel)⟩, gd_t 9 (by decide +kernel) (by decide +kernel), by decide, by decide, by decide +kernel⟩, gd_t 393 (by decide +kernel) (by decide +kernel), gd_s 24 (by decide +kernel) (by decide +kernel)⟩
theorem mk_X1_3 : Cond.methodLink RX1 3 objectInit ∈ gd := gd_t 27 (by decide +kernel) (by decide +kernel)
theorem kl_X1_9 : Cond.classLink RX1 9 "NapVoyage$Way" ∈ gd := gd_t 28 (by decide +kernel) (by decide +kernel)
theorem ao_X8 : Cond.arrayOver (.object "NapVoyage$Way") ∈ xw := xw_t 29 (by decide +kernel) (by decide +kernel)
theorem ff_X1_11 : FF RX1 11 1 0 (.array (.object "NapVoyage$Way")) := ⟨RX1, TX1, 2, tyX1, rfl, by decide, in_X1, tyX1_ok, nmX1, rfl, rfl, by decide +kernel, gd_t 80 (by decide +kernel) (by decide +kernel)⟩
theorem fl_X1_11 : FL RX1 11 1 0 := ⟨RX1, TX1, 2, rfl, by decide, in_X1, Or.inl (gd_t 80 (by decide +kernel) (by decide +kernel))⟩
theorem nw_X1_9 : NW RX1 9 8 7 [.int 0, .int 0, .null, .null, .null, .null, .null] := ⟨RX8, TX8, tyX8, rfl, in_X8, tyX8_ok, gd_t 28 (by decide +kernel) (by decide +kernel), gd_t 30 (by decide +kernel) (by decide +kernel), gd_t 3 (by decide +kernel) (by decide +kernel), by decide +kernel⟩
theorem ml_X1_17 : MLI RX1 17 yX8_init 0 := ⟨⟨Or.inr ⟨"NapVoyage", xw_t 31 (by decide +kernel) (by decide +kernel)⟩, gd_t 3 (by decide +kernel) (by decide +kernel), by decide, by decide, by decide +kernel⟩, gd_t 32 (by decide +kernel) (by decide +kernel), rfl⟩
theorem nw_X1_18 : NW RX1 18 2 2 [.null, .null] := ⟨RX2, TX2, tyX2, rfl, in_X2, tyX2_ok, gd_t 65 (by decide +kernel) (by decide +kernel), gd_t 66 (by decide +kernel) (by decide +kernel), gd_t 4 (by decide +kernel) (by decide +kernel), by decide +kernel⟩
theorem ml_X1_20 : MLI RX1 20 yX2_init 0 := ⟨⟨Or.inr ⟨"NapVoyage", xw_t 67 (by decide +kernel) (by decide +kernel)⟩, gd_t 4 (by decide +kernel) (by decide +kernel), by decide, by decide, by decide +kernel⟩, gd_t 68 (by decide +kernel) (by decide +kernel), rfl⟩
theorem ff_X1_21 : FF RX1 21 1 1 (.object "NapVoyage$Naps") := ⟨RX1, TX1, 2, tyX1, rfl, by decide, in_X1, tyX1_ok, nmX1, rfl, rfl, by decide +kernel, gd_t 82 (by decide +kernel) (by decide +kernel)⟩
theorem ml_X1_25 : MLV RX1 25 yX8_copy 1 := ⟨⟨Or.inr ⟨"NapVoyage", xw_t 589 (by decide +kernel) (by decide +kernel)⟩, gd_t 3 (by decide +kernel) (by decide +kernel), by decide, by decide, by decide +kernel⟩, gd_t 591 (by decide +kernel) (by decide +kernel), gd_s 48 (by decide +kernel) (by decide +kernel)⟩
theorem fl_X1_21 : FL RX1 21 1 1 := ⟨RX1, TX1, 2, rfl, by decide, in_X1, Or.inl (gd_t 82 (by decide +kernel) (by decide +kernel))⟩
theorem ml_X1_29 : MLV RX1 29 yX2_copy 1 := ⟨⟨Or.inr ⟨"NapVoyage", xw_t 596 (by decide +kernel) (by decide +kernel)⟩, gd_t 4 (by decide +kernel) (by decide +kernel), by decide, by decide, by decide +kernel⟩, gd_t 598 (by decide +kernel) (by decide +kernel), gd_s 49 (by decide +kernel) (by decide +kernel)⟩
theorem mk_X2_3 : Cond.methodLink RX2 3 objectInit ∈ gd := gd_t 70 (by decide +kernel) (by decide +kernel)
theorem ff_X2_9 : FF RX2 9 2 0 (.array .int) := ⟨RX2, TX2, 2, tyX2, rfl, by decide, in_X2, tyX2_ok, nmX2, rfl, rfl, by decide +kernel, gd_t 71 (by decide +kernel) (by decide +kernel)⟩
theorem ff_X2_15 : FF RX2 15 2 1 (.array .int) := ⟨RX2, TX2, 2, tyX2, rfl, by decide, in_X2, tyX2_ok, nmX2, rfl, rfl, by decide +kernel, gd_t 73 (by decide +kernel) (by decide +kernel)⟩
theorem ml_X2_18 : MLS RX2 18 yX9_within 3 := ⟨⟨Or.inr ⟨"NapVoyage", xw_t 269 (by decide +kernel) (by decide +kernel)⟩, gd_t 1 (by decide +kernel) (by decide +kernel), by decide, by decide, by decide +kernel⟩, gd_t 221 (by decide +kernel) (by decide +kernel)⟩
theorem fl_X2_9 : FL RX2 9 2 0 := ⟨RX2, TX2, 2, rfl, by decide, in_X2, Or.inl (gd_t 71 (by decide +kernel) (by decide +kernel))⟩
theorem fl_X2_15 : FL RX2 15 2 1 := ⟨RX2, TX2, 2, rfl, by decide, in_X2, Or.inl (gd_t 73 (by decide +kernel) (by decide +kernel))⟩
theorem ml_X2_22 : MLV RX2 22 yX8_squallAt 1 := ⟨⟨Or.inr ⟨"NapVoyage", xw_t 305 (by decide +kernel) (by decide +kernel)⟩, gd_t 3 (by decide +kernel) (by decide +kernel), by decide, by decide, by decide +kernel⟩, gd_t 299 (by decide +kernel) (by decide +kernel), gd_s 13 (by decide +kernel) (by decide +kernel)⟩
theorem mk_X2_28 : Cond.methodLink RX2 28 Lib.Math.min.name ∈ gd := gd_t 306 (by decide +kernel) (by decide +kernel)
theorem mk_X2_34 : Cond.methodLink RX2 34 Lib.Math.max.name ∈ gd := gd_t 309 (by decide +kernel) (by decide +kernel)
theorem ml_X2_37 : MLS RX2 37 yX9_isNight 1 := ⟨⟨Or.inr ⟨"NapVoyage", xw_t 312 (by decide +kernel) (by decide +kernel)⟩, gd_t 1 (by decide +kernel) (by decide +kernel), by decide, by decide, by decide +kernel⟩, gd_t 313 (by decide +kernel) (by decide +kernel)⟩
theorem ml_X2_40 : MLV RX2 40 yX2_blindAlone 2 := ⟨⟨Or.inl (gd_t 327 (by decide +kernel) (by decide +kernel)), gd_t 4 (by decide +kernel) (by decide +kernel), by decide, by decide, by decide +kernel⟩, gd_t 329 (by decide +kernel) (by decide +kernel), gd_s 17 (by decide +kernel) (by decide +kernel)⟩
theorem mk_X2_43 : Cond.methodLink RX2 43 arraycopyName ∈ gd := gd_t 600 (by decide +kernel) (by decide +kernel)
theorem mk_X3_3 : Cond.methodLink RX3 3 objectInit ∈ gd := gd_t 135 (by decide +kernel) (by decide +kernel)
theorem ff_X3_9 : FF RX3 9 3 1 (.array .int) := ⟨RX3, TX3, 2, tyX3, rfl, by decide, in_X3, tyX3_ok, nmX3, rfl, rfl, by decide +kernel, gd_t 139 (by decide +kernel) (by decide +kernel)⟩
theorem fl_X3_15 : FL RX3 15 3 0 := ⟨RX3, TX3, 2, rfl, by decide, in_X3, Or.inl (gd_t 136 (by decide +kernel) (by decide +kernel))⟩
theorem fl_X3_9 : FL RX3 9 3 1 := ⟨RX3, TX3, 2, rfl, by decide, in_X3, Or.inl (gd_t 139 (by decide +kernel) (by decide +kernel))⟩
theorem fw_X3_15 : FW RX3 15 3 0 .int := ⟨RX3, TX3, 2, tyX3, rfl, by decide, in_X3, tyX3_ok, nmX3, rfl, by decide +kernel, Or.inl (gd_t 136 (by decide +kernel) (by decide +kernel))⟩
theorem ml_X3_19 : MLS RX3 19 yX3_wantedBehind 2 := ⟨⟨Or.inl (gd_t 351 (by decide +kernel) (by decide +kernel)), gd_t 7 (by decide +kernel) (by decide +kernel), by decide, by decide, by decide +kernel⟩, gd_t 352 (by decide +kernel) (by decide +kernel)⟩
theorem ml_X3_23 : MLS RX3 23 yX3_thingOf 1 := ⟨⟨Or.inl (gd_t 354 (by decide +kernel) (by decide +kernel)), gd_t 7 (by decide +kernel) (by decide +kernel), by decide, by decide, by decide +kernel⟩, gd_t 355 (by decide +kernel) (by decide +kernel)⟩
theorem mk_X4_3 : Cond.methodLink RX4 3 objectInit ∈ gd := gd_t 113 (by decide +kernel) (by decide +kernel)
theorem ff_X4_9 : FF RX4 9 4 0 (.object "NapVoyage$Way") := ⟨RX4, TX4, 4, tyX4, rfl, by decide, in_X4, tyX4_ok, nmX4, rfl, rfl, by decide +kernel, gd_t 116 (by decide +kernel) (by decide +kernel)⟩
theorem ff_X4_15 : FF RX4 15 4 1 (.object "NapVoyage$Naps") := ⟨RX4, TX4, 4, tyX4, rfl, by decide, in_X4, tyX4_ok, nmX4, rfl, rfl, by decide +kernel, gd_t 118 (by decide +kernel) (by decide +kernel)⟩
theorem ff_X4_19 : FF RX4 19 4 2 (.object "NapVoyage$Step") := ⟨RX4, TX4, 4, tyX4, rfl, by decide, in_X4, tyX4_ok, nmX4, rfl, rfl, by decide +kernel, gd_t 119 (by decide +kernel) (by decide +kernel)⟩
theorem kl_X4_23 : Cond.classLink RX4 23 "NapVoyage$Plane" ∈ gd := gd_t 114 (by decide +kernel) (by decide +kernel)
theorem ao_X5 : Cond.arrayOver (.object "NapVoyage$Plane") ∈ xw := xw_t 115 (by decide +kernel) (by decide +kernel)
theorem ff_X4_25 : FF RX4 25 4 3 (.array (.object "NapVoyage$Plane")) := ⟨RX4, TX4, 4, tyX4, rfl, by decide, in_X4, tyX4_ok, nmX4, rfl, rfl, by decide +kernel, gd_t 120 (by decide +kernel) (by decide +kernel)⟩
theorem fl_X4_25 : FL RX4 25 4 3 := ⟨RX4, TX4, 4, rfl, by decide, in_X4, Or.inl (gd_t 120 (by decide +kernel) (by decide +kernel))⟩
theorem fw_X4_29 : FW RX4 29 5 0 .int := ⟨RX5, TX5, 2, tyX5, rfl, by decide, in_X5, tyX5_ok, nmX5, rfl, by decide +kernel, Or.inr ⟨"NapVoyage", xw_t 436 (by decide +kernel) (by decide +kernel)⟩⟩
theorem fl_X4_9 : FL RX4 9 4 0 := ⟨RX4, TX4, 4, rfl, by decide, in_X4, Or.inl (gd_t 116 (by decide +kernel) (by decide +kernel))⟩
theorem fl_X4_33 : FL RX4 33 8 1 := ⟨RX8, TX8, 7, rfl, by decide, in_X8, Or.inr ⟨"NapVoyage", xw_t 39 (by decide +kernel) (by decide +kernel)⟩⟩
theorem ml_X4_38 : MLS RX4 38 yX9_within 3 := ⟨⟨Or.inr ⟨"NapVoyage", xw_t 413 (by decide +kernel) (by decide +kernel)⟩, gd_t 1 (by decide +kernel) (by decide +kernel), by decide, by decide, by decide +kernel⟩, gd_t 221 (by decide +kernel) (by decide +kernel)⟩
theorem ml_X4_42 : MLV RX4 42 yX4_fill 3 := ⟨⟨Or.inl (gd_t 418 (by decide +kernel) (by decide +kernel)), gd_t 6 (by decide +kernel) (by decide +kernel), by decide, by decide, by decide +kernel⟩, gd_t 420 (by decide +kernel) (by decide +kernel), gd_s 28 (by decide +kernel) (by decide +kernel)⟩
theorem ml_X4_46 : MLV RX4 46 yX4_planeOf 3 := ⟨⟨Or.inl (gd_t 422 (by decide +kernel) (by decide +kernel)), gd_t 6 (by decide +kernel) (by decide +kernel), by decide, by decide, by decide +kernel⟩, gd_t 424 (by decide +kernel) (by decide +kernel), gd_s 29 (by decide +kernel) (by decide +kernel)⟩
theorem ml_X4_50 : MLV RX4 50 yX5_at 1 := ⟨⟨Or.inr ⟨"NapVoyage", xw_t 486 (by decide +kernel) (by decide +kernel)⟩, gd_t 12 (by decide +kernel) (by decide +kernel), by decide, by decide, by decide +kernel⟩, gd_t 483 (by decide +kernel) (by decide +kernel), gd_s 38 (by decide +kernel) (by decide +kernel)⟩
theorem ml_X4_54 : MLV RX4 54 yX4_deedThere 4 := ⟨⟨Or.inl (gd_t 495 (by decide +kernel) (by decide +kernel)), gd_t 6 (by decide +kernel) (by decide +kernel), by decide, by decide, by decide +kernel⟩, gd_t 497 (by decide +kernel) (by decide +kernel), gd_s 40 (by decide +kernel) (by decide +kernel)⟩
theorem ml_X4_58 : MLS RX4 58 yX9_codeOf 1 := ⟨⟨Or.inr ⟨"NapVoyage", xw_t 511 (by decide +kernel) (by decide +kernel)⟩, gd_t 1 (by decide +kernel) (by decide +kernel), by decide, by decide, by decide +kernel⟩, gd_t 501 (by decide +kernel) (by decide +kernel)⟩
theorem fl_X4_15 : FL RX4 15 4 1 := ⟨RX4, TX4, 4, rfl, by decide, in_X4, Or.inl (gd_t 118 (by decide +kernel) (by decide +kernel))⟩
theorem ml_X4_61 : MLV RX4 61 yX2_owedBehind 4 := ⟨⟨Or.inr ⟨"NapVoyage", xw_t 512 (by decide +kernel) (by decide +kernel)⟩, gd_t 4 (by decide +kernel) (by decide +kernel), by decide, by decide, by decide +kernel⟩, gd_t 303 (by decide +kernel) (by decide +kernel), gd_s 14 (by decide +kernel) (by decide +kernel)⟩
theorem ml_X4_67 : MLS RX4 67 yX9_batteryOf 1 := ⟨⟨Or.inr ⟨"NapVoyage", xw_t 472 (by decide +kernel) (by decide +kernel)⟩, gd_t 1 (by decide +kernel) (by decide +kernel), by decide, by decide, by decide +kernel⟩, gd_t 379 (by decide +kernel) (by decide +kernel)⟩
theorem ml_X4_70 : MLS RX4 70 yX9_hoursOf 1 := ⟨⟨Or.inr ⟨"NapVoyage", xw_t 471 (by decide +kernel) (by decide +kernel)⟩, gd_t 1 (by decide +kernel) (by decide +kernel), by decide, by decide, by decide +kernel⟩, gd_t 389 (by decide +kernel) (by decide +kernel)⟩
theorem fl_X4_29 : FL RX4 29 5 0 := ⟨RX5, TX5, 2, rfl, by decide, in_X5, Or.inr ⟨"NapVoyage", xw_t 436 (by decide +kernel) (by decide +kernel)⟩⟩
theorem fl_X4_19 : FL RX4 19 4 2 := ⟨RX4, TX4, 4, rfl, by decide, in_X4, Or.inl (gd_t 119 (by decide +kernel) (by decide +kernel))⟩
theorem ml_X4_73 : MLV RX4 73 yX6_ready 3 := ⟨⟨Or.inr ⟨"NapVoyage", xw_t 443 (by decide +kernel) (by decide +kernel)⟩, gd_t 5 (by decide +kernel) (by decide +kernel), by decide, by decide, by decide +kernel⟩, gd_t 445 (by decide +kernel) (by decide +kernel), gd_s 31 (by decide +kernel) (by decide +kernel)⟩
theorem ml_X4_79 : MLV RX4 79 yX4_spendable 3 := ⟨⟨Or.inl (gd_t 426 (by decide +kernel) (by decide +kernel)), gd_t 6 (by decide +kernel) (by decide +kernel), by decide, by decide, by decide +kernel⟩, gd_t 428 (by decide +kernel) (by decide +kernel), gd_s 30 (by decide +kernel) (by decide +kernel)⟩
theorem ml_X4_83 : MLV RX4 83 yX4_fillHour 3 := ⟨⟨Or.inl (gd_t 457 (by decide +kernel) (by decide +kernel)), gd_t 6 (by decide +kernel) (by decide +kernel), by decide, by decide, by decide +kernel⟩, gd_t 459 (by decide +kernel) (by decide +kernel), gd_s 33 (by decide +kernel) (by decide +kernel)⟩
theorem kc_X4_86 : Cond.constant RX4 86 1000000 ∈ gd := gd_t 461 (by decide +kernel) (by decide +kernel)
theorem ml_X4_87 : MLV RX4 87 yX5_put 2 := ⟨⟨Or.inr ⟨"NapVoyage", xw_t 462 (by decide +kernel) (by decide +kernel)⟩, gd_t 12 (by decide +kernel) (by decide +kernel), by decide, by decide, by decide +kernel⟩, gd_t 464 (by decide +kernel) (by decide +kernel), gd_s 34 (by decide +kernel) (by decide +kernel)⟩
theorem ml_X4_91 : MLV RX4 91 yX4_planeBehind 4 := ⟨⟨Or.inl (gd_t 466 (by decide +kernel) (by decide +kernel)), gd_t 6 (by decide +kernel) (by decide +kernel), by decide, by decide, by decide +kernel⟩, gd_t 468 (by decide +kernel) (by decide +kernel), gd_s 35 (by decide +kernel) (by decide +kernel)⟩
theorem ml_X4_95 : MLV RX4 95 yX4_weigh 4 := ⟨⟨Or.inl (gd_t 473 (by decide +kernel) (by decide +kernel)), gd_t 6 (by decide +kernel) (by decide +kernel), by decide, by decide, by decide +kernel⟩, gd_t 475 (by decide +kernel) (by decide +kernel), gd_s 36 (by decide +kernel) (by decide +kernel)⟩
theorem ml_X4_99 : MLV RX4 99 yX6_safeBy 3 := ⟨⟨Or.inr ⟨"NapVoyage", xw_t 477 (by decide +kernel) (by decide +kernel)⟩, gd_t 5 (by decide +kernel) (by decide +kernel), by decide, by decide, by decide +kernel⟩, gd_t 479 (by decide +kernel) (by decide +kernel), gd_s 37 (by decide +kernel) (by decide +kernel)⟩
theorem ml_X4_103 : MLV RX4 103 yX6_readyFor 4 := ⟨⟨Or.inr ⟨"NapVoyage", xw_t 499 (by decide +kernel) (by decide +kernel)⟩, gd_t 5 (by decide +kernel) (by decide +kernel), by decide, by decide, by decide +kernel⟩, gd_t 449 (by decide +kernel) (by decide +kernel), gd_s 32 (by decide +kernel) (by decide +kernel)⟩
theorem ml_X4_107 : MLV RX4 107 yX8_lets 2 := ⟨⟨Or.inr ⟨"NapVoyage", xw_t 470 (by decide +kernel) (by decide +kernel)⟩, gd_t 3 (by decide +kernel) (by decide +kernel), by decide, by decide, by decide +kernel⟩, gd_t 294 (by decide +kernel) (by decide +kernel), gd_s 12 (by decide +kernel) (by decide +kernel)⟩
theorem nw_X4_23 : NW RX4 23 5 2 [.int 0, .null] := ⟨RX5, TX5, tyX5, rfl, in_X5, tyX5_ok, gd_t 114 (by decide +kernel) (by decide +kernel), gd_t 430 (by decide +kernel) (by decide +kernel), gd_t 12 (by decide +kernel) (by decide +kernel), by decide +kernel⟩
theorem ml_X4_111 : MLI RX4 111 yX5_init 0 := ⟨⟨Or.inr ⟨"NapVoyage", xw_t 431 (by decide +kernel) (by decide +kernel)⟩, gd_t 12 (by decide +kernel) (by decide +kernel), by decide, by decide, by decide +kernel⟩, gd_t 432 (by decide +kernel) (by decide +kernel), rfl⟩
theorem mk_X5_3 : Cond.methodLink RX5 3 objectInit ∈ gd := gd_t 434 (by decide +kernel) (by decide +kernel)
theorem fw_X5_11 : FW RX5 11 5 0 .int := ⟨RX5, TX5, 2, tyX5, rfl, by decide, in_X5, tyX5_ok, nmX5, rfl, by decide +kernel, Or.inl (gd_t 435 (by decide +kernel) (by decide +kernel))⟩
theorem ff_X5_15 : FF RX5 15 5 1 (.array .int) := ⟨RX5, TX5, 2, tyX5, rfl, by decide, in_X5, tyX5_ok, nmX5, rfl, rfl, by decide +kernel, gd_t 437 (by decide +kernel) (by decide +kernel)⟩
theorem fl_X5_15 : FL RX5 15 5 1 := ⟨RX5, TX5, 2, rfl, by decide, in_X5, Or.inl (gd_t 437 (by decide +kernel) (by decide +kernel))⟩
theorem mk_X6_3 : Cond.methodLink RX6 3 objectInit ∈ gd := gd_t 97 (by decide +kernel) (by decide +kernel)
theorem ff_X6_9 : FF RX6 9 6 0 (.array .int) := ⟨RX6, TX6, 3, tyX6, rfl, by decide, in_X6, tyX6_ok, nmX6, rfl, rfl, by decide +kernel, gd_t 98 (by decide +kernel) (by decide +kernel)⟩
theorem ff_X6_15 : FF RX6 15 6 1 (.array .int) := ⟨RX6, TX6, 3, tyX6, rfl, by decide, in_X6, tyX6_ok, nmX6, rfl, rfl, by decide +kernel, gd_t 99 (by decide +kernel) (by decide +kernel)⟩
theorem ff_X6_18 : FF RX6 18 6 2 (.array .int) := ⟨RX6, TX6, 3, tyX6, rfl, by decide, in_X6, tyX6_ok, nmX6, rfl, rfl, by decide +kernel, gd_t 100 (by decide +kernel) (by decide +kernel)⟩
theorem ml_X6_21 : MLV RX6 21 yX6_readyFor 4 := ⟨⟨Or.inl (gd_t 447 (by decide +kernel) (by decide +kernel)), gd_t 5 (by decide +kernel) (by decide +kernel), by decide, by decide, by decide +kernel⟩, gd_t 449 (by decide +kernel) (by decide +kernel), gd_s 32 (by decide +kernel) (by decide +kernel)⟩
theorem ml_X6_25 : MLS RX6 25 yX9_isOwed 1 := ⟨⟨Or.inr ⟨"NapVoyage", xw_t 451 (by decide +kernel) (by decide +kernel)⟩, gd_t 1 (by decide +kernel) (by decide +kernel), by decide, by decide, by decide +kernel⟩, gd_t 287 (by decide +kernel) (by decide +kernel)⟩
theorem ml_X6_29 : MLV RX6 29 yX2_blindOf 2 := ⟨⟨Or.inr ⟨"NapVoyage", xw_t 452 (by decide +kernel) (by decide +kernel)⟩, gd_t 4 (by decide +kernel) (by decide +kernel), by decide, by decide, by decide +kernel⟩, gd_t 325 (by decide +kernel) (by decide +kernel), gd_s 16 (by decide +kernel) (by decide +kernel)⟩
theorem fl_X6_9 : FL RX6 9 6 0 := ⟨RX6, TX6, 3, rfl, by decide, in_X6, Or.inl (gd_t 98 (by decide +kernel) (by decide +kernel))⟩
theorem ml_X6_35 : MLS RX6 35 yX9_hoursOf 1 := ⟨⟨Or.inr ⟨"NapVoyage", xw_t 453 (by decide +kernel) (by decide +kernel)⟩, gd_t 1 (by decide +kernel) (by decide +kernel), by decide, by decide, by decide +kernel⟩, gd_t 389 (by decide +kernel) (by decide +kernel)⟩
theorem ml_X6_39 : MLV RX6 39 yX2_owedBehind 4 := ⟨⟨Or.inr ⟨"NapVoyage", xw_t 454 (by decide +kernel) (by decide +kernel)⟩, gd_t 4 (by decide +kernel) (by decide +kernel), by decide, by decide, by decide +kernel⟩, gd_t 303 (by decide +kernel) (by decide +kernel), gd_s 14 (by decide +kernel) (by decide +kernel)⟩
theorem fl_X6_15 : FL RX6 15 6 1 := ⟨RX6, TX6, 3, rfl, by decide, in_X6, Or.inl (gd_t 99 (by decide +kernel) (by decide +kernel))⟩
theorem kc_X6_43 : Cond.constant RX6 43 1000000 ∈ gd := gd_t 455 (by decide +kernel) (by decide +kernel)
theorem ml_X6_44 : MLV RX6 44 yX8_shipsAt 1 := ⟨⟨Or.inr ⟨"NapVoyage", xw_t 456 (by decide +kernel) (by decide +kernel)⟩, gd_t 3 (by decide +kernel) (by decide +kernel), by decide, by decide, by decide +kernel⟩, gd_t 321 (by decide +kernel) (by decide +kernel), gd_s 15 (by decide +kernel) (by decide +kernel)⟩
theorem fl_X6_18 : FL RX6 18 6 2 := ⟨RX6, TX6, 3, rfl, by decide, in_X6, Or.inl (gd_t 100 (by decide +kernel) (by decide +kernel))⟩
theorem ml_X6_49 : MLV RX6 49 yX5_at 1 := ⟨⟨Or.inr ⟨"NapVoyage", xw_t 481 (by decide +kernel) (by decide +kernel)⟩, gd_t 12 (by decide +kernel) (by decide +kernel), by decide, by decide, by decide +kernel⟩, gd_t 483 (by decide +kernel) (by decide +kernel), gd_s 38 (by decide +kernel) (by decide +kernel)⟩
theorem kc_X6_54 : Cond.constantLong RX6 54 1000000 ∈ gd := gd_t 485 (by decide +kernel) (by decide +kernel)
theorem mk_X7_3 : Cond.methodLink RX7 3 objectInit ∈ gd := gd_t 157 (by decide +kernel) (by decide +kernel)
theorem ff_X7_9 : FF RX7 9 7 1 (.array .int) := ⟨RX7, TX7, 3, tyX7, rfl, by decide, in_X7, tyX7_ok, nmX7, rfl, rfl, by decide +kernel, gd_t 161 (by decide +kernel) (by decide +kernel)⟩
theorem ff_X7_15 : FF RX7 15 7 2 (.array .int) := ⟨RX7, TX7, 3, tyX7, rfl, by decide, in_X7, tyX7_ok, nmX7, rfl, rfl, by decide +kernel, gd_t 162 (by decide +kernel) (by decide +kernel)⟩
theorem fl_X7_18 : FL RX7 18 7 0 := ⟨RX7, TX7, 3, rfl, by decide, in_X7, Or.inl (gd_t 158 (by decide +kernel) (by decide +kernel))⟩
theorem fl_X7_9 : FL RX7 9 7 1 := ⟨RX7, TX7, 3, rfl, by decide, in_X7, Or.inl (gd_t 161 (by decide +kernel) (by decide +kernel))⟩
theorem fl_X7_15 : FL RX7 15 7 2 := ⟨RX7, TX7, 3, rfl, by decide, in_X7, Or.inl (gd_t 162 (by decide +kernel) (by decide +kernel))⟩
theorem fw_X7_18 : FW RX7 18 7 0 .int := ⟨RX7, TX7, 3, tyX7, rfl, by decide, in_X7, tyX7_ok, nmX7, rfl, by decide +kernel, Or.inl (gd_t 158 (by decide +kernel) (by decide +kernel))⟩
theorem kc_X7_22 : Cond.constant RX7 22 1000000 ∈ gd := gd_t 395 (by decide +kernel) (by decide +kernel)
theorem ml_X7_23 : MLS RX7 23 yX9_lessened 2 := ⟨⟨Or.inr ⟨"NapVoyage", xw_t 396 (by decide +kernel) (by decide +kernel)⟩, gd_t 1 (by decide +kernel) (by decide +kernel), by decide, by decide, by decide +kernel⟩, gd_t 397 (by decide +kernel) (by decide +kernel)⟩
theorem ml_X7_27 : MLS RX7 27 yX7_drawBehind 1 := ⟨⟨Or.inl (gd_t 577 (by decide +kernel) (by decide +kernel)), gd_t 9 (by decide +kernel) (by decide +kernel), by decide, by decide, by decide +kernel⟩, gd_t 578 (by decide +kernel) (by decide +kernel)⟩
theorem kc_X7_31 : Cond.constant RX7 31 65537 ∈ gd := gd_t 580 (by decide +kernel) (by decide +kernel)
theorem mk_X8_3 : Cond.methodLink RX8 3 objectInit ∈ gd := gd_t 34 (by decide +kernel) (by decide +kernel)
theorem ff_X8_9 : FF RX8 9 8 2 (.array .int) := ⟨RX8, TX8, 7, tyX8, rfl, by decide, in_X8, tyX8_ok, nmX8, rfl, rfl, by decide +kernel, gd_t 41 (by decide +kernel) (by decide +kernel)⟩
theorem ff_X8_15 : FF RX8 15 8 3 (.array .int) := ⟨RX8, TX8, 7, tyX8, rfl, by decide, in_X8, tyX8_ok, nmX8, rfl, rfl, by decide +kernel, gd_t 43 (by decide +kernel) (by decide +kernel)⟩
theorem ff_X8_18 : FF RX8 18 8 4 (.array .int) := ⟨RX8, TX8, 7, tyX8, rfl, by decide, in_X8, tyX8_ok, nmX8, rfl, rfl, by decide +kernel, gd_t 45 (by decide +kernel) (by decide +kernel)⟩
theorem ff_X8_21 : FF RX8 21 8 5 (.array .int) := ⟨RX8, TX8, 7, tyX8, rfl, by decide, in_X8, tyX8_ok, nmX8, rfl, rfl, by decide +kernel, gd_t 47 (by decide +kernel) (by decide +kernel)⟩
theorem ff_X8_24 : FF RX8 24 8 6 (.array .int) := ⟨RX8, TX8, 7, tyX8, rfl, by decide, in_X8, tyX8_ok, nmX8, rfl, rfl, by decide +kernel, gd_t 48 (by decide +kernel) (by decide +kernel)⟩
theorem fl_X8_27 : FL RX8 27 8 0 := ⟨RX8, TX8, 7, rfl, by decide, in_X8, Or.inl (gd_t 35 (by decide +kernel) (by decide +kernel))⟩
theorem fl_X8_31 : FL RX8 31 8 1 := ⟨RX8, TX8, 7, rfl, by decide, in_X8, Or.inl (gd_t 37 (by decide +kernel) (by decide +kernel))⟩
theorem ml_X8_34 : MLS RX8 34 yX9_within 3 := ⟨⟨Or.inr ⟨"NapVoyage", xw_t 256 (by decide +kernel) (by decide +kernel)⟩, gd_t 1 (by decide +kernel) (by decide +kernel), by decide, by decide, by decide +kernel⟩, gd_t 221 (by decide +kernel) (by decide +kernel)⟩
theorem ml_X8_38 : MLV RX8 38 yX8_hasRoom 1 := ⟨⟨Or.inl (gd_t 231 (by decide +kernel) (by decide +kernel)), gd_t 3 (by decide +kernel) (by decide +kernel), by decide, by decide, by decide +kernel⟩, gd_t 225 (by decide +kernel) (by decide +kernel), gd_s 1 (by decide +kernel) (by decide +kernel)⟩
theorem fl_X8_9 : FL RX8 9 8 2 := ⟨RX8, TX8, 7, rfl, by decide, in_X8, Or.inl (gd_t 41 (by decide +kernel) (by decide +kernel))⟩
theorem fl_X8_15 : FL RX8 15 8 3 := ⟨RX8, TX8, 7, rfl, by decide, in_X8, Or.inl (gd_t 43 (by decide +kernel) (by decide +kernel))⟩
theorem fl_X8_18 : FL RX8 18 8 4 := ⟨RX8, TX8, 7, rfl, by decide, in_X8, Or.inl (gd_t 45 (by decide +kernel) (by decide +kernel))⟩
theorem fw_X8_27 : FW RX8 27 8 0 .int := ⟨RX8, TX8, 7, tyX8, rfl, by decide, in_X8, tyX8_ok, nmX8, rfl, by decide +kernel, Or.inl (gd_t 35 (by decide +kernel) (by decide +kernel))⟩
theorem fl_X8_21 : FL RX8 21 8 5 := ⟨RX8, TX8, 7, rfl, by decide, in_X8, Or.inl (gd_t 47 (by decide +kernel) (by decide +kernel))⟩
theorem fl_X8_24 : FL RX8 24 8 6 := ⟨RX8, TX8, 7, rfl, by decide, in_X8, Or.inl (gd_t 48 (by decide +kernel) (by decide +kernel))⟩
theorem fw_X8_31 : FW RX8 31 8 1 .int := ⟨RX8, TX8, 7, tyX8, rfl, by decide, in_X8, tyX8_ok, nmX8, rfl, by decide +kernel, Or.inl (gd_t 37 (by decide +kernel) (by decide +kernel))⟩
theorem ml_X8_42 : MLV RX8 42 yX8_hasHour 1 := ⟨⟨Or.inl (gd_t 296 (by decide +kernel) (by decide +kernel)), gd_t 3 (by decide +kernel) (by decide +kernel), by decide, by decide, by decide +kernel⟩, gd_t 284 (by decide +kernel) (by decide +kernel), gd_s 11 (by decide +kernel) (by decide +kernel)⟩
theorem ml_X8_45 : MLV RX8 45 yX8_squallAt 1 := ⟨⟨Or.inl (gd_t 297 (by decide +kernel) (by decide +kernel)), gd_t 3 (by decide +kernel) (by decide +kernel), by decide, by decide, by decide +kernel⟩, gd_t 299 (by decide +kernel) (by decide +kernel), gd_s 13 (by decide +kernel) (by decide +kernel)⟩
theorem mk_X8_48 : Cond.methodLink RX8 48 arraycopyName ∈ gd := gd_t 593 (by decide +kernel) (by decide +kernel)
theorem mk_X9_3 : Cond.methodLink RX9 3 objectInit ∈ gd := gd_t 19 (by decide +kernel) (by decide +kernel)
theorem nw_X9_9 : NW RX9 9 1 2 [.null, .null] := ⟨RX1, TX1, tyX1, rfl, in_X1, tyX1_ok, gd_t 22 (by decide +kernel) (by decide +kernel), gd_t 23 (by decide +kernel) (by decide +kernel), gd_t 2 (by decide +kernel) (by decide +kernel), by decide +kernel⟩
theorem ml_X9_11 : MLI RX9 11 yX1_init 0 := ⟨⟨Or.inr ⟨"NapVoyage", xw_t 24 (by decide +kernel) (by decide +kernel)⟩, gd_t 2 (by decide +kernel) (by decide +kernel), by decide, by decide, by decide +kernel⟩, gd_t 25 (by decide +kernel) (by decide +kernel), rfl⟩
theorem ff_X9_12 : FF RX9 12 9 0 (.object "NapVoyage$Chart") := ⟨RX9, TX9, 6, tyX9, rfl, by decide, in_X9, tyX9_ok, nmX9, rfl, rfl, by decide +kernel, gd_t 193 (by decide +kernel) (by decide +kernel)⟩
theorem kl_X9_9 : Cond.classLink RX9 9 "NapVoyage$Chart" ∈ gd := gd_t 22 (by decide +kernel) (by decide +kernel)
theorem ao_X1 : Cond.arrayOver (.object "NapVoyage$Chart") ∈ xw := xw_t 89 (by decide +kernel) (by decide +kernel)
theorem ff_X9_16 : FF RX9 16 9 1 (.array (.object "NapVoyage$Chart")) := ⟨RX9, TX9, 6, tyX9, rfl, by decide, in_X9, tyX9_ok, nmX9, rfl, rfl, by decide +kernel, gd_t 194 (by decide +kernel) (by decide +kernel)⟩
theorem ff_X9_20 : FF RX9 20 9 2 (.array .boolean) := ⟨RX9, TX9, 6, tyX9, rfl, by decide, in_X9, tyX9_ok, nmX9, rfl, rfl, by decide +kernel, gd_t 195 (by decide +kernel) (by decide +kernel)⟩
theorem fl_X9_16 : FL RX9 16 9 1 := ⟨RX9, TX9, 6, rfl, by decide, in_X9, Or.inl (gd_t 194 (by decide +kernel) (by decide +kernel))⟩
theorem kl_X9_24 : Cond.classLink RX9 24 "NapVoyage$Plan" ∈ gd := gd_t 90 (by decide +kernel) (by decide +kernel)
theorem ao_X4 : Cond.arrayOver (.object "NapVoyage$Plan") ∈ xw := xw_t 91 (by decide +kernel) (by decide +kernel)
theorem ff_X9_26 : FF RX9 26 9 3 (.array (.object "NapVoyage$Plan")) := ⟨RX9, TX9, 6, tyX9, rfl, by decide, in_X9, tyX9_ok, nmX9, rfl, rfl, by decide +kernel, gd_t 196 (by decide +kernel) (by decide +kernel)⟩
theorem nw_X9_30 : NW RX9 30 6 3 [.null, .null, .null] := ⟨RX6, TX6, tyX6, rfl, in_X6, tyX6_ok, gd_t 92 (by decide +kernel) (by decide +kernel), gd_t 93 (by decide +kernel) (by decide +kernel), gd_t 5 (by decide +kernel) (by decide +kernel), by decide +kernel⟩
theorem ml_X9_32 : MLI RX9 32 yX6_init 0 := ⟨⟨Or.inr ⟨"NapVoyage", xw_t 94 (by decide +kernel) (by decide +kernel)⟩, gd_t 5 (by decide +kernel) (by decide +kernel), by decide, by decide, by decide +kernel⟩, gd_t 95 (by decide +kernel) (by decide +kernel), rfl⟩
theorem fl_X9_26 : FL RX9 26 9 3 := ⟨RX9, TX9, 6, rfl, by decide, in_X9, Or.inl (gd_t 196 (by decide +kernel) (by decide +kernel))⟩
theorem nw_X9_24 : NW RX9 24 4 4 [.null, .null, .null, .null] := ⟨RX4, TX4, tyX4, rfl, in_X4, tyX4_ok, gd_t 90 (by decide +kernel) (by decide +kernel), gd_t 109 (by decide +kernel) (by decide +kernel), gd_t 6 (by decide +kernel) (by decide +kernel), by decide +kernel⟩
theorem fl_X9_12 : FL RX9 12 9 0 := ⟨RX9, TX9, 6, rfl, by decide, in_X9, Or.inl (gd_t 193 (by decide +kernel) (by decide +kernel))⟩
theorem fl_X9_33 : FL RX9 33 1 0 := ⟨RX1, TX1, 2, rfl, by decide, in_X1, Or.inr ⟨"NapVoyage", xw_t 81 (by decide +kernel) (by decide +kernel)⟩⟩
theorem fl_X9_37 : FL RX9 37 1 1 := ⟨RX1, TX1, 2, rfl, by decide, in_X1, Or.inr ⟨"NapVoyage", xw_t 83 (by decide +kernel) (by decide +kernel)⟩⟩
theorem ml_X9_41 : MLI RX9 41 yX4_init 3 := ⟨⟨Or.inr ⟨"NapVoyage", xw_t 110 (by decide +kernel) (by decide +kernel)⟩, gd_t 6 (by decide +kernel) (by decide +kernel), by decide, by decide, by decide +kernel⟩, gd_t 111 (by decide +kernel) (by decide +kernel), rfl⟩
theorem nw_X9_44 : NW RX9 44 3 2 [.int 0, .null] := ⟨RX3, TX3, tyX3, rfl, in_X3, tyX3_ok, gd_t 130 (by decide +kernel) (by decide +kernel), gd_t 131 (by decide +kernel) (by decide +kernel), gd_t 7 (by decide +kernel) (by decide +kernel), by decide +kernel⟩
theorem ml_X9_46 : MLI RX9 46 yX3_init 0 := ⟨⟨Or.inr ⟨"NapVoyage", xw_t 132 (by decide +kernel) (by decide +kernel)⟩, gd_t 7 (by decide +kernel) (by decide +kernel), by decide, by decide, by decide +kernel⟩, gd_t 133 (by decide +kernel) (by decide +kernel), rfl⟩
theorem ff_X9_47 : FF RX9 47 9 4 (.object "NapVoyage$Pad") := ⟨RX9, TX9, 6, tyX9, rfl, by decide, in_X9, tyX9_ok, nmX9, rfl, rfl, by decide +kernel, gd_t 197 (by decide +kernel) (by decide +kernel)⟩
theorem nw_X9_51 : NW RX9 51 0 6 [.null, .null, .null, .int 0, .int 0, .int 0] := ⟨RX0, TX0, tyX0, rfl, in_X0, tyX0_ok, gd_t 146 (by decide +kernel) (by decide +kernel), gd_t 147 (by decide +kernel) (by decide +kernel), gd_t 8 (by decide +kernel) (by decide +kernel), by decide +kernel⟩
theorem ml_X9_53 : MLI RX9 53 yX0_init 1 := ⟨⟨Or.inr ⟨"NapVoyage", xw_t 148 (by decide +kernel) (by decide +kernel)⟩, gd_t 8 (by decide +kernel) (by decide +kernel), by decide, by decide, by decide +kernel⟩, gd_t 149 (by decide +kernel) (by decide +kernel), rfl⟩
theorem ff_X9_56 : FF RX9 56 9 5 (.object "NapVoyage$Boat") := ⟨RX9, TX9, 6, tyX9, rfl, by decide, in_X9, tyX9_ok, nmX9, rfl, rfl, by decide +kernel, gd_t 198 (by decide +kernel) (by decide +kernel)⟩
theorem ml_X9_60 : MLV RX9 60 yX9_planOf 1 := ⟨⟨Or.inl (gd_t 216 (by decide +kernel) (by decide +kernel)), gd_t 1 (by decide +kernel) (by decide +kernel), by decide, by decide, by decide +kernel⟩, gd_t 218 (by decide +kernel) (by decide +kernel), gd_s 0 (by decide +kernel) (by decide +kernel)⟩
theorem ml_X9_64 : MLS RX9 64 yX9_within 3 := ⟨⟨Or.inl (gd_t 220 (by decide +kernel) (by decide +kernel)), gd_t 1 (by decide +kernel) (by decide +kernel), by decide, by decide, by decide +kernel⟩, gd_t 221 (by decide +kernel) (by decide +kernel)⟩
theorem fl_X9_68 : FL RX9 68 4 0 := ⟨RX4, TX4, 4, rfl, by decide, in_X4, Or.inr ⟨"NapVoyage", xw_t 117 (by decide +kernel) (by decide +kernel)⟩⟩
theorem ml_X9_72 : MLV RX9 72 yX8_hasRoom 1 := ⟨⟨Or.inr ⟨"NapVoyage", xw_t 223 (by decide +kernel) (by decide +kernel)⟩, gd_t 3 (by decide +kernel) (by decide +kernel), by decide, by decide, by decide +kernel⟩, gd_t 225 (by decide +kernel) (by decide +kernel), gd_s 1 (by decide +kernel) (by decide +kernel)⟩
theorem ml_X9_78 : MLV RX9 78 yX8_lengthen 3 := ⟨⟨Or.inr ⟨"NapVoyage", xw_t 227 (by decide +kernel) (by decide +kernel)⟩, gd_t 3 (by decide +kernel) (by decide +kernel), by decide, by decide, by decide +kernel⟩, gd_t 229 (by decide +kernel) (by decide +kernel), gd_s 2 (by decide +kernel) (by decide +kernel)⟩
theorem ml_X9_82 : MLV RX9 82 yX4_forget 0 := ⟨⟨Or.inr ⟨"NapVoyage", xw_t 232 (by decide +kernel) (by decide +kernel)⟩, gd_t 6 (by decide +kernel) (by decide +kernel), by decide, by decide, by decide +kernel⟩, gd_t 234 (by decide +kernel) (by decide +kernel), gd_s 3 (by decide +kernel) (by decide +kernel)⟩
theorem fl_X9_85 : FL RX9 85 8 1 := ⟨RX8, TX8, 7, rfl, by decide, in_X8, Or.inr ⟨"NapVoyage", xw_t 38 (by decide +kernel) (by decide +kernel)⟩⟩
theorem fl_X9_89 : FL RX9 89 8 0 := ⟨RX8, TX8, 7, rfl, by decide, in_X8, Or.inr ⟨"NapVoyage", xw_t 36 (by decide +kernel) (by decide +kernel)⟩⟩
theorem ml_X9_92 : MLV RX9 92 yX8_shorten 0 := ⟨⟨Or.inr ⟨"NapVoyage", xw_t 240 (by decide +kernel) (by decide +kernel)⟩, gd_t 3 (by decide +kernel) (by decide +kernel), by decide, by decide, by decide +kernel⟩, gd_t 242 (by decide +kernel) (by decide +kernel), gd_s 4 (by decide +kernel) (by decide +kernel)⟩
theorem ml_X9_95 : MLV RX9 95 yX9_wayOf 1 := ⟨⟨Or.inl (gd_t 248 (by decide +kernel) (by decide +kernel)), gd_t 1 (by decide +kernel) (by decide +kernel), by decide, by decide, by decide +kernel⟩, gd_t 250 (by decide +kernel) (by decide +kernel), gd_s 5 (by decide +kernel) (by decide +kernel)⟩
theorem ml_X9_99 : MLV RX9 99 yX8_hasLeg 1 := ⟨⟨Or.inr ⟨"NapVoyage", xw_t 252 (by decide +kernel) (by decide +kernel)⟩, gd_t 3 (by decide +kernel) (by decide +kernel), by decide, by decide, by decide +kernel⟩, gd_t 254 (by decide +kernel) (by decide +kernel), gd_s 6 (by decide +kernel) (by decide +kernel)⟩
theorem fl_X9_102 : FL RX9 102 8 2 := ⟨RX8, TX8, 7, rfl, by decide, in_X8, Or.inr ⟨"NapVoyage", xw_t 42 (by decide +kernel) (by decide +kernel)⟩⟩
theorem fl_X9_106 : FL RX9 106 8 3 := ⟨RX8, TX8, 7, rfl, by decide, in_X8, Or.inr ⟨"NapVoyage", xw_t 44 (by decide +kernel) (by decide +kernel)⟩⟩
theorem fl_X9_109 : FL RX9 109 8 4 := ⟨RX8, TX8, 7, rfl, by decide, in_X8, Or.inr ⟨"NapVoyage", xw_t 46 (by decide +kernel) (by decide +kernel)⟩⟩
theorem ml_X9_112 : MLV RX9 112 yX8_firstHourOf 1 := ⟨⟨Or.inr ⟨"NapVoyage", xw_t 257 (by decide +kernel) (by decide +kernel)⟩, gd_t 3 (by decide +kernel) (by decide +kernel), by decide, by decide, by decide +kernel⟩, gd_t 259 (by decide +kernel) (by decide +kernel), gd_s 7 (by decide +kernel) (by decide +kernel)⟩
theorem ml_X9_116 : MLV RX9 116 yX2_changeGive 2 := ⟨⟨Or.inr ⟨"NapVoyage", xw_t 265 (by decide +kernel) (by decide +kernel)⟩, gd_t 4 (by decide +kernel) (by decide +kernel), by decide, by decide, by decide +kernel⟩, gd_t 267 (by decide +kernel) (by decide +kernel), gd_s 8 (by decide +kernel) (by decide +kernel)⟩
theorem ml_X9_122 : MLV RX9 122 yX2_changeDeep 2 := ⟨⟨Or.inr ⟨"NapVoyage", xw_t 270 (by decide +kernel) (by decide +kernel)⟩, gd_t 4 (by decide +kernel) (by decide +kernel), by decide, by decide, by decide +kernel⟩, gd_t 272 (by decide +kernel) (by decide +kernel), gd_s 9 (by decide +kernel) (by decide +kernel)⟩
theorem ml_X9_125 : MLV RX9 125 yX9_forgetPlans 0 := ⟨⟨Or.inl (gd_t 274 (by decide +kernel) (by decide +kernel)), gd_t 1 (by decide +kernel) (by decide +kernel), by decide, by decide, by decide +kernel⟩, gd_t 276 (by decide +kernel) (by decide +kernel), gd_s 10 (by decide +kernel) (by decide +kernel)⟩
theorem ml_X9_128 : MLV RX9 128 yX8_hasHour 1 := ⟨⟨Or.inr ⟨"NapVoyage", xw_t 282 (by decide +kernel) (by decide +kernel)⟩, gd_t 3 (by decide +kernel) (by decide +kernel), by decide, by decide, by decide +kernel⟩, gd_t 284 (by decide +kernel) (by decide +kernel), gd_s 11 (by decide +kernel) (by decide +kernel)⟩
theorem ml_X9_131 : MLS RX9 131 yX9_isOwed 1 := ⟨⟨Or.inl (gd_t 286 (by decide +kernel) (by decide +kernel)), gd_t 1 (by decide +kernel) (by decide +kernel), by decide, by decide, by decide +kernel⟩, gd_t 287 (by decide +kernel) (by decide +kernel)⟩
theorem ml_X9_134 : MLS RX9 134 yX9_isThing 1 := ⟨⟨Or.inl (gd_t 289 (by decide +kernel) (by decide +kernel)), gd_t 1 (by decide +kernel) (by decide +kernel), by decide, by decide, by decide +kernel⟩, gd_t 290 (by decide +kernel) (by decide +kernel)⟩
theorem ml_X9_137 : MLV RX9 137 yX8_lets 2 := ⟨⟨Or.inr ⟨"NapVoyage", xw_t 292 (by decide +kernel) (by decide +kernel)⟩, gd_t 3 (by decide +kernel) (by decide +kernel), by decide, by decide, by decide +kernel⟩, gd_t 294 (by decide +kernel) (by decide +kernel), gd_s 12 (by decide +kernel) (by decide +kernel)⟩
theorem ml_X9_141 : MLV RX9 141 yX2_owedBehind 4 := ⟨⟨Or.inr ⟨"NapVoyage", xw_t 301 (by decide +kernel) (by decide +kernel)⟩, gd_t 4 (by decide +kernel) (by decide +kernel), by decide, by decide, by decide +kernel⟩, gd_t 303 (by decide +kernel) (by decide +kernel), gd_s 14 (by decide +kernel) (by decide +kernel)⟩
theorem ml_X9_145 : MLV RX9 145 yX8_shipsAt 1 := ⟨⟨Or.inr ⟨"NapVoyage", xw_t 319 (by decide +kernel) (by decide +kernel)⟩, gd_t 3 (by decide +kernel) (by decide +kernel), by decide, by decide, by decide +kernel⟩, gd_t 321 (by decide +kernel) (by decide +kernel), gd_s 15 (by decide +kernel) (by decide +kernel)⟩
theorem ml_X9_148 : MLV RX9 148 yX2_blindOf 2 := ⟨⟨Or.inr ⟨"NapVoyage", xw_t 323 (by decide +kernel) (by decide +kernel)⟩, gd_t 4 (by decide +kernel) (by decide +kernel), by decide, by decide, by decide +kernel⟩, gd_t 325 (by decide +kernel) (by decide +kernel), gd_s 16 (by decide +kernel) (by decide +kernel)⟩
theorem fl_X9_47 : FL RX9 47 9 4 := ⟨RX9, TX9, 6, rfl, by decide, in_X9, Or.inl (gd_t 197 (by decide +kernel) (by decide +kernel))⟩
theorem ml_X9_151 : MLV RX9 151 yX3_write 1 := ⟨⟨Or.inr ⟨"NapVoyage", xw_t 335 (by decide +kernel) (by decide +kernel)⟩, gd_t 7 (by decide +kernel) (by decide +kernel), by decide, by decide, by decide +kernel⟩, gd_t 337 (by decide +kernel) (by decide +kernel), gd_s 18 (by decide +kernel) (by decide +kernel)⟩
theorem fl_X9_154 : FL RX9 154 3 0 := ⟨RX3, TX3, 2, rfl, by decide, in_X3, Or.inr ⟨"NapVoyage", xw_t 138 (by decide +kernel) (by decide +kernel)⟩⟩
theorem fw_X9_154 : FW RX9 154 3 0 .int := ⟨RX3, TX3, 2, tyX3, rfl, by decide, in_X3, tyX3_ok, nmX3, rfl, by decide +kernel, Or.inr ⟨"NapVoyage", xw_t 138 (by decide +kernel) (by decide +kernel)⟩⟩
theorem ml_X9_157 : MLV RX9 157 yX3_faultPlace 0 := ⟨⟨Or.inr ⟨"NapVoyage", xw_t 347 (by decide +kernel) (by decide +kernel)⟩, gd_t 7 (by decide +kernel) (by decide +kernel), by decide, by decide, by decide +kernel⟩, gd_t 349 (by decide +kernel) (by decide +kernel), gd_s 19 (by decide +kernel) (by decide +kernel)⟩
theorem ml_X9_161 : MLS RX9 161 yX9_isBattery 1 := ⟨⟨Or.inl (gd_t 361 (by decide +kernel) (by decide +kernel)), gd_t 1 (by decide +kernel) (by decide +kernel), by decide, by decide, by decide +kernel⟩, gd_t 362 (by decide +kernel) (by decide +kernel)⟩
theorem fl_X9_56 : FL RX9 56 9 5 := ⟨RX9, TX9, 6, rfl, by decide, in_X9, Or.inl (gd_t 198 (by decide +kernel) (by decide +kernel))⟩
theorem ml_X9_164 : MLV RX9 164 yX0_setOut 3 := ⟨⟨Or.inr ⟨"NapVoyage", xw_t 364 (by decide +kernel) (by decide +kernel)⟩, gd_t 8 (by decide +kernel) (by decide +kernel), by decide, by decide, by decide +kernel⟩, gd_t 366 (by decide +kernel) (by decide +kernel), gd_s 20 (by decide +kernel) (by decide +kernel)⟩
theorem ml_X9_168 : MLV RX9 168 yX0_sailBy 1 := ⟨⟨Or.inr ⟨"NapVoyage", xw_t 368 (by decide +kernel) (by decide +kernel)⟩, gd_t 8 (by decide +kernel) (by decide +kernel), by decide, by decide, by decide +kernel⟩, gd_t 370 (by decide +kernel) (by decide +kernel), gd_s 21 (by decide +kernel) (by decide +kernel)⟩
theorem fl_X9_172 : FL RX9 172 0 1 := ⟨RX0, TX0, 6, rfl, by decide, in_X0, Or.inr ⟨"NapVoyage", xw_t 172 (by decide +kernel) (by decide +kernel)⟩⟩
theorem fl_X9_176 : FL RX9 176 7 0 := ⟨RX7, TX7, 3, rfl, by decide, in_X7, Or.inr ⟨"NapVoyage", xw_t 160 (by decide +kernel) (by decide +kernel)⟩⟩
theorem fl_X9_181 : FL RX9 181 0 4 := ⟨RX0, TX0, 6, rfl, by decide, in_X0, Or.inr ⟨"NapVoyage", xw_t 177 (by decide +kernel) (by decide +kernel)⟩⟩
theorem ml_X9_184 : MLV RX9 184 yX7_safe 0 := ⟨⟨Or.inr ⟨"NapVoyage", xw_t 391 (by decide +kernel) (by decide +kernel)⟩, gd_t 9 (by decide +kernel) (by decide +kernel), by decide, by decide, by decide +kernel⟩, gd_t 393 (by decide +kernel) (by decide +kernel), gd_s 24 (by decide +kernel) (by decide +kernel)⟩
theorem ml_X9_187 : MLV RX9 187 yX7_riskiest 0 := ⟨⟨Or.inr ⟨"NapVoyage", xw_t 401 (by decide +kernel) (by decide +kernel)⟩, gd_t 9 (by decide +kernel) (by decide +kernel), by decide, by decide, by decide +kernel⟩, gd_t 403 (by decide +kernel) (by decide +kernel), gd_s 25 (by decide +kernel) (by decide +kernel)⟩
theorem fl_X9_190 : FL RX9 190 0 3 := ⟨RX0, TX0, 6, rfl, by decide, in_X0, Or.inr ⟨"NapVoyage", xw_t 175 (by decide +kernel) (by decide +kernel)⟩⟩
theorem fl_X9_193 : FL RX9 193 0 5 := ⟨RX0, TX0, 6, rfl, by decide, in_X0, Or.inr ⟨"NapVoyage", xw_t 179 (by decide +kernel) (by decide +kernel)⟩⟩
theorem ml_X9_196 : MLV RX9 196 yX4_reaches 2 := ⟨⟨Or.inr ⟨"NapVoyage", xw_t 409 (by decide +kernel) (by decide +kernel)⟩, gd_t 6 (by decide +kernel) (by decide +kernel), by decide, by decide, by decide +kernel⟩, gd_t 411 (by decide +kernel) (by decide +kernel), gd_s 26 (by decide +kernel) (by decide +kernel)⟩
theorem ml_X9_199 : MLV RX9 199 yX4_bestFrom 4 := ⟨⟨Or.inr ⟨"NapVoyage", xw_t 414 (by decide +kernel) (by decide +kernel)⟩, gd_t 6 (by decide +kernel) (by decide +kernel), by decide, by decide, by decide +kernel⟩, gd_t 416 (by decide +kernel) (by decide +kernel), gd_s 27 (by decide +kernel) (by decide +kernel)⟩
theorem ml_X9_203 : MLV RX9 203 yX4_firstDeed 4 := ⟨⟨Or.inr ⟨"NapVoyage", xw_t 491 (by decide +kernel) (by decide +kernel)⟩, gd_t 6 (by decide +kernel) (by decide +kernel), by decide, by decide, by decide +kernel⟩, gd_t 493 (by decide +kernel) (by decide +kernel), gd_s 39 (by decide +kernel) (by decide +kernel)⟩
theorem ml_X9_206 : MLS RX9 206 yX9_codeOf 1 := ⟨⟨Or.inl (gd_t 500 (by decide +kernel) (by decide +kernel)), gd_t 1 (by decide +kernel) (by decide +kernel), by decide, by decide, by decide +kernel⟩, gd_t 501 (by decide +kernel) (by decide +kernel)⟩
theorem ml_X9_209 : MLV RX9 209 yX4_follow 3 := ⟨⟨Or.inr ⟨"NapVoyage", xw_t 507 (by decide +kernel) (by decide +kernel)⟩, gd_t 6 (by decide +kernel) (by decide +kernel), by decide, by decide, by decide +kernel⟩, gd_t 509 (by decide +kernel) (by decide +kernel), gd_s 41 (by decide +kernel) (by decide +kernel)⟩
theorem ml_X9_213 : MLV RX9 213 yX0_sailByThumb 1 := ⟨⟨Or.inr ⟨"NapVoyage", xw_t 517 (by decide +kernel) (by decide +kernel)⟩, gd_t 8 (by decide +kernel) (by decide +kernel), by decide, by decide, by decide +kernel⟩, gd_t 519 (by decide +kernel) (by decide +kernel), gd_s 42 (by decide +kernel) (by decide +kernel)⟩
theorem kc_X9_217 : Cond.constant RX9 217 1000000 ∈ gd := gd_t 399 (by decide +kernel) (by decide +kernel)
theorem ml_X9_218 : MLV RX9 218 yX0_safeByTurns 3 := ⟨⟨Or.inr ⟨"NapVoyage", xw_t 546 (by decide +kernel) (by decide +kernel)⟩, gd_t 8 (by decide +kernel) (by decide +kernel), by decide, by decide, by decide +kernel⟩, gd_t 548 (by decide +kernel) (by decide +kernel), gd_s 45 (by decide +kernel) (by decide +kernel)⟩
theorem ml_X9_222 : MLS RX9 222 yX9_getsUp 3 := ⟨⟨Or.inl (gd_t 562 (by decide +kernel) (by decide +kernel)), gd_t 1 (by decide +kernel) (by decide +kernel), by decide, by decide, by decide +kernel⟩, gd_t 563 (by decide +kernel) (by decide +kernel)⟩
theorem ml_X9_225 : MLV RX9 225 yX7_struckBy 1 := ⟨⟨Or.inr ⟨"NapVoyage", xw_t 573 (by decide +kernel) (by decide +kernel)⟩, gd_t 9 (by decide +kernel) (by decide +kernel), by decide, by decide, by decide +kernel⟩, gd_t 575 (by decide +kernel) (by decide +kernel), gd_s 46 (by decide +kernel) (by decide +kernel)⟩
theorem ml_X9_228 : MLV RX9 228 yX1_copy 1 := ⟨⟨Or.inr ⟨"NapVoyage", xw_t 585 (by decide +kernel) (by decide +kernel)⟩, gd_t 2 (by decide +kernel) (by decide +kernel), by decide, by decide, by decide +kernel⟩, gd_t 587 (by decide +kernel) (by decide +kernel), gd_s 47 (by decide +kernel) (by decide +kernel)⟩
theorem fl_X9_20 : FL RX9 20 9 2 := ⟨RX9, TX9, 6, rfl, by decide, in_X9, Or.inl (gd_t 195 (by decide +kernel) (by decide +kernel))⟩
theorem fl_X9_232 : FL RX9 232 2 0 := ⟨RX2, TX2, 2, rfl, by decide, in_X2, Or.inr ⟨"NapVoyage", xw_t 72 (by decide +kernel) (by decide +kernel)⟩⟩
theorem fl_X9_235 : FL RX9 235 2 1 := ⟨RX2, TX2, 2, rfl, by decide, in_X2, Or.inr ⟨"NapVoyage", xw_t 74 (by decide +kernel) (by decide +kernel)⟩⟩
theorem kc_X9_238 : Cond.constantLong RX9 238 1000000 ∈ gd := gd_t 400 (by decide +kernel) (by decide +kernel)
theorem mk_X10_1 : Cond.methodLink RX10 1 objectInit ∈ gd := gd_t 614 (by decide +kernel) (by decide +kernel)
theorem ff_X10_7 : FF RX10 7 10 0 (.array .int) := ⟨RX10, TX10, 27, tyX10, rfl, by decide, in_X10, tyX10_ok, nmX10, rfl, rfl, by decide +kernel, gd_t 616 (by decide +kernel) (by decide +kernel)⟩
theorem ff_X10_13 : FF RX10 13 10 1 (.array .int) := ⟨RX10, TX10, 27, tyX10, rfl, by decide, in_X10, tyX10_ok, nmX10, rfl, rfl, by decide +kernel, gd_t 617 (by decide +kernel) (by decide +kernel)⟩
theorem ff_X10_16 : FF RX10 16 10 2 (.array .int) := ⟨RX10, TX10, 27, tyX10, rfl, by decide, in_X10, tyX10_ok, nmX10, rfl, rfl, by decide +kernel, gd_t 618 (by decide +kernel) (by decide +kernel)⟩
theorem ff_X10_19 : FF RX10 19 10 3 (.array .int) := ⟨RX10, TX10, 27, tyX10, rfl, by decide, in_X10, tyX10_ok, nmX10, rfl, rfl, by decide +kernel, gd_t 619 (by decide +kernel) (by decide +kernel)⟩
theorem ff_X10_22 : FF RX10 22 10 4 (.array .int) := ⟨RX10, TX10, 27, tyX10, rfl, by decide, in_X10, tyX10_ok, nmX10, rfl, rfl, by decide +kernel, gd_t 620 (by decide +kernel) (by decide +kernel)⟩
theorem ff_X10_25 : FF RX10 25 10 5 (.array .int) := ⟨RX10, TX10, 27, tyX10, rfl, by decide, in_X10, tyX10_ok, nmX10, rfl, rfl, by decide +kernel, gd_t 621 (by decide +kernel) (by decide +kernel)⟩
theorem ff_X10_28 : FF RX10 28 10 6 (.array .int) := ⟨RX10, TX10, 27, tyX10, rfl, by decide, in_X10, tyX10_ok, nmX10, rfl, rfl, by decide +kernel, gd_t 622 (by decide +kernel) (by decide +kernel)⟩
theorem ff_X10_31 : FF RX10 31 10 7 (.array .int) := ⟨RX10, TX10, 27, tyX10, rfl, by decide, in_X10, tyX10_ok, nmX10, rfl, rfl, by decide +kernel, gd_t 623 (by decide +kernel) (by decide +kernel)⟩
theorem ff_X10_34 : FF RX10 34 10 8 (.array .int) := ⟨RX10, TX10, 27, tyX10, rfl, by decide, in_X10, tyX10_ok, nmX10, rfl, rfl, by decide +kernel, gd_t 624 (by decide +kernel) (by decide +kernel)⟩
theorem ff_X10_37 : FF RX10 37 10 9 (.array .int) := ⟨RX10, TX10, 27, tyX10, rfl, by decide, in_X10, tyX10_ok, nmX10, rfl, rfl, by decide +kernel, gd_t 625 (by decide +kernel) (by decide +kernel)⟩
theorem ff_X10_40 : FF RX10 40 10 11 (.array .int) := ⟨RX10, TX10, 27, tyX10, rfl, by decide, in_X10, tyX10_ok, nmX10, rfl, rfl, by decide +kernel, gd_t 627 (by decide +kernel) (by decide +kernel)⟩
theorem ff_X10_43 : FF RX10 43 10 12 (.array .int) := ⟨RX10, TX10, 27, tyX10, rfl, by decide, in_X10, tyX10_ok, nmX10, rfl, rfl, by decide +kernel, gd_t 628 (by decide +kernel) (by decide +kernel)⟩
theorem ff_X10_46 : FF RX10 46 10 13 (.array .int) := ⟨RX10, TX10, 27, tyX10, rfl, by decide, in_X10, tyX10_ok, nmX10, rfl, rfl, by decide +kernel, gd_t 629 (by decide +kernel) (by decide +kernel)⟩
theorem kc_X10_49 : Cond.constant RX10 49 257250 ∈ gd := gd_t 615 (by decide +kernel) (by decide +kernel)
theorem ff_X10_50 : FF RX10 50 10 19 (.array .int) := ⟨RX10, TX10, 27, tyX10, rfl, by decide, in_X10, tyX10_ok, nmX10, rfl, rfl, by decide +kernel, gd_t 635 (by decide +kernel) (by decide +kernel)⟩
theorem ff_X10_53 : FF RX10 53 10 20 (.array .boolean) := ⟨RX10, TX10, 27, tyX10, rfl, by decide, in_X10, tyX10_ok, nmX10, rfl, rfl, by decide +kernel, gd_t 636 (by decide +kernel) (by decide +kernel)⟩
theorem ff_X10_57 : FF RX10 57 10 21 (.array .int) := ⟨RX10, TX10, 27, tyX10, rfl, by decide, in_X10, tyX10_ok, nmX10, rfl, rfl, by decide +kernel, gd_t 637 (by decide +kernel) (by decide +kernel)⟩
theorem ff_X10_60 : FF RX10 60 10 23 (.array .int) := ⟨RX10, TX10, 27, tyX10, rfl, by decide, in_X10, tyX10_ok, nmX10, rfl, rfl, by decide +kernel, gd_t 639 (by decide +kernel) (by decide +kernel)⟩
theorem ff_X10_63 : FF RX10 63 10 24 (.array .boolean) := ⟨RX10, TX10, 27, tyX10, rfl, by decide, in_X10, tyX10_ok, nmX10, rfl, rfl, by decide +kernel, gd_t 640 (by decide +kernel) (by decide +kernel)⟩
theorem fl_X10_31 : FL RX10 31 10 7 := ⟨RX10, TX10, 27, rfl, by decide, in_X10, Or.inl (gd_t 623 (by decide +kernel) (by decide +kernel))⟩
theorem fl_X10_34 : FL RX10 34 10 8 := ⟨RX10, TX10, 27, rfl, by decide, in_X10, Or.inl (gd_t 624 (by decide +kernel) (by decide +kernel))⟩
theorem ml_X10_66 : MLS RX10 66 yX10_in 3 := ⟨⟨Or.inl (gd_t 705 (by decide +kernel) (by decide +kernel)), gd_t 10 (by decide +kernel) (by decide +kernel), by decide, by decide, by decide +kernel⟩, gd_t 706 (by decide +kernel) (by decide +kernel)⟩
theorem kc_X10_70 : Cond.constantLong RX10 70 20 ∈ gd := gd_t 743 (by decide +kernel) (by decide +kernel)
theorem kc_X10_72 : Cond.constantLong RX10 72 24 ∈ gd := gd_t 708 (by decide +kernel) (by decide +kernel)
theorem fl_X10_19 : FL RX10 19 10 3 := ⟨RX10, TX10, 27, rfl, by decide, in_X10, Or.inl (gd_t 619 (by decide +kernel) (by decide +kernel))⟩
theorem fl_X10_7 : FL RX10 7 10 0 := ⟨RX10, TX10, 27, rfl, by decide, in_X10, Or.inl (gd_t 616 (by decide +kernel) (by decide +kernel))⟩
theorem fl_X10_25 : FL RX10 25 10 5 := ⟨RX10, TX10, 27, rfl, by decide, in_X10, Or.inl (gd_t 621 (by decide +kernel) (by decide +kernel))⟩
theorem fl_X10_13 : FL RX10 13 10 1 := ⟨RX10, TX10, 27, rfl, by decide, in_X10, Or.inl (gd_t 617 (by decide +kernel) (by decide +kernel))⟩
theorem fl_X10_28 : FL RX10 28 10 6 := ⟨RX10, TX10, 27, rfl, by decide, in_X10, Or.inl (gd_t 622 (by decide +kernel) (by decide +kernel))⟩
theorem fl_X10_16 : FL RX10 16 10 2 := ⟨RX10, TX10, 27, rfl, by decide, in_X10, Or.inl (gd_t 618 (by decide +kernel) (by decide +kernel))⟩
theorem fl_X10_22 : FL RX10 22 10 4 := ⟨RX10, TX10, 27, rfl, by decide, in_X10, Or.inl (gd_t 620 (by decide +kernel) (by decide +kernel))⟩
theorem fl_X10_53 : FL RX10 53 10 20 := ⟨RX10, TX10, 27, rfl, by decide, in_X10, Or.inl (gd_t 636 (by decide +kernel) (by decide +kernel))⟩
theorem ml_X10_74 : MLS RX10 74 yX10_isWay 1 := ⟨⟨Or.inl (gd_t 702 (by decide +kernel) (by decide +kernel)), gd_t 10 (by decide +kernel) (by decide +kernel), by decide, by decide, by decide +kernel⟩, gd_t 703 (by decide +kernel) (by decide +kernel)⟩
theorem kc_X10_78 : Cond.constantLong RX10 78 500 ∈ gd := gd_t 709 (by decide +kernel) (by decide +kernel)
theorem ml_X10_80 : MLS RX10 80 yX10_isEnd 1 := ⟨⟨Or.inl (gd_t 710 (by decide +kernel) (by decide +kernel)), gd_t 10 (by decide +kernel) (by decide +kernel), by decide, by decide, by decide +kernel⟩, gd_t 711 (by decide +kernel) (by decide +kernel)⟩
theorem ml_X10_83 : MLV RX10 83 yX10_layHours 1 := ⟨⟨Or.inl (gd_t 713 (by decide +kernel) (by decide +kernel)), gd_t 10 (by decide +kernel) (by decide +kernel), by decide, by decide, by decide +kernel⟩, gd_t 715 (by decide +kernel) (by decide +kernel), gd_s 50 (by decide +kernel) (by decide +kernel)⟩
theorem kc_X10_87 : Cond.constantLong RX10 87 3 ∈ gd := gd_t 729 (by decide +kernel) (by decide +kernel)
theorem kc_X10_89 : Cond.constantLong RX10 89 9 ∈ gd := gd_t 730 (by decide +kernel) (by decide +kernel)
theorem kc_X10_91 : Cond.constantLong RX10 91 1000 ∈ gd := gd_t 731 (by decide +kernel) (by decide +kernel)
theorem ml_X10_93 : MLV RX10 93 yX10_isSquall 2 := ⟨⟨Or.inl (gd_t 749 (by decide +kernel) (by decide +kernel)), gd_t 10 (by decide +kernel) (by decide +kernel), by decide, by decide, by decide +kernel⟩, gd_t 751 (by decide +kernel) (by decide +kernel), gd_s 53 (by decide +kernel) (by decide +kernel)⟩
theorem ml_X10_97 : MLS RX10 97 yX10_isNight 1 := ⟨⟨Or.inl (gd_t 757 (by decide +kernel) (by decide +kernel)), gd_t 10 (by decide +kernel) (by decide +kernel), by decide, by decide, by decide +kernel⟩, gd_t 758 (by decide +kernel) (by decide +kernel)⟩
theorem ml_X10_100 : MLV RX10 100 yX10_blindOf 3 := ⟨⟨Or.inl (gd_t 768 (by decide +kernel) (by decide +kernel)), gd_t 10 (by decide +kernel) (by decide +kernel), by decide, by decide, by decide +kernel⟩, gd_t 770 (by decide +kernel) (by decide +kernel), gd_s 56 (by decide +kernel) (by decide +kernel)⟩
theorem kc_X10_104 : Cond.constant RX10 104 1000000 ∈ gd := gd_t 811 (by decide +kernel) (by decide +kernel)
theorem kc_X10_105 : Cond.constantLong RX10 105 1000000 ∈ gd := gd_t 815 (by decide +kernel) (by decide +kernel)
theorem ml_X10_107 : MLV RX10 107 yX10_isHour 2 := ⟨⟨Or.inl (gd_t 736 (by decide +kernel) (by decide +kernel)), gd_t 10 (by decide +kernel) (by decide +kernel), by decide, by decide, by decide +kernel⟩, gd_t 738 (by decide +kernel) (by decide +kernel), gd_s 51 (by decide +kernel) (by decide +kernel)⟩
theorem ml_X10_110 : MLS RX10 110 yX10_isOwed 1 := ⟨⟨Or.inl (gd_t 740 (by decide +kernel) (by decide +kernel)), gd_t 10 (by decide +kernel) (by decide +kernel), by decide, by decide, by decide +kernel⟩, gd_t 741 (by decide +kernel) (by decide +kernel)⟩
theorem kc_X10_113 : Cond.constantLong RX10 113 4 ∈ gd := gd_t 744 (by decide +kernel) (by decide +kernel)
theorem ml_X10_115 : MLV RX10 115 yX10_canBe 3 := ⟨⟨Or.inl (gd_t 745 (by decide +kernel) (by decide +kernel)), gd_t 10 (by decide +kernel) (by decide +kernel), by decide, by decide, by decide +kernel⟩, gd_t 747 (by decide +kernel) (by decide +kernel), gd_s 52 (by decide +kernel) (by decide +kernel)⟩
theorem ml_X10_119 : MLV RX10 119 yX10_owedBehind 4 := ⟨⟨Or.inl (gd_t 753 (by decide +kernel) (by decide +kernel)), gd_t 10 (by decide +kernel) (by decide +kernel), by decide, by decide, by decide +kernel⟩, gd_t 755 (by decide +kernel) (by decide +kernel), gd_s 54 (by decide +kernel) (by decide +kernel)⟩
theorem ml_X10_123 : MLV RX10 123 yX10_riskOf 5 := ⟨⟨Or.inl (gd_t 764 (by decide +kernel) (by decide +kernel)), gd_t 10 (by decide +kernel) (by decide +kernel), by decide, by decide, by decide +kernel⟩, gd_t 766 (by decide +kernel) (by decide +kernel), gd_s 55 (by decide +kernel) (by decide +kernel)⟩
theorem kc_X10_127 : Cond.constantLong RX10 127 33 ∈ gd := gd_t 776 (by decide +kernel) (by decide +kernel)
theorem kc_X10_129 : Cond.constantLong RX10 129 126 ∈ gd := gd_t 777 (by decide +kernel) (by decide +kernel)
theorem fl_X10_131 : FL RX10 131 10 10 := ⟨RX10, TX10, 27, rfl, by decide, in_X10, Or.inl (gd_t 626 (by decide +kernel) (by decide +kernel))⟩
theorem fl_X10_37 : FL RX10 37 10 9 := ⟨RX10, TX10, 27, rfl, by decide, in_X10, Or.inl (gd_t 625 (by decide +kernel) (by decide +kernel))⟩
theorem fw_X10_131 : FW RX10 131 10 10 .int := ⟨RX10, TX10, 27, tyX10, rfl, by decide, in_X10, tyX10_ok, nmX10, rfl, by decide +kernel, Or.inl (gd_t 626 (by decide +kernel) (by decide +kernel))⟩
theorem fl_X10_43 : FL RX10 43 10 12 := ⟨RX10, TX10, 27, rfl, by decide, in_X10, Or.inl (gd_t 628 (by decide +kernel) (by decide +kernel))⟩
theorem fl_X10_135 : FL RX10 135 10 14 := ⟨RX10, TX10, 27, rfl, by decide, in_X10, Or.inl (gd_t 630 (by decide +kernel) (by decide +kernel))⟩
theorem fl_X10_46 : FL RX10 46 10 13 := ⟨RX10, TX10, 27, rfl, by decide, in_X10, Or.inl (gd_t 629 (by decide +kernel) (by decide +kernel))⟩
theorem fl_X10_40 : FL RX10 40 10 11 := ⟨RX10, TX10, 27, rfl, by decide, in_X10, Or.inl (gd_t 627 (by decide +kernel) (by decide +kernel))⟩
theorem fw_X10_135 : FW RX10 135 10 14 .int := ⟨RX10, TX10, 27, tyX10, rfl, by decide, in_X10, tyX10_ok, nmX10, rfl, by decide +kernel, Or.inl (gd_t 630 (by decide +kernel) (by decide +kernel))⟩
theorem fl_X10_138 : FL RX10 138 10 17 := ⟨RX10, TX10, 27, rfl, by decide, in_X10, Or.inl (gd_t 633 (by decide +kernel) (by decide +kernel))⟩
theorem fl_X10_141 : FL RX10 141 10 18 := ⟨RX10, TX10, 27, rfl, by decide, in_X10, Or.inl (gd_t 634 (by decide +kernel) (by decide +kernel))⟩
theorem fl_X10_144 : FL RX10 144 10 16 := ⟨RX10, TX10, 27, rfl, by decide, in_X10, Or.inl (gd_t 632 (by decide +kernel) (by decide +kernel))⟩
theorem ml_X10_147 : MLV RX10 147 yX10_passHour 3 := ⟨⟨Or.inl (gd_t 803 (by decide +kernel) (by decide +kernel)), gd_t 10 (by decide +kernel) (by decide +kernel), by decide, by decide, by decide +kernel⟩, gd_t 805 (by decide +kernel) (by decide +kernel), gd_s 59 (by decide +kernel) (by decide +kernel)⟩
theorem fw_X10_144 : FW RX10 144 10 16 .int := ⟨RX10, TX10, 27, tyX10, rfl, by decide, in_X10, tyX10_ok, nmX10, rfl, by decide +kernel, Or.inl (gd_t 632 (by decide +kernel) (by decide +kernel))⟩
theorem fw_X10_141 : FW RX10 141 10 18 .int := ⟨RX10, TX10, 27, tyX10, rfl, by decide, in_X10, tyX10_ok, nmX10, rfl, by decide +kernel, Or.inl (gd_t 634 (by decide +kernel) (by decide +kernel))⟩
theorem fw_X10_138 : FW RX10 138 10 17 .int := ⟨RX10, TX10, 27, tyX10, rfl, by decide, in_X10, tyX10_ok, nmX10, rfl, by decide +kernel, Or.inl (gd_t 633 (by decide +kernel) (by decide +kernel))⟩
theorem fw_X10_151 : FW RX10 151 10 15 .int := ⟨RX10, TX10, 27, tyX10, rfl, by decide, in_X10, tyX10_ok, nmX10, rfl, by decide +kernel, Or.inl (gd_t 631 (by decide +kernel) (by decide +kernel))⟩
theorem fl_X10_151 : FL RX10 151 10 15 := ⟨RX10, TX10, 27, rfl, by decide, in_X10, Or.inl (gd_t 631 (by decide +kernel) (by decide +kernel))⟩
theorem ml_X10_154 : MLV RX10 154 yX10_doThing 3 := ⟨⟨Or.inl (gd_t 799 (by decide +kernel) (by decide +kernel)), gd_t 10 (by decide +kernel) (by decide +kernel), by decide, by decide, by decide +kernel⟩, gd_t 801 (by decide +kernel) (by decide +kernel), gd_s 58 (by decide +kernel) (by decide +kernel)⟩
theorem ml_X10_157 : MLS RX10 157 yX10_lessened 2 := ⟨⟨Or.inl (gd_t 812 (by decide +kernel) (by decide +kernel)), gd_t 10 (by decide +kernel) (by decide +kernel), by decide, by decide, by decide +kernel⟩, gd_t 813 (by decide +kernel) (by decide +kernel)⟩
theorem ml_X10_161 : MLS RX10 161 yX10_isBattery 1 := ⟨⟨Or.inl (gd_t 790 (by decide +kernel) (by decide +kernel)), gd_t 10 (by decide +kernel) (by decide +kernel), by decide, by decide, by decide +kernel⟩, gd_t 791 (by decide +kernel) (by decide +kernel)⟩
theorem kc_X10_164 : Cond.constantLong RX10 164 6 ∈ gd := gd_t 793 (by decide +kernel) (by decide +kernel)
theorem ml_X10_166 : MLV RX10 166 yX10_fault 0 := ⟨⟨Or.inl (gd_t 794 (by decide +kernel) (by decide +kernel)), gd_t 10 (by decide +kernel) (by decide +kernel), by decide, by decide, by decide +kernel⟩, gd_t 783 (by decide +kernel) (by decide +kernel), gd_t 784 (by decide +kernel) (by decide +kernel)⟩
theorem ml_X10_170 : MLV RX10 170 yX10_judgeAll 3 := ⟨⟨Or.inl (gd_t 795 (by decide +kernel) (by decide +kernel)), gd_t 10 (by decide +kernel) (by decide +kernel), by decide, by decide, by decide +kernel⟩, gd_t 797 (by decide +kernel) (by decide +kernel), gd_s 57 (by decide +kernel) (by decide +kernel)⟩
theorem ml_X10_173 : MLV RX10 173 yX10_safeOfTimes 0 := ⟨⟨Or.inl (gd_t 807 (by decide +kernel) (by decide +kernel)), gd_t 10 (by decide +kernel) (by decide +kernel), by decide, by decide, by decide +kernel⟩, gd_t 809 (by decide +kernel) (by decide +kernel), gd_s 60 (by decide +kernel) (by decide +kernel)⟩
theorem ml_X10_176 : MLV RX10 176 yX10_mostRisk 0 := ⟨⟨Or.inl (gd_t 816 (by decide +kernel) (by decide +kernel)), gd_t 10 (by decide +kernel) (by decide +kernel), by decide, by decide, by decide +kernel⟩, gd_t 818 (by decide +kernel) (by decide +kernel), gd_s 61 (by decide +kernel) (by decide +kernel)⟩
theorem fl_X10_50 : FL RX10 50 10 19 := ⟨RX10, TX10, 27, rfl, by decide, in_X10, Or.inl (gd_t 635 (by decide +kernel) (by decide +kernel))⟩
theorem ml_X10_179 : MLS RX10 179 yX10_at 5 := ⟨⟨Or.inl (gd_t 843 (by decide +kernel) (by decide +kernel)), gd_t 10 (by decide +kernel) (by decide +kernel), by decide, by decide, by decide +kernel⟩, gd_t 844 (by decide +kernel) (by decide +kernel)⟩
theorem ml_X10_182 : MLS RX10 182 yX10_triedAt 1 := ⟨⟨Or.inl (gd_t 836 (by decide +kernel) (by decide +kernel)), gd_t 10 (by decide +kernel) (by decide +kernel), by decide, by decide, by decide +kernel⟩, gd_t 837 (by decide +kernel) (by decide +kernel)⟩
theorem ml_X10_186 : MLV RX10 186 yX10_valueOf 7 := ⟨⟨Or.inl (gd_t 839 (by decide +kernel) (by decide +kernel)), gd_t 10 (by decide +kernel) (by decide +kernel), by decide, by decide, by decide +kernel⟩, gd_t 841 (by decide +kernel) (by decide +kernel), gd_s 65 (by decide +kernel) (by decide +kernel)⟩
theorem ml_X10_190 : MLV RX10 190 yX10_lay 1 := ⟨⟨Or.inl (gd_t 832 (by decide +kernel) (by decide +kernel)), gd_t 10 (by decide +kernel) (by decide +kernel), by decide, by decide, by decide +kernel⟩, gd_t 834 (by decide +kernel) (by decide +kernel), gd_s 64 (by decide +kernel) (by decide +kernel)⟩
theorem ml_X10_193 : MLV RX10 193 yX10_bestOf 5 := ⟨⟨Or.inl (gd_t 828 (by decide +kernel) (by decide +kernel)), gd_t 10 (by decide +kernel) (by decide +kernel), by decide, by decide, by decide +kernel⟩, gd_t 830 (by decide +kernel) (by decide +kernel), gd_s 63 (by decide +kernel) (by decide +kernel)⟩
theorem ml_X10_196 : MLV RX10 196 yX10_isPlace 5 := ⟨⟨Or.inl (gd_t 824 (by decide +kernel) (by decide +kernel)), gd_t 10 (by decide +kernel) (by decide +kernel), by decide, by decide, by decide +kernel⟩, gd_t 826 (by decide +kernel) (by decide +kernel), gd_s 62 (by decide +kernel) (by decide +kernel)⟩
theorem ml_X10_200 : MLV RX10 200 yX10_doesOf 5 := ⟨⟨Or.inl (gd_t 850 (by decide +kernel) (by decide +kernel)), gd_t 10 (by decide +kernel) (by decide +kernel), by decide, by decide, by decide +kernel⟩, gd_t 852 (by decide +kernel) (by decide +kernel), gd_s 66 (by decide +kernel) (by decide +kernel)⟩
theorem ml_X10_203 : MLV RX10 203 yX10_thumbDoes 4 := ⟨⟨Or.inl (gd_t 867 (by decide +kernel) (by decide +kernel)), gd_t 10 (by decide +kernel) (by decide +kernel), by decide, by decide, by decide +kernel⟩, gd_t 869 (by decide +kernel) (by decide +kernel), gd_s 68 (by decide +kernel) (by decide +kernel)⟩
theorem kc_X10_206 : Cond.constantLong RX10 206 2 ∈ gd := gd_t 862 (by decide +kernel) (by decide +kernel)
theorem ml_X10_208 : MLV RX10 208 yX10_thumbAll 3 := ⟨⟨Or.inl (gd_t 863 (by decide +kernel) (by decide +kernel)), gd_t 10 (by decide +kernel) (by decide +kernel), by decide, by decide, by decide +kernel⟩, gd_t 865 (by decide +kernel) (by decide +kernel), gd_s 67 (by decide +kernel) (by decide +kernel)⟩
theorem fl_X10_57 : FL RX10 57 10 21 := ⟨RX10, TX10, 27, rfl, by decide, in_X10, Or.inl (gd_t 637 (by decide +kernel) (by decide +kernel))⟩
theorem ml_X10_211 : MLV RX10 211 yX10_twoOf 3 := ⟨⟨Or.inl (gd_t 887 (by decide +kernel) (by decide +kernel)), gd_t 10 (by decide +kernel) (by decide +kernel), by decide, by decide, by decide +kernel⟩, gd_t 889 (by decide +kernel) (by decide +kernel), gd_s 69 (by decide +kernel) (by decide +kernel)⟩
theorem kc_X10_214 : Cond.constantLong RX10 214 10000 ∈ gd := gd_t 899 (by decide +kernel) (by decide +kernel)
theorem ml_X10_216 : MLS RX10 216 yX10_getsUp 3 := ⟨⟨Or.inl (gd_t 900 (by decide +kernel) (by decide +kernel)), gd_t 10 (by decide +kernel) (by decide +kernel), by decide, by decide, by decide +kernel⟩, gd_t 901 (by decide +kernel) (by decide +kernel)⟩
theorem fl_X10_219 : FL RX10 219 10 22 := ⟨RX10, TX10, 27, rfl, by decide, in_X10, Or.inl (gd_t 638 (by decide +kernel) (by decide +kernel))⟩
theorem kc_X10_222 : Cond.constant RX10 222 65537 ∈ gd := gd_t 916 (by decide +kernel) (by decide +kernel)
theorem fw_X10_219 : FW RX10 219 10 22 .int := ⟨RX10, TX10, 27, tyX10, rfl, by decide, in_X10, tyX10_ok, nmX10, rfl, by decide +kernel, Or.inl (gd_t 638 (by decide +kernel) (by decide +kernel))⟩
theorem kc_X10_223 : Cond.constantLong RX10 223 9999 ∈ gd := gd_t 911 (by decide +kernel) (by decide +kernel)
theorem ml_X10_225 : MLV RX10 225 yX10_thousandth 0 := ⟨⟨Or.inl (gd_t 912 (by decide +kernel) (by decide +kernel)), gd_t 10 (by decide +kernel) (by decide +kernel), by decide, by decide, by decide +kernel⟩, gd_t 914 (by decide +kernel) (by decide +kernel), gd_s 70 (by decide +kernel) (by decide +kernel)⟩
theorem fl_X10_228 : FL RX10 228 10 26 := ⟨RX10, TX10, 27, rfl, by decide, in_X10, Or.inl (gd_t 642 (by decide +kernel) (by decide +kernel))⟩
theorem fl_X10_60 : FL RX10 60 10 23 := ⟨RX10, TX10, 27, rfl, by decide, in_X10, Or.inl (gd_t 639 (by decide +kernel) (by decide +kernel))⟩
theorem fl_X10_232 : FL RX10 232 10 25 := ⟨RX10, TX10, 27, rfl, by decide, in_X10, Or.inl (gd_t 641 (by decide +kernel) (by decide +kernel))⟩
theorem fw_X10_232 : FW RX10 232 10 25 .int := ⟨RX10, TX10, 27, tyX10, rfl, by decide, in_X10, tyX10_ok, nmX10, rfl, by decide +kernel, Or.inl (gd_t 641 (by decide +kernel) (by decide +kernel))⟩
theorem ml_X10_235 : MLV RX10 235 yX10_pass 1 := ⟨⟨Or.inl (gd_t 925 (by decide +kernel) (by decide +kernel)), gd_t 10 (by decide +kernel) (by decide +kernel), by decide, by decide, by decide +kernel⟩, gd_t 927 (by decide +kernel) (by decide +kernel), gd_s 72 (by decide +kernel) (by decide +kernel)⟩
theorem fw_X10_228 : FW RX10 228 10 26 .boolean := ⟨RX10, TX10, 27, tyX10, rfl, by decide, in_X10, tyX10_ok, nmX10, rfl, by decide +kernel, Or.inl (gd_t 642 (by decide +kernel) (by decide +kernel))⟩
theorem ml_X10_238 : MLV RX10 238 yX10_passAll 0 := ⟨⟨Or.inl (gd_t 921 (by decide +kernel) (by decide +kernel)), gd_t 10 (by decide +kernel) (by decide +kernel), by decide, by decide, by decide +kernel⟩, gd_t 923 (by decide +kernel) (by decide +kernel), gd_s 71 (by decide +kernel) (by decide +kernel)⟩
theorem fl_X10_63 : FL RX10 63 10 24 := ⟨RX10, TX10, 27, rfl, by decide, in_X10, Or.inl (gd_t 640 (by decide +kernel) (by decide +kernel))⟩
theorem kc_X10_241 : Cond.constantLong RX10 241 5 ∈ gd := gd_t 937 (by decide +kernel) (by decide +kernel)
theorem kc_X10_243 : Cond.constantLong RX10 243 7 ∈ gd := gd_t 938 (by decide +kernel) (by decide +kernel)
theorem kc_X10_245 : Cond.constantLong RX10 245 8 ∈ gd := gd_t 939 (by decide +kernel) (by decide +kernel)
theorem kc_X10_247 : Cond.constantLong RX10 247 10 ∈ gd := gd_t 940 (by decide +kernel) (by decide +kernel)
theorem nw_L_7 : NW RL 7 9 6 [.null, .null, .null, .null, .null, .null] := ⟨RX9, TX9, tyX9, rfl, in_X9, tyX9_ok, gd_t 14 (by decide +kernel) (by decide +kernel), gd_t 15 (by decide +kernel) (by decide +kernel), gd_t 1 (by decide +kernel) (by decide +kernel), by decide +kernel⟩
theorem ml_L_9 : MLI RL 9 yX9_init 0 := ⟨⟨Or.inl (gd_t 16 (by decide +kernel) (by decide +kernel)), gd_t 1 (by decide +kernel) (by decide +kernel), by decide, by decide, by decide +kernel⟩, gd_t 17 (by decide +kernel) (by decide +kernel), rfl⟩
theorem nw_L_10 : NW RL 10 10 27 [.null, .null, .null, .null, .null, .null, .null, .null, .null, .null, .int 0, .null, .null, .null, .int 0, .int 0, .int 0, .int 0, .int 0, .null, .null, .null, .int 0, .null, .null, .int 0, .int 0] := ⟨RX10, TX10, tyX10, rfl, in_X10, tyX10_ok, gd_t 609 (by decide +kernel) (by decide +kernel), gd_t 610 (by decide +kernel) (by decide +kernel), gd_t 10 (by decide +kernel) (by decide +kernel), by decide +kernel⟩
theorem ml_L_12 : MLI RL 12 yX10_init 0 := ⟨⟨Or.inl (gd_t 611 (by decide +kernel) (by decide +kernel)), gd_t 10 (by decide +kernel) (by decide +kernel), by decide, by decide, by decide +kernel⟩, gd_t 612 (by decide +kernel) (by decide +kernel), rfl⟩
theorem ml_L_13 : MLV RL 13 yX9_leg 4 := ⟨⟨Or.inl (gd_t 212 (by decide +kernel) (by decide +kernel)), gd_t 1 (by decide +kernel) (by decide +kernel), by decide, by decide, by decide +kernel⟩, gd_t 213 (by decide +kernel) (by decide +kernel), gd_t 214 (by decide +kernel) (by decide +kernel)⟩
theorem ml_L_17 : MLV RL 17 yX10_leg 4 := ⟨⟨Or.inl (gd_t 698 (by decide +kernel) (by decide +kernel)), gd_t 10 (by decide +kernel) (by decide +kernel), by decide, by decide, by decide +kernel⟩, gd_t 699 (by decide +kernel) (by decide +kernel), gd_t 700 (by decide +kernel) (by decide +kernel)⟩
theorem ml_L_18 : MLV RL 18 yX9_cut 1 := ⟨⟨Or.inl (gd_t 236 (by decide +kernel) (by decide +kernel)), gd_t 1 (by decide +kernel) (by decide +kernel), by decide, by decide, by decide +kernel⟩, gd_t 237 (by decide +kernel) (by decide +kernel), gd_t 238 (by decide +kernel) (by decide +kernel)⟩
theorem ml_L_22 : MLV RL 22 yX10_cut 1 := ⟨⟨Or.inl (gd_t 717 (by decide +kernel) (by decide +kernel)), gd_t 10 (by decide +kernel) (by decide +kernel), by decide, by decide, by decide +kernel⟩, gd_t 718 (by decide +kernel) (by decide +kernel), gd_t 719 (by decide +kernel) (by decide +kernel)⟩
theorem ml_L_23 : MLV RL 23 yX9_about 3 := ⟨⟨Or.inl (gd_t 244 (by decide +kernel) (by decide +kernel)), gd_t 1 (by decide +kernel) (by decide +kernel), by decide, by decide, by decide +kernel⟩, gd_t 245 (by decide +kernel) (by decide +kernel), gd_t 246 (by decide +kernel) (by decide +kernel)⟩
theorem ml_L_27 : MLV RL 27 yX10_about 3 := ⟨⟨Or.inl (gd_t 721 (by decide +kernel) (by decide +kernel)), gd_t 10 (by decide +kernel) (by decide +kernel), by decide, by decide, by decide +kernel⟩, gd_t 722 (by decide +kernel) (by decide +kernel), gd_t 723 (by decide +kernel) (by decide +kernel)⟩
theorem ml_L_28 : MLV RL 28 yX9_nap 3 := ⟨⟨Or.inl (gd_t 261 (by decide +kernel) (by decide +kernel)), gd_t 1 (by decide +kernel) (by decide +kernel), by decide, by decide, by decide +kernel⟩, gd_t 262 (by decide +kernel) (by decide +kernel), gd_t 263 (by decide +kernel) (by decide +kernel)⟩
theorem ml_L_31 : MLV RL 31 yX10_nap 3 := ⟨⟨Or.inl (gd_t 725 (by decide +kernel) (by decide +kernel)), gd_t 10 (by decide +kernel) (by decide +kernel), by decide, by decide, by decide +kernel⟩, gd_t 726 (by decide +kernel) (by decide +kernel), gd_t 727 (by decide +kernel) (by decide +kernel)⟩
theorem ml_L_32 : MLV RL 32 yX9_owed 4 := ⟨⟨Or.inl (gd_t 278 (by decide +kernel) (by decide +kernel)), gd_t 1 (by decide +kernel) (by decide +kernel), by decide, by decide, by decide +kernel⟩, gd_t 279 (by decide +kernel) (by decide +kernel), gd_t 280 (by decide +kernel) (by decide +kernel)⟩
theorem ml_L_35 : MLV RL 35 yX10_owed 4 := ⟨⟨Or.inl (gd_t 732 (by decide +kernel) (by decide +kernel)), gd_t 10 (by decide +kernel) (by decide +kernel), by decide, by decide, by decide +kernel⟩, gd_t 733 (by decide +kernel) (by decide +kernel), gd_t 734 (by decide +kernel) (by decide +kernel)⟩
theorem ml_L_36 : MLV RL 36 yX9_risk 5 := ⟨⟨Or.inl (gd_t 315 (by decide +kernel) (by decide +kernel)), gd_t 1 (by decide +kernel) (by decide +kernel), by decide, by decide, by decide +kernel⟩, gd_t 316 (by decide +kernel) (by decide +kernel), gd_t 317 (by decide +kernel) (by decide +kernel)⟩
theorem ml_L_40 : MLV RL 40 yX10_risk 5 := ⟨⟨Or.inl (gd_t 760 (by decide +kernel) (by decide +kernel)), gd_t 10 (by decide +kernel) (by decide +kernel), by decide, by decide, by decide +kernel⟩, gd_t 761 (by decide +kernel) (by decide +kernel), gd_t 762 (by decide +kernel) (by decide +kernel)⟩
theorem ml_L_41 : MLV RL 41 yX9_say 1 := ⟨⟨Or.inl (gd_t 331 (by decide +kernel) (by decide +kernel)), gd_t 1 (by decide +kernel) (by decide +kernel), by decide, by decide, by decide +kernel⟩, gd_t 332 (by decide +kernel) (by decide +kernel), gd_t 333 (by decide +kernel) (by decide +kernel)⟩
theorem ml_L_44 : MLV RL 44 yX10_say 1 := ⟨⟨Or.inl (gd_t 772 (by decide +kernel) (by decide +kernel)), gd_t 10 (by decide +kernel) (by decide +kernel), by decide, by decide, by decide +kernel⟩, gd_t 773 (by decide +kernel) (by decide +kernel), gd_t 774 (by decide +kernel) (by decide +kernel)⟩
theorem ml_L_45 : MLV RL 45 yX9_wipe 0 := ⟨⟨Or.inl (gd_t 339 (by decide +kernel) (by decide +kernel)), gd_t 1 (by decide +kernel) (by decide +kernel), by decide, by decide, by decide +kernel⟩, gd_t 340 (by decide +kernel) (by decide +kernel), gd_t 341 (by decide +kernel) (by decide +kernel)⟩
theorem ml_L_49 : MLV RL 49 yX10_wipe 0 := ⟨⟨Or.inl (gd_t 778 (by decide +kernel) (by decide +kernel)), gd_t 10 (by decide +kernel) (by decide +kernel), by decide, by decide, by decide +kernel⟩, gd_t 779 (by decide +kernel) (by decide +kernel), gd_t 780 (by decide +kernel) (by decide +kernel)⟩
theorem ml_L_50 : MLV RL 50 yX9_fault 0 := ⟨⟨Or.inl (gd_t 343 (by decide +kernel) (by decide +kernel)), gd_t 1 (by decide +kernel) (by decide +kernel), by decide, by decide, by decide +kernel⟩, gd_t 344 (by decide +kernel) (by decide +kernel), gd_t 345 (by decide +kernel) (by decide +kernel)⟩
theorem ml_L_53 : MLV RL 53 yX10_fault 0 := ⟨⟨Or.inl (gd_t 782 (by decide +kernel) (by decide +kernel)), gd_t 10 (by decide +kernel) (by decide +kernel), by decide, by decide, by decide +kernel⟩, gd_t 783 (by decide +kernel) (by decide +kernel), gd_t 784 (by decide +kernel) (by decide +kernel)⟩
theorem ml_L_54 : MLV RL 54 yX9_judge 4 := ⟨⟨Or.inl (gd_t 357 (by decide +kernel) (by decide +kernel)), gd_t 1 (by decide +kernel) (by decide +kernel), by decide, by decide, by decide +kernel⟩, gd_t 358 (by decide +kernel) (by decide +kernel), gd_t 359 (by decide +kernel) (by decide +kernel)⟩
theorem ml_L_57 : MLV RL 57 yX10_judge 4 := ⟨⟨Or.inl (gd_t 786 (by decide +kernel) (by decide +kernel)), gd_t 10 (by decide +kernel) (by decide +kernel), by decide, by decide, by decide +kernel⟩, gd_t 787 (by decide +kernel) (by decide +kernel), gd_t 788 (by decide +kernel) (by decide +kernel)⟩
theorem ml_L_58 : MLV RL 58 yX9_best 5 := ⟨⟨Or.inl (gd_t 405 (by decide +kernel) (by decide +kernel)), gd_t 1 (by decide +kernel) (by decide +kernel), by decide, by decide, by decide +kernel⟩, gd_t 406 (by decide +kernel) (by decide +kernel), gd_t 407 (by decide +kernel) (by decide +kernel)⟩
theorem ml_L_61 : MLV RL 61 yX10_best 5 := ⟨⟨Or.inl (gd_t 820 (by decide +kernel) (by decide +kernel)), gd_t 10 (by decide +kernel) (by decide +kernel), by decide, by decide, by decide +kernel⟩, gd_t 821 (by decide +kernel) (by decide +kernel), gd_t 822 (by decide +kernel) (by decide +kernel)⟩
theorem ml_L_62 : MLV RL 62 yX9_does 5 := ⟨⟨Or.inl (gd_t 487 (by decide +kernel) (by decide +kernel)), gd_t 1 (by decide +kernel) (by decide +kernel), by decide, by decide, by decide +kernel⟩, gd_t 488 (by decide +kernel) (by decide +kernel), gd_t 489 (by decide +kernel) (by decide +kernel)⟩
theorem ml_L_65 : MLV RL 65 yX10_does 5 := ⟨⟨Or.inl (gd_t 846 (by decide +kernel) (by decide +kernel)), gd_t 10 (by decide +kernel) (by decide +kernel), by decide, by decide, by decide +kernel⟩, gd_t 847 (by decide +kernel) (by decide +kernel), gd_t 848 (by decide +kernel) (by decide +kernel)⟩
theorem ml_L_66 : MLV RL 66 yX9_logged 4 := ⟨⟨Or.inl (gd_t 503 (by decide +kernel) (by decide +kernel)), gd_t 1 (by decide +kernel) (by decide +kernel), by decide, by decide, by decide +kernel⟩, gd_t 504 (by decide +kernel) (by decide +kernel), gd_t 505 (by decide +kernel) (by decide +kernel)⟩
theorem ml_L_69 : MLV RL 69 yX10_logged 4 := ⟨⟨Or.inl (gd_t 854 (by decide +kernel) (by decide +kernel)), gd_t 10 (by decide +kernel) (by decide +kernel), by decide, by decide, by decide +kernel⟩, gd_t 855 (by decide +kernel) (by decide +kernel), gd_t 856 (by decide +kernel) (by decide +kernel)⟩
theorem ml_L_70 : MLV RL 70 yX9_thumb 4 := ⟨⟨Or.inl (gd_t 513 (by decide +kernel) (by decide +kernel)), gd_t 1 (by decide +kernel) (by decide +kernel), by decide, by decide, by decide +kernel⟩, gd_t 514 (by decide +kernel) (by decide +kernel), gd_t 515 (by decide +kernel) (by decide +kernel)⟩
theorem ml_L_73 : MLV RL 73 yX10_thumb 4 := ⟨⟨Or.inl (gd_t 858 (by decide +kernel) (by decide +kernel)), gd_t 10 (by decide +kernel) (by decide +kernel), by decide, by decide, by decide +kernel⟩, gd_t 859 (by decide +kernel) (by decide +kernel), gd_t 860 (by decide +kernel) (by decide +kernel)⟩
theorem ml_L_74 : MLV RL 74 yX9_worth 4 := ⟨⟨Or.inl (gd_t 530 (by decide +kernel) (by decide +kernel)), gd_t 1 (by decide +kernel) (by decide +kernel), by decide, by decide, by decide +kernel⟩, gd_t 531 (by decide +kernel) (by decide +kernel), gd_t 532 (by decide +kernel) (by decide +kernel)⟩
theorem ml_L_77 : MLV RL 77 yX10_worth 4 := ⟨⟨Or.inl (gd_t 871 (by decide +kernel) (by decide +kernel)), gd_t 10 (by decide +kernel) (by decide +kernel), by decide, by decide, by decide +kernel⟩, gd_t 872 (by decide +kernel) (by decide +kernel), gd_t 873 (by decide +kernel) (by decide +kernel)⟩
theorem ml_L_78 : MLV RL 78 yX9_round 2 := ⟨⟨Or.inl (gd_t 534 (by decide +kernel) (by decide +kernel)), gd_t 1 (by decide +kernel) (by decide +kernel), by decide, by decide, by decide +kernel⟩, gd_t 535 (by decide +kernel) (by decide +kernel), gd_t 536 (by decide +kernel) (by decide +kernel)⟩
theorem ml_L_82 : MLV RL 82 yX10_round 2 := ⟨⟨Or.inl (gd_t 875 (by decide +kernel) (by decide +kernel)), gd_t 10 (by decide +kernel) (by decide +kernel), by decide, by decide, by decide +kernel⟩, gd_t 876 (by decide +kernel) (by decide +kernel), gd_t 877 (by decide +kernel) (by decide +kernel)⟩
theorem ml_L_83 : MLV RL 83 yX9_soonest 4 := ⟨⟨Or.inl (gd_t 538 (by decide +kernel) (by decide +kernel)), gd_t 1 (by decide +kernel) (by decide +kernel), by decide, by decide, by decide +kernel⟩, gd_t 539 (by decide +kernel) (by decide +kernel), gd_t 540 (by decide +kernel) (by decide +kernel)⟩
theorem ml_L_86 : MLV RL 86 yX10_soonest 4 := ⟨⟨Or.inl (gd_t 879 (by decide +kernel) (by decide +kernel)), gd_t 10 (by decide +kernel) (by decide +kernel), by decide, by decide, by decide +kernel⟩, gd_t 880 (by decide +kernel) (by decide +kernel), gd_t 881 (by decide +kernel) (by decide +kernel)⟩
theorem ml_L_87 : MLV RL 87 yX9_two 3 := ⟨⟨Or.inl (gd_t 542 (by decide +kernel) (by decide +kernel)), gd_t 1 (by decide +kernel) (by decide +kernel), by decide, by decide, by decide +kernel⟩, gd_t 543 (by decide +kernel) (by decide +kernel), gd_t 544 (by decide +kernel) (by decide +kernel)⟩
theorem ml_L_90 : MLV RL 90 yX10_two 3 := ⟨⟨Or.inl (gd_t 883 (by decide +kernel) (by decide +kernel)), gd_t 10 (by decide +kernel) (by decide +kernel), by decide, by decide, by decide +kernel⟩, gd_t 884 (by decide +kernel) (by decide +kernel), gd_t 885 (by decide +kernel) (by decide +kernel)⟩
theorem ml_L_91 : MLV RL 91 yX9_share 2 := ⟨⟨Or.inl (gd_t 554 (by decide +kernel) (by decide +kernel)), gd_t 1 (by decide +kernel) (by decide +kernel), by decide, by decide, by decide +kernel⟩, gd_t 555 (by decide +kernel) (by decide +kernel), gd_t 556 (by decide +kernel) (by decide +kernel)⟩
theorem ml_L_94 : MLV RL 94 yX10_share 2 := ⟨⟨Or.inl (gd_t 891 (by decide +kernel) (by decide +kernel)), gd_t 10 (by decide +kernel) (by decide +kernel), by decide, by decide, by decide +kernel⟩, gd_t 892 (by decide +kernel) (by decide +kernel), gd_t 893 (by decide +kernel) (by decide +kernel)⟩
theorem ml_L_95 : MLV RL 95 yX9_up 3 := ⟨⟨Or.inl (gd_t 558 (by decide +kernel) (by decide +kernel)), gd_t 1 (by decide +kernel) (by decide +kernel), by decide, by decide, by decide +kernel⟩, gd_t 559 (by decide +kernel) (by decide +kernel), gd_t 560 (by decide +kernel) (by decide +kernel)⟩
theorem ml_L_98 : MLV RL 98 yX10_up 3 := ⟨⟨Or.inl (gd_t 895 (by decide +kernel) (by decide +kernel)), gd_t 10 (by decide +kernel) (by decide +kernel), by decide, by decide, by decide +kernel⟩, gd_t 896 (by decide +kernel) (by decide +kernel), gd_t 897 (by decide +kernel) (by decide +kernel)⟩
theorem ml_L_99 : MLV RL 99 yX9_trust 2 := ⟨⟨Or.inl (gd_t 565 (by decide +kernel) (by decide +kernel)), gd_t 1 (by decide +kernel) (by decide +kernel), by decide, by decide, by decide +kernel⟩, gd_t 566 (by decide +kernel) (by decide +kernel), gd_t 567 (by decide +kernel) (by decide +kernel)⟩
theorem ml_L_102 : MLV RL 102 yX10_trust 2 := ⟨⟨Or.inl (gd_t 903 (by decide +kernel) (by decide +kernel)), gd_t 10 (by decide +kernel) (by decide +kernel), by decide, by decide, by decide +kernel⟩, gd_t 904 (by decide +kernel) (by decide +kernel), gd_t 905 (by decide +kernel) (by decide +kernel)⟩
theorem ml_L_103 : MLV RL 103 yX9_draw 4 := ⟨⟨Or.inl (gd_t 569 (by decide +kernel) (by decide +kernel)), gd_t 1 (by decide +kernel) (by decide +kernel), by decide, by decide, by decide +kernel⟩, gd_t 570 (by decide +kernel) (by decide +kernel), gd_t 571 (by decide +kernel) (by decide +kernel)⟩
theorem ml_L_106 : MLV RL 106 yX10_draw 4 := ⟨⟨Or.inl (gd_t 907 (by decide +kernel) (by decide +kernel)), gd_t 10 (by decide +kernel) (by decide +kernel), by decide, by decide, by decide +kernel⟩, gd_t 908 (by decide +kernel) (by decide +kernel), gd_t 909 (by decide +kernel) (by decide +kernel)⟩
theorem ml_L_107 : MLV RL 107 yX9_image 1 := ⟨⟨Or.inl (gd_t 581 (by decide +kernel) (by decide +kernel)), gd_t 1 (by decide +kernel) (by decide +kernel), by decide, by decide, by decide +kernel⟩, gd_t 582 (by decide +kernel) (by decide +kernel), gd_t 583 (by decide +kernel) (by decide +kernel)⟩
theorem ml_L_110 : MLV RL 110 yX10_image 1 := ⟨⟨Or.inl (gd_t 917 (by decide +kernel) (by decide +kernel)), gd_t 10 (by decide +kernel) (by decide +kernel), by decide, by decide, by decide +kernel⟩, gd_t 918 (by decide +kernel) (by decide +kernel), gd_t 919 (by decide +kernel) (by decide +kernel)⟩
theorem ml_L_111 : MLV RL 111 yX9_restore 1 := ⟨⟨Or.inl (gd_t 601 (by decide +kernel) (by decide +kernel)), gd_t 1 (by decide +kernel) (by decide +kernel), by decide, by decide, by decide +kernel⟩, gd_t 602 (by decide +kernel) (by decide +kernel), gd_t 603 (by decide +kernel) (by decide +kernel)⟩
theorem ml_L_114 : MLV RL 114 yX10_restore 1 := ⟨⟨Or.inl (gd_t 929 (by decide +kernel) (by decide +kernel)), gd_t 10 (by decide +kernel) (by decide +kernel), by decide, by decide, by decide +kernel⟩, gd_t 930 (by decide +kernel) (by decide +kernel), gd_t 931 (by decide +kernel) (by decide +kernel)⟩
theorem ml_L_115 : MLV RL 115 yX9_told 1 := ⟨⟨Or.inl (gd_t 605 (by decide +kernel) (by decide +kernel)), gd_t 1 (by decide +kernel) (by decide +kernel), by decide, by decide, by decide +kernel⟩, gd_t 606 (by decide +kernel) (by decide +kernel), gd_t 607 (by decide +kernel) (by decide +kernel)⟩
theorem ml_L_118 : MLV RL 118 yX10_told 1 := ⟨⟨Or.inl (gd_t 933 (by decide +kernel) (by decide +kernel)), gd_t 10 (by decide +kernel) (by decide +kernel), by decide, by decide, by decide +kernel⟩, gd_t 934 (by decide +kernel) (by decide +kernel), gd_t 935 (by decide +kernel) (by decide +kernel)⟩
theorem ms_min : Cond.static Lib.Math.min.name ∈ gd := gd_t 307 (by decide +kernel) (by decide +kernel)
theorem mc_min : Cond.code Lib.Math.min.name Lib.Math.min.code 2 (some .int) ∈ gd := gd_t 308 (by decide +kernel) (by decide +kernel)
theorem ms_max : Cond.static Lib.Math.max.name ∈ gd := gd_t 310 (by decide +kernel) (by decide +kernel)
theorem mc_max : Cond.code Lib.Math.max.name Lib.Math.max.code 2 (some .int) ∈ gd := gd_t 311 (by decide +kernel) (by decide +kernel)
theorem mi_math : Cond.initialized "java/lang/Math" ∈ gd := gd_t 11 (by decide +kernel) (by decide +kernel)
theorem mi_sys : Cond.initialized "java/lang/System" ∈ gd := gd_t 13 (by decide +kernel) (by decide +kernel)
theorem ac_nat : Cond.native arraycopyName ∈ gd := gd_t 595 (by decide +kernel) (by decide +kernel)
theorem ac_sta : Cond.static arraycopyName ∈ gd := gd_t 594 (by decide +kernel) (by decide +kernel)
theorem oi_ins : Cond.instanceMethod objectInit ∈ gd := gd_t 20 (by decide +kernel) (by decide +kernel)
theorem oi_cod : Cond.code objectInit ⟨#[0xb1]⟩ 1 none ∈ gd := gd_t 21 (by decide +kernel) (by decide +kernel)
theorem ac_int : Cond.arrayClass .int ∈ gd := gd_t 64 (by decide +kernel) (by decide +kernel)
theorem ac_boo : Cond.arrayClass .boolean ∈ gd := gd_t 108 (by decide +kernel) (by decide +kernel)
end
section
section PQ
variable {p : Program} {l : Launch} {e : Env} {R : Room} {s : State} {m : MethodId} {args : Array Value} {below : List Frame} {meth : Method} {c : Code} {H : Heap} {locs : List Loc} {cells slots : Nat} {Q : State → Prop} {pc : Nat} {ls : Array Slot} {rest : List Value}
theorem x_spl {r : Option Nat} (kn : r = none → W p l e R s m args below meth c H locs cells slots Q (F0 m pc ls (.null :: rest))) (ks : ∀ b, r = some b → W p l e R s m args below meth c H locs cells slots Q (F0 m pc ls (.ref b :: rest))) : W p l e R s m args below meth c H locs cells slots Q (F0 m pc ls (va_rf r :: rest)) := by
  cases r with
  | none => exact kn rfl
  | some b => exact ks b rfl
theorem x_som {r : Option Nat} {b : Nat} (hb : r = some b) (ks : W p l e R s m args below meth c H locs cells slots Q (F0 m pc ls (.ref b :: rest))) : W p l e R s m args below meth c H locs cells slots Q (F0 m pc ls (va_rf r :: rest)) := by
  subst hb
  exact ks
end PQ
end
section
def wp_X3_init (post : Hp → Prop) (mc ms : Nat) (X : Hp) (v0 : Nat) : Prop := 0 + 1 ≤ mc ∧ 0 + 60 ≤ ms ∧ ∀ q1 : Nat, q1 ∉ X.1 → ∀ X2 : Hp, X2 = hadd X q1 (.inl (0, 60, .inl (fun _ => 0))) → ∃ (fs3 : List Value), Hs X2 v0 (.inr (3, fs3)) ∧ 1 < fs3.length ∧ ∀ X4 : Hp, X4 = hput X2 v0 (.inr (3, fs3.set 1 (.ref q1))) → (0 + 1) ≤ mc ∧ (0 + 60) ≤ ms ∧ post X4
set_option maxHeartbeats 4000000 in
set_option maxRecDepth 100000 in
theorem c_X3_init (l : Launch) (D : va_G) (kA : Nat → ClassId) (post : Hp → Prop) (mc ms : Nat) (X : Hp) (sz : Nat) (v0 : Nat) (h : wp_X3_init post mc ms X v0) : Met l yX3_init (.code yX3_init cX3_init 1 none :: gd) (rmO 1 mc ms 21) (va_Pc [Value.ref v0] (PreM D kA X sz)) (va_Qv post (PoM D kA X sz) (va_A (hw kA X) sz)) mc ms (va_A (hw kA X) sz) := by
  unfold wp_X3_init at h
  refine x_enM (by decide) (Nat.le_of_ble_eq_true rfl) ?_
  intro p e s m below meth c G hr hlk hin hsz hA S ls hl
  obtain ⟨hx, hb, hml, hown, hts, hE, hK⟩ := id G
  have hl : lv_has ls 1 [(0, .ref v0)] := hl
  refine lv_aload_n hx hb dX3_init_0 rfl (lv_at hl 0 rfl) ?_
  refine x_objInit G mk_X3_3 oi_ins oi_cod hl.1 dX3_init_1 (Nat.le_of_ble_eq_true rfl) (Nat.le_of_ble_eq_true rfl) ?_
  refine lv_aload_n hx hb dX3_init_4 rfl (lv_at hl 0 rfl) ?_
  refine lv_bipush (v := (60 : Int32)) hx hb dX3_init_5 (by decide) ?_
  obtain ⟨hc1, hc2, h⟩ := h
  refine x_newa (atype := .int) (t := 0) (N' := 60) G S hA ac_int rfl rfl (fun z => z) rfl (by decide) (by decide) (Nat.le_of_ble_eq_true rfl) hc1 hc2 dX3_init_7 (fun q1 H hq1 S => ?_)
  have h := h q1 hq1 _ rfl
  obtain ⟨fs3, hfs3, hkfs3, h⟩ := h
  have h := h _ rfl
  refine x_putF G hin S hfs3 hkfs3 rfl rfl ff_X3_9 dX3_init_9 (fun H locs S => ?_)
  obtain ⟨hk1, hk2, h⟩ := h
  exact x_vretM G hr hlk S hk1 hk2 h dX3_init_12
def wp_X3_write (post : Int32 → Hp → Prop) (X : Hp) (v0 : Nat) (v1 : Int32) : Prop := ∃ (fs1 : List Value) (y2 : Int32), Hs X v0 (.inr (3, fs1)) ∧ fs1[0]? = some (.int y2) ∧ (y2 < (60 : Int32) → ∃ (fs4 : List Value) (y5 : Nat), Hs X v0 (.inr (3, fs4)) ∧ fs4[1]? = some (.ref y5) ∧ ∃ (fs6 : List Value) (y7 : Int32), Hs X v0 (.inr (3, fs6)) ∧ fs6[0]? = some (.int y7) ∧ ∃ (n8 : Nat) (f9 : Nat → Int32), Hs X y5 (.inl (0, n8, .inl f9)) ∧ vp_in y7 n8 ∧ ∀ X10 : Hp, X10 = hput X y5 (.inl (0, n8, .inl (upd f9 y7.toNatClampNeg v1))) → ∃ (fs11 : List Value) (y12 : Int32), Hs X10 v0 (.inr (3, fs11)) ∧ fs11[0]? = some (.int y12) ∧ ∃ (fs13 : List Value), Hs X10 v0 (.inr (3, fs13)) ∧ 0 < fs13.length ∧ ∀ X14 : Hp, X14 = hput X10 v0 (.inr (3, fs13.set 0 (.int (y12 + (1 : Int32))))) → post (1 : Int32) X14) ∧ (¬ y2 < (60 : Int32) → post (0 : Int32) X)
set_option maxHeartbeats 4000000 in
set_option maxRecDepth 100000 in
theorem c_X3_write (l : Launch) (D : va_G) (kA : Nat → ClassId) (post : Int32 → Hp → Prop) (X : Hp) (sz : Nat) (v0 : Nat) (v1 : Int32) (h : wp_X3_write post X v0 v1) : Met l yX3_write (.code yX3_write cX3_write 2 (some .boolean) :: gd) (rmO 0 0 0 0) (va_Pc [Value.ref v0, Value.int v1] (PreM D kA X sz)) (va_Qi post (PoM D kA X sz) (va_A (hw kA X) sz)) 0 0 (va_A (hw kA X) sz) := by
  unfold wp_X3_write at h
  refine x_enM (by decide) (Nat.le_of_ble_eq_true rfl) ?_
  intro p e s m below meth c G hr hlk hin hsz hA S ls hl
  obtain ⟨hx, hb, hml, hown, hts, hE, hK⟩ := id G
  have hl : lv_has ls 2 [(0, .ref v0), (1, .int v1)] := hl
  refine lv_aload_n hx hb dX3_write_0 rfl (lv_at hl 0 rfl) ?_
  obtain ⟨fs1, y2, hfs1, hvfs1, h⟩ := h
  refine x_get G S.1 hfs1 hvfs1 fl_X3_15 dX3_write_1 ?_
  refine lv_bipush (v := (60 : Int32)) hx hb dX3_write_4 (by decide) ?_
  refine lv_icmp_lt (tgt := 11) hx hb dX3_write_6 (by decide) (fun c3 => ?_) (fun c3 => ?_)
  · have h := h.1 c3
    refine lv_aload_n hx hb dX3_write_11 rfl (lv_at hl 0 rfl) ?_
    obtain ⟨fs4, y5, hfs4, hvfs4, h⟩ := h
    refine x_get G S.1 hfs4 hvfs4 fl_X3_9 dX3_write_12 ?_
    refine lv_aload_n hx hb dX3_write_15 rfl (lv_at hl 0 rfl) ?_
    obtain ⟨fs6, y7, hfs6, hvfs6, h⟩ := h
    refine x_get G S.1 hfs6 hvfs6 fl_X3_15 dX3_write_16 ?_
    refine lv_iload_n hx hb dX3_write_19 rfl (lv_at hl 1 rfl) ?_
    obtain ⟨n8, f9, hf9, hif9, h⟩ := h
    have h := h _ rfl
    refine x_iast G S hf9 hif9 dX3_write_20 (fun H locs S => ?_)
    refine lv_aload_n hx hb dX3_write_21 rfl (lv_at hl 0 rfl) ?_
    refine lv_dup hx hb dX3_write_22 rfl ?_
    obtain ⟨fs11, y12, hfs11, hvfs11, h⟩ := h
    refine x_get G S.1 hfs11 hvfs11 fl_X3_15 dX3_write_23 ?_
    refine lv_iconst (v := (1 : Int32)) hx hb dX3_write_26 (by decide) ?_
    refine lv_iadd hx hb dX3_write_27 ?_
    obtain ⟨fs13, hfs13, hkfs13, h⟩ := h
    have h := h _ rfl
    refine x_put G S hfs13 hkfs13 rfl rfl fw_X3_15 dX3_write_28 (fun H locs S => ?_)
    refine lv_iconst (v := (1 : Int32)) hx hb dX3_write_31 (by decide) ?_
    exact x_zretM G hr hlk (Or.inr rfl) S (Nat.le_refl _) (Nat.le_refl _) h dX3_write_32
  · have h := h.2 c3
    refine lv_iconst (v := (0 : Int32)) hx hb dX3_write_9 (by decide) ?_
    exact x_zretM G hr hlk (Or.inl rfl) S (Nat.le_refl _) (Nat.le_refl _) h dX3_write_10
def wp_X3_thingOf (post : Int32 → Prop) (X : Hp) (v0 : Int32) : Prop := (v0 = (49 : Int32) → post (1 : Int32)) ∧ (v0 = (50 : Int32) → post (2 : Int32)) ∧ (v0 = (51 : Int32) → post (3 : Int32)) ∧ (v0 = (108 : Int32) → post (4 : Int32)) ∧ (v0 = (119 : Int32) → post (0 : Int32)) ∧ (¬ v0 = (49 : Int32) ∧ ¬ v0 = (50 : Int32) ∧ ¬ v0 = (51 : Int32) ∧ ¬ v0 = (108 : Int32) ∧ ¬ v0 = (119 : Int32) → post (-6 : Int32))
set_option maxHeartbeats 4000000 in
set_option maxRecDepth 100000 in
theorem c_X3_thingOf (l : Launch) (D : va_G) (kA : Nat → ClassId) (post : Int32 → Prop) (X : Hp) (v0 : Int32) (h : wp_X3_thingOf post X v0) : Met l yX3_thingOf (.code yX3_thingOf cX3_thingOf 1 (some .int) :: gd) (rmO 0 0 0 0) (va_Pc [Value.int v0] (Pre D kA X)) (vp_Si post) 0 0 (fun _ => False) := by
  unfold wp_X3_thingOf at h
  refine x_enR (by decide) (Nat.le_of_ble_eq_true rfl) ?_
  intro p e s m below meth c G hr hlk hP ls hl
  obtain ⟨hx, hb, hml, hown, hts, hE, hK⟩ := id G
  have hl : lv_has ls 1 [(0, .int v0)] := hl
  refine lv_iload_n hx hb dX3_thingOf_0 rfl (lv_at hl 0 rfl) ?_
  by_cases c1 : v0 = (49 : Int32)
  · have h := h.1 c1
    refine lv_lookup (off := 53) (tgt := 54) hx hb dX3_thingOf_1 (by decide) (by rw [c1]; decide) (by decide) ?_
    refine lv_iconst (v := (1 : Int32)) hx hb dX3_thingOf_54 (by decide) ?_
    exact x_iretR G hr hlk h dX3_thingOf_55
  have h := h.2
  by_cases c2 : v0 = (50 : Int32)
  · have h := h.1 c2
    refine lv_lookup (off := 55) (tgt := 56) hx hb dX3_thingOf_1 (by decide) (by rw [c2]; decide) (by decide) ?_
    refine lv_iconst (v := (2 : Int32)) hx hb dX3_thingOf_56 (by decide) ?_
    exact x_iretR G hr hlk h dX3_thingOf_57
  have h := h.2
  by_cases c3 : v0 = (51 : Int32)
  · have h := h.1 c3
    refine lv_lookup (off := 57) (tgt := 58) hx hb dX3_thingOf_1 (by decide) (by rw [c3]; decide) (by decide) ?_
    refine lv_iconst (v := (3 : Int32)) hx hb dX3_thingOf_58 (by decide) ?_
    exact x_iretR G hr hlk h dX3_thingOf_59
  have h := h.2
  by_cases c4 : v0 = (108 : Int32)
  · have h := h.1 c4
    refine lv_lookup (off := 59) (tgt := 60) hx hb dX3_thingOf_1 (by decide) (by rw [c4]; decide) (by decide) ?_
    refine lv_iconst (v := (4 : Int32)) hx hb dX3_thingOf_60 (by decide) ?_
    exact x_iretR G hr hlk h dX3_thingOf_61
  have h := h.2
  by_cases c5 : v0 = (119 : Int32)
  · have h := h.1 c5
    refine lv_lookup (off := 51) (tgt := 52) hx hb dX3_thingOf_1 (by decide) (by rw [c5]; decide) (by decide) ?_
    refine lv_iconst (v := (0 : Int32)) hx hb dX3_thingOf_52 (by decide) ?_
    exact x_iretR G hr hlk h dX3_thingOf_53
  have h := h.2
  have h := h ⟨c1, c2, c3, c4, c5⟩
  refine lv_lookup (off := 61) (tgt := 62) hx hb dX3_thingOf_1 (by decide) (by show Op.lookupswitch.offset [(49, 53), (50, 55), (51, 57), (108, 59), (119, 51)] 61 _ = _; rw [lv_osw c1 (by decide), lv_osw c2 (by decide), lv_osw c3 (by decide), lv_osw c4 (by decide), lv_osw c5 (by decide)]; rfl) (by decide) ?_
  refine lv_bipush (v := (-6 : Int32)) hx hb dX3_thingOf_62 (by decide) ?_
  exact x_iretR G hr hlk h dX3_thingOf_64
def bk_X3_wantedBehind_55 (post : Int32 → Prop) (X : Hp) (v0 : Int32) (v1 : Int32)  (b55_2 : Int32) : Prop := (¬ b55_2 = (3 : Int32) → post (0 : Int32)) ∧ (b55_2 = (3 : Int32) → post (2 : Int32))
def wp_X3_wantedBehind (post : Int32 → Prop) (X : Hp) (v0 : Int32) (v1 : Int32) : Prop := (¬ v0 = (2 : Int32) → (¬ v1 = (33 : Int32) → wp_X3_thingOf (fun r3 => (r3 = (-6 : Int32) → post (3 : Int32)) ∧ (¬ r3 = (-6 : Int32) → (¬ r3 = 0 → bk_X3_wantedBehind_55 post X v0 v1 r3) ∧ (r3 = 0 → (¬ v0 = (1 : Int32) → bk_X3_wantedBehind_55 post X v0 v1 r3) ∧ (v0 = (1 : Int32) → post (3 : Int32)))))  X v1) ∧ (v1 = (33 : Int32) → (¬ v0 = 0 → post (3 : Int32)) ∧ (v0 = 0 → post (1 : Int32)))) ∧ (v0 = (2 : Int32) → (¬ v1 = (46 : Int32) → post (3 : Int32)) ∧ (v1 = (46 : Int32) → post (0 : Int32)))
set_option maxHeartbeats 4000000 in
set_option maxRecDepth 100000 in
theorem c_X3_wantedBehind (l : Launch) (D : va_G) (kA : Nat → ClassId) (post : Int32 → Prop) (X : Hp) (v0 : Int32) (v1 : Int32) (h : wp_X3_wantedBehind post X v0 v1) : Met l yX3_wantedBehind (.code yX3_wantedBehind cX3_wantedBehind 3 (some .int) :: gd) (rmO 1 0 0 20) (va_Pc [Value.int v0, Value.int v1] (Pre D kA X)) (vp_Si post) 0 0 (fun _ => False) := by
  unfold wp_X3_wantedBehind at h
  refine x_enR (by decide) (Nat.le_of_ble_eq_true rfl) ?_
  intro p e s m below meth c G hr hlk hP ls hl
  obtain ⟨hx, hb, hml, hown, hts, hE, hK⟩ := id G
  have hl : lv_has ls 3 [(0, .int v0), (1, .int v1)] := hl
  have J_55 : ∀ (b55_2 : Int32), ∀ (_ : bk_X3_wantedBehind_55 post X v0 v1  b55_2), ∀ ls, lv_has ls 3 [(2, .int b55_2)] → W p l e (rmO 1 0 0 20) s m [Value.int v0, Value.int v1].toArray below meth c s.heap [] 0 0 (MQ below (vp_Si post) [Value.int v0, Value.int v1].toArray s 0 0 (fun _ => False)) (F0 m 55 ls []) := by
    intro b55_2 h ls hl
    unfold bk_X3_wantedBehind_55 at h
    refine lv_iload_n hx hb dX3_wantedBehind_55 rfl (lv_at hl 0 rfl) ?_
    refine lv_iconst (v := (3 : Int32)) hx hb dX3_wantedBehind_56 (by decide) ?_
    refine lv_icmp_ne (tgt := 64) hx hb dX3_wantedBehind_57 (by decide) (fun c9 => ?_) (fun c9 => ?_)
    · have h := h.1 c9
      refine lv_iconst (v := (0 : Int32)) hx hb dX3_wantedBehind_64 (by decide) ?_
      exact x_iretR G hr hlk h dX3_wantedBehind_65
    · have h := h.2 c9
      refine lv_iconst (v := (2 : Int32)) hx hb dX3_wantedBehind_60 (by decide) ?_
      refine lv_goto (tgt := 65) hx hb dX3_wantedBehind_61 (by decide) ?_
      exact x_iretR G hr hlk h dX3_wantedBehind_65
  refine lv_iload_n hx hb dX3_wantedBehind_0 rfl (lv_at hl 0 rfl) ?_
  refine lv_iconst (v := (2 : Int32)) hx hb dX3_wantedBehind_1 (by decide) ?_
  refine lv_icmp_ne (tgt := 17) hx hb dX3_wantedBehind_2 (by decide) (fun c1 => ?_) (fun c1 => ?_)
  · have h := h.1 c1
    refine lv_iload_n hx hb dX3_wantedBehind_17 rfl (lv_at hl 1 rfl) ?_
    refine lv_bipush (v := (33 : Int32)) hx hb dX3_wantedBehind_18 (by decide) ?_
    refine lv_icmp_ne (tgt := 33) hx hb dX3_wantedBehind_20 (by decide) (fun c2 => ?_) (fun c2 => ?_)
    · have h := h.1 c2
      refine lv_iload_n hx hb dX3_wantedBehind_33 rfl (lv_at hl 1 rfl) ?_
      refine x_cRSi (As := [.int v1]) (rest := []) G hP (c_X3_thingOf l D kA _ _ v1 h) cd_X3_thingOf ml_X3_23 ⟨(Nat.le_of_ble_eq_true rfl), (Nat.le_of_ble_eq_true rfl)⟩ rfl hl.1 rfl (Nat.le_of_ble_eq_true rfl) dX3_wantedBehind_34 ⟨Nat.zero_le _, Nat.zero_le _⟩ (fun r3 h => ?_)
      refine lv_istore_n (lv' := [(2, .int r3), (0, .int v0), (1, .int v1)]) hx hb dX3_wantedBehind_37 rfl hl (by decide) rfl (fun ls hl => ?_)
      refine lv_iload_n hx hb dX3_wantedBehind_38 rfl (lv_at hl 0 rfl) ?_
      refine lv_bipush (v := (-6 : Int32)) hx hb dX3_wantedBehind_39 (by decide) ?_
      refine lv_icmp_eq (tgt := 53) hx hb dX3_wantedBehind_41 (by decide) (fun c4 => ?_) (fun c4 => ?_)
      · have h := h.1 c4
        refine lv_iconst (v := (3 : Int32)) hx hb dX3_wantedBehind_53 (by decide) ?_
        exact x_iretR G hr hlk h dX3_wantedBehind_54
      · have h := h.2 c4
        refine lv_iload_n hx hb dX3_wantedBehind_44 rfl (lv_at hl 0 rfl) ?_
        refine lv_if_ne (tgt := 55) hx hb dX3_wantedBehind_45 (by decide) (fun c5 => ?_) (fun c5 => ?_)
        · have h := h.1 c5
          exact J_55 _ h ls (lv_sub hl [0] rfl)
        · have h := h.2 c5
          refine lv_iload_n hx hb dX3_wantedBehind_48 rfl (lv_at hl 1 rfl) ?_
          refine lv_iconst (v := (1 : Int32)) hx hb dX3_wantedBehind_49 (by decide) ?_
          refine lv_icmp_ne (tgt := 55) hx hb dX3_wantedBehind_50 (by decide) (fun c6 => ?_) (fun c6 => ?_)
          · have h := h.1 c6
            exact J_55 _ h ls (lv_sub hl [0] rfl)
          · have h := h.2 c6
            refine lv_iconst (v := (3 : Int32)) hx hb dX3_wantedBehind_53 (by decide) ?_
            exact x_iretR G hr hlk h dX3_wantedBehind_54
    · have h := h.2 c2
      refine lv_iload_n hx hb dX3_wantedBehind_23 rfl (lv_at hl 0 rfl) ?_
      refine lv_if_ne (tgt := 31) hx hb dX3_wantedBehind_24 (by decide) (fun c7 => ?_) (fun c7 => ?_)
      · have h := h.1 c7
        refine lv_iconst (v := (3 : Int32)) hx hb dX3_wantedBehind_31 (by decide) ?_
        exact x_iretR G hr hlk h dX3_wantedBehind_32
      · have h := h.2 c7
        refine lv_iconst (v := (1 : Int32)) hx hb dX3_wantedBehind_27 (by decide) ?_
        refine lv_goto (tgt := 32) hx hb dX3_wantedBehind_28 (by decide) ?_
        exact x_iretR G hr hlk h dX3_wantedBehind_32
  · have h := h.2 c1
    refine lv_iload_n hx hb dX3_wantedBehind_5 rfl (lv_at hl 1 rfl) ?_
    refine lv_bipush (v := (46 : Int32)) hx hb dX3_wantedBehind_6 (by decide) ?_
    refine lv_icmp_ne (tgt := 15) hx hb dX3_wantedBehind_8 (by decide) (fun c8 => ?_) (fun c8 => ?_)
    · have h := h.1 c8
      refine lv_iconst (v := (3 : Int32)) hx hb dX3_wantedBehind_15 (by decide) ?_
      exact x_iretR G hr hlk h dX3_wantedBehind_16
    · have h := h.2 c8
      refine lv_iconst (v := (0 : Int32)) hx hb dX3_wantedBehind_11 (by decide) ?_
      refine lv_goto (tgt := 16) hx hb dX3_wantedBehind_12 (by decide) ?_
      exact x_iretR G hr hlk h dX3_wantedBehind_16
def bk_X3_faultPlace_4 (post : Int32 → Prop) (X : Hp) (v0 : Nat)  : Nat → Int32 → Int32 → Prop
  | 0, _, _ => False
  | k + 1, b4_1, b4_2 => ∃ (fs2 : List Value) (y3 : Int32), Hs X v0 (.inr (3, fs2)) ∧ fs2[0]? = some (.int y3) ∧ (y3 ≤ b4_2 → (¬ b4_1 = 0 → ∃ (fs6 : List Value) (y7 : Int32), Hs X v0 (.inr (3, fs6)) ∧ fs6[0]? = some (.int y7) ∧ post y7) ∧ (b4_1 = 0 → post (-6 : Int32))) ∧ (¬ y3 ≤ b4_2 → ∃ (fs8 : List Value) (y9 : Nat), Hs X v0 (.inr (3, fs8)) ∧ fs8[1]? = some (.ref y9) ∧ ∃ (n10 : Nat) (f11 : Nat → Int32), Hs X y9 (.inl (0, n10, .inl f11)) ∧ vp_in b4_2 n10 ∧ wp_X3_wantedBehind (fun r12 => (¬ r12 = (3 : Int32) → ∀ x14 : Int32, x14 = b4_2 + (1 : Int32) → (bk_X3_faultPlace_4 post X v0 k) r12 x14) ∧ (r12 = (3 : Int32) → post b4_2)) X b4_1 (f11 b4_2.toNatClampNeg))
def wp_X3_faultPlace (post : Int32 → Prop) (X : Hp) (v0 : Nat) : Prop := ∃ n1 : Nat, bk_X3_faultPlace_4 post X v0 n1 (0 : Int32) (0 : Int32)
set_option maxHeartbeats 4000000 in
set_option maxRecDepth 100000 in
theorem c_X3_faultPlace (l : Launch) (D : va_G) (kA : Nat → ClassId) (post : Int32 → Prop) (X : Hp) (v0 : Nat) (h : wp_X3_faultPlace post X v0) : Met l yX3_faultPlace (.code yX3_faultPlace cX3_faultPlace 3 (some .int) :: gd) (rmO 2 0 0 42) (va_Pc [Value.ref v0] (Pre D kA X)) (vp_Si post) 0 0 (fun _ => False) := by
  unfold wp_X3_faultPlace at h
  refine x_enR (by decide) (Nat.le_of_ble_eq_true rfl) ?_
  intro p e s m below meth c G hr hlk hP ls hl
  obtain ⟨hx, hb, hml, hown, hts, hE, hK⟩ := id G
  have hl : lv_has ls 3 [(0, .ref v0)] := hl
  have J_4 : ∀ (n : Nat) (b4_1 : Int32) (b4_2 : Int32), ∀ (_ : bk_X3_faultPlace_4 post X v0  n b4_1 b4_2), ∀ ls, lv_has ls 3 [(0, .ref v0), (1, .int b4_1), (2, .int b4_2)] → W p l e (rmO 2 0 0 42) s m [Value.ref v0].toArray below meth c s.heap [] 0 0 (MQ below (vp_Si post) [Value.ref v0].toArray s 0 0 (fun _ => False)) (F0 m 4 ls []) := by
    intro n
    induction n with
    | zero =>
      intro b4_1 b4_2 h ls hl
      rw [bk_X3_faultPlace_4] at h
      exact h.elim
    | succ n_4 ih_4 =>
      intro b4_1 b4_2 h ls hl
      rw [bk_X3_faultPlace_4] at h
      refine lv_iload_n hx hb dX3_faultPlace_4 rfl (lv_at hl 2 rfl) ?_
      refine lv_aload_n hx hb dX3_faultPlace_5 rfl (lv_at hl 0 rfl) ?_
      obtain ⟨fs2, y3, hfs2, hvfs2, h⟩ := h
      refine x_get G hP hfs2 hvfs2 fl_X3_15 dX3_faultPlace_6 ?_
      refine lv_icmp_ge (tgt := 36) hx hb dX3_faultPlace_9 (by decide) (fun c4 => ?_) (fun c4 => ?_)
      · have h := h.1 c4
        refine lv_iload_n hx hb dX3_faultPlace_36 rfl (lv_at hl 1 rfl) ?_
        refine lv_if_ne (tgt := 45) hx hb dX3_faultPlace_37 (by decide) (fun c5 => ?_) (fun c5 => ?_)
        · have h := h.1 c5
          refine lv_aload_n hx hb dX3_faultPlace_45 rfl (lv_at hl 0 rfl) ?_
          obtain ⟨fs6, y7, hfs6, hvfs6, h⟩ := h
          refine x_get G hP hfs6 hvfs6 fl_X3_15 dX3_faultPlace_46 ?_
          exact x_iretR G hr hlk h dX3_faultPlace_49
        · have h := h.2 c5
          refine lv_bipush (v := (-6 : Int32)) hx hb dX3_faultPlace_40 (by decide) ?_
          refine lv_goto (tgt := 49) hx hb dX3_faultPlace_42 (by decide) ?_
          exact x_iretR G hr hlk h dX3_faultPlace_49
      · have h := h.2 c4
        refine lv_iload_n hx hb dX3_faultPlace_12 rfl (lv_at hl 1 rfl) ?_
        refine lv_aload_n hx hb dX3_faultPlace_13 rfl (lv_at hl 0 rfl) ?_
        obtain ⟨fs8, y9, hfs8, hvfs8, h⟩ := h
        refine x_get G hP hfs8 hvfs8 fl_X3_9 dX3_faultPlace_14 ?_
        refine lv_iload_n hx hb dX3_faultPlace_17 rfl (lv_at hl 2 rfl) ?_
        obtain ⟨n10, f11, hf11, hif11, h⟩ := h
        refine x_iald G hP hf11 hif11 dX3_faultPlace_18 ?_
        refine x_cRSi (As := [.int b4_1, .int (f11 b4_2.toNatClampNeg)]) (rest := []) G hP (c_X3_wantedBehind l D kA _ _ b4_1 (f11 b4_2.toNatClampNeg) h) cd_X3_wantedBehind ml_X3_19 ⟨(Nat.le_of_ble_eq_true rfl), (Nat.le_of_ble_eq_true rfl)⟩ rfl hl.1 rfl (Nat.le_of_ble_eq_true rfl) dX3_faultPlace_19 ⟨Nat.zero_le _, Nat.zero_le _⟩ (fun r12 h => ?_)
        refine lv_istore_n (lv' := [(1, .int r12), (0, .ref v0), (2, .int b4_2)]) hx hb dX3_faultPlace_22 rfl hl (by decide) rfl (fun ls hl => ?_)
        refine lv_iload_n hx hb dX3_faultPlace_23 rfl (lv_at hl 0 rfl) ?_
        refine lv_iconst (v := (3 : Int32)) hx hb dX3_faultPlace_24 (by decide) ?_
        refine lv_icmp_ne (tgt := 30) hx hb dX3_faultPlace_25 (by decide) (fun c13 => ?_) (fun c13 => ?_)
        · have h := h.1 c13
          obtain ⟨x14, ex14⟩ : ∃ y : Int32, y = b4_2 + (1 : Int32) := ⟨_, rfl⟩
          have h := h x14 ex14
          refine lv_iinc (v := x14) (lv' := [(2, .int x14), (1, .int r12), (0, .ref v0)]) hx hb dX3_faultPlace_30 hl (k := 2) rfl (by rw [ex14]; rfl) (by decide) rfl (fun ls hl => ?_)
          refine lv_goto (tgt := 4) hx hb dX3_faultPlace_33 (by decide) ?_
          exact ih_4 _ _ h ls (lv_sub hl [2, 1, 0] rfl)
        · have h := h.2 c13
          refine lv_iload_n hx hb dX3_faultPlace_28 rfl (lv_at hl 2 rfl) ?_
          exact x_iretR G hr hlk h dX3_faultPlace_29
  refine lv_iconst (v := (0 : Int32)) hx hb dX3_faultPlace_0 (by decide) ?_
  refine lv_istore_n (lv' := [(1, .int (0 : Int32)), (0, .ref v0)]) hx hb dX3_faultPlace_1 rfl hl (by decide) rfl (fun ls hl => ?_)
  refine lv_iconst (v := (0 : Int32)) hx hb dX3_faultPlace_2 (by decide) ?_
  refine lv_istore_n (lv' := [(2, .int (0 : Int32)), (1, .int (0 : Int32)), (0, .ref v0)]) hx hb dX3_faultPlace_3 rfl hl (by decide) rfl (fun ls hl => ?_)
  obtain ⟨n1, h⟩ := h
  exact J_4 n1 _ _ h ls (lv_sub hl [2, 1, 0] rfl)
def wp_X5_init (post : Hp → Prop) (mc ms : Nat) (X : Hp) (v0 : Nat) : Prop := ∃ (fs1 : List Value), Hs X v0 (.inr (5, fs1)) ∧ 0 < fs1.length ∧ ∀ X2 : Hp, X2 = hput X v0 (.inr (5, fs1.set 0 (.int (49 : Int32)))) → 0 + 1 ≤ mc ∧ 0 + 1029 ≤ ms ∧ ∀ q3 : Nat, q3 ∉ X2.1 → ∀ X4 : Hp, X4 = hadd X2 q3 (.inl (0, 1029, .inl (fun _ => 0))) → ∃ (fs5 : List Value), Hs X4 v0 (.inr (5, fs5)) ∧ 1 < fs5.length ∧ ∀ X6 : Hp, X6 = hput X4 v0 (.inr (5, fs5.set 1 (.ref q3))) → (0 + 1) ≤ mc ∧ (0 + 1029) ≤ ms ∧ post X6
set_option maxHeartbeats 4000000 in
set_option maxRecDepth 100000 in
theorem c_X5_init (l : Launch) (D : va_G) (kA : Nat → ClassId) (post : Hp → Prop) (mc ms : Nat) (X : Hp) (sz : Nat) (v0 : Nat) (h : wp_X5_init post mc ms X v0) : Met l yX5_init (.code yX5_init cX5_init 1 none :: gd) (rmO 1 mc ms 21) (va_Pc [Value.ref v0] (PreM D kA X sz)) (va_Qv post (PoM D kA X sz) (va_A (hw kA X) sz)) mc ms (va_A (hw kA X) sz) := by
  unfold wp_X5_init at h
  refine x_enM (by decide) (Nat.le_of_ble_eq_true rfl) ?_
  intro p e s m below meth c G hr hlk hin hsz hA S ls hl
  obtain ⟨hx, hb, hml, hown, hts, hE, hK⟩ := id G
  have hl : lv_has ls 1 [(0, .ref v0)] := hl
  refine lv_aload_n hx hb dX5_init_0 rfl (lv_at hl 0 rfl) ?_
  refine x_objInit G mk_X5_3 oi_ins oi_cod hl.1 dX5_init_1 (Nat.le_of_ble_eq_true rfl) (Nat.le_of_ble_eq_true rfl) ?_
  refine lv_aload_n hx hb dX5_init_4 rfl (lv_at hl 0 rfl) ?_
  refine lv_bipush (v := (49 : Int32)) hx hb dX5_init_5 (by decide) ?_
  obtain ⟨fs1, hfs1, hkfs1, h⟩ := h
  have h := h _ rfl
  refine x_put G S hfs1 hkfs1 rfl rfl fw_X5_11 dX5_init_7 (fun H locs S => ?_)
  refine lv_aload_n hx hb dX5_init_10 rfl (lv_at hl 0 rfl) ?_
  refine lv_sipush (v := (1029 : Int32)) hx hb dX5_init_11 (by decide) ?_
  obtain ⟨hc1, hc2, h⟩ := h
  refine x_newa (atype := .int) (t := 0) (N' := 1029) G S hA ac_int rfl rfl (fun z => z) rfl (by decide) (by decide) (Nat.le_of_ble_eq_true rfl) hc1 hc2 dX5_init_14 (fun q3 H hq3 S => ?_)
  have h := h q3 hq3 _ rfl
  obtain ⟨fs5, hfs5, hkfs5, h⟩ := h
  have h := h _ rfl
  refine x_putF G hin S hfs5 hkfs5 rfl rfl ff_X5_15 dX5_init_16 (fun H locs S => ?_)
  obtain ⟨hk1, hk2, h⟩ := h
  exact x_vretM G hr hlk S hk1 hk2 h dX5_init_19
def wp_X5_at (post : Int32 → Prop) (X : Hp) (v0 : Nat) (v1 : Int32) : Prop := (v1 < 0 → post (0 : Int32)) ∧ (¬ v1 < 0 → ∃ (fs2 : List Value) (y3 : Nat), Hs X v0 (.inr (5, fs2)) ∧ fs2[1]? = some (.ref y3) ∧ ∃ (n4 : Nat) (z5 : (Nat → Int32) ⊕ (Nat → Int64) ⊕ (Nat → UInt32) ⊕ (Nat → UInt64) ⊕ (Nat → Option Nat)), Hs X y3 (.inl (0, n4, z5)) ∧ ((nI n4) ≤ v1 → post (0 : Int32)) ∧ (¬ (nI n4) ≤ v1 → ∃ (fs7 : List Value) (y8 : Nat), Hs X v0 (.inr (5, fs7)) ∧ fs7[1]? = some (.ref y8) ∧ ∃ (n9 : Nat) (f10 : Nat → Int32), Hs X y8 (.inl (0, n9, .inl f10)) ∧ vp_in v1 n9 ∧ post (f10 v1.toNatClampNeg)))
set_option maxHeartbeats 4000000 in
set_option maxRecDepth 100000 in
theorem c_X5_at (l : Launch) (D : va_G) (kA : Nat → ClassId) (post : Int32 → Prop) (X : Hp) (v0 : Nat) (v1 : Int32) (h : wp_X5_at post X v0 v1) : Met l yX5_at (.code yX5_at cX5_at 2 (some .int) :: gd) (rmO 0 0 0 0) (va_Pc [Value.ref v0, Value.int v1] (Pre D kA X)) (vp_Si post) 0 0 (fun _ => False) := by
  unfold wp_X5_at at h
  refine x_enR (by decide) (Nat.le_of_ble_eq_true rfl) ?_
  intro p e s m below meth c G hr hlk hP ls hl
  obtain ⟨hx, hb, hml, hown, hts, hE, hK⟩ := id G
  have hl : lv_has ls 2 [(0, .ref v0), (1, .int v1)] := hl
  refine lv_iload_n hx hb dX5_at_0 rfl (lv_at hl 1 rfl) ?_
  refine lv_if_lt (tgt := 22) hx hb dX5_at_1 (by decide) (fun c1 => ?_) (fun c1 => ?_)
  · have h := h.1 c1
    refine lv_iconst (v := (0 : Int32)) hx hb dX5_at_22 (by decide) ?_
    exact x_iretR G hr hlk h dX5_at_23
  · have h := h.2 c1
    refine lv_iload_n hx hb dX5_at_4 rfl (lv_at hl 1 rfl) ?_
    refine lv_aload_n hx hb dX5_at_5 rfl (lv_at hl 0 rfl) ?_
    obtain ⟨fs2, y3, hfs2, hvfs2, h⟩ := h
    refine x_get G hP hfs2 hvfs2 fl_X5_15 dX5_at_6 ?_
    obtain ⟨n4, z5, hz5, h⟩ := h
    refine x_alen G hP hz5 rfl dX5_at_9 ?_
    refine lv_icmp_ge (tgt := 22) hx hb dX5_at_10 (by decide) (fun c6 => ?_) (fun c6 => ?_)
    · have h := h.1 c6
      refine lv_iconst (v := (0 : Int32)) hx hb dX5_at_22 (by decide) ?_
      exact x_iretR G hr hlk h dX5_at_23
    · have h := h.2 c6
      refine lv_aload_n hx hb dX5_at_13 rfl (lv_at hl 0 rfl) ?_
      obtain ⟨fs7, y8, hfs7, hvfs7, h⟩ := h
      refine x_get G hP hfs7 hvfs7 fl_X5_15 dX5_at_14 ?_
      refine lv_iload_n hx hb dX5_at_17 rfl (lv_at hl 1 rfl) ?_
      obtain ⟨n9, f10, hf10, hif10, h⟩ := h
      refine x_iald G hP hf10 hif10 dX5_at_18 ?_
      refine lv_goto (tgt := 23) hx hb dX5_at_19 (by decide) ?_
      exact x_iretR G hr hlk h dX5_at_23
def wp_X5_put (post : Hp → Prop) (X : Hp) (v0 : Nat) (v1 : Int32) (v2 : Int32) : Prop := (v1 < 0 → post X) ∧ (¬ v1 < 0 → ∃ (fs2 : List Value) (y3 : Nat), Hs X v0 (.inr (5, fs2)) ∧ fs2[1]? = some (.ref y3) ∧ ∃ (n4 : Nat) (z5 : (Nat → Int32) ⊕ (Nat → Int64) ⊕ (Nat → UInt32) ⊕ (Nat → UInt64) ⊕ (Nat → Option Nat)), Hs X y3 (.inl (0, n4, z5)) ∧ ((nI n4) ≤ v1 → post X) ∧ (¬ (nI n4) ≤ v1 → ∃ (fs7 : List Value) (y8 : Nat), Hs X v0 (.inr (5, fs7)) ∧ fs7[1]? = some (.ref y8) ∧ ∃ (n9 : Nat) (f10 : Nat → Int32), Hs X y8 (.inl (0, n9, .inl f10)) ∧ vp_in v1 n9 ∧ ∀ X11 : Hp, X11 = hput X y8 (.inl (0, n9, .inl (upd f10 v1.toNatClampNeg v2))) → post X11))
set_option maxHeartbeats 4000000 in
set_option maxRecDepth 100000 in
theorem c_X5_put (l : Launch) (D : va_G) (kA : Nat → ClassId) (post : Hp → Prop) (X : Hp) (sz : Nat) (v0 : Nat) (v1 : Int32) (v2 : Int32) (h : wp_X5_put post X v0 v1 v2) : Met l yX5_put (.code yX5_put cX5_put 3 none :: gd) (rmO 0 0 0 0) (va_Pc [Value.ref v0, Value.int v1, Value.int v2] (PreM D kA X sz)) (va_Qv post (PoM D kA X sz) (va_A (hw kA X) sz)) 0 0 (va_A (hw kA X) sz) := by
  unfold wp_X5_put at h
  refine x_enM (by decide) (Nat.le_of_ble_eq_true rfl) ?_
  intro p e s m below meth c G hr hlk hin hsz hA S ls hl
  obtain ⟨hx, hb, hml, hown, hts, hE, hK⟩ := id G
  have hl : lv_has ls 3 [(0, .ref v0), (1, .int v1), (2, .int v2)] := hl
  refine lv_iload_n hx hb dX5_put_0 rfl (lv_at hl 1 rfl) ?_
  refine lv_if_lt (tgt := 20) hx hb dX5_put_1 (by decide) (fun c1 => ?_) (fun c1 => ?_)
  · have h := h.1 c1
    exact x_vretM G hr hlk S (Nat.le_refl _) (Nat.le_refl _) h dX5_put_20
  · have h := h.2 c1
    refine lv_iload_n hx hb dX5_put_4 rfl (lv_at hl 1 rfl) ?_
    refine lv_aload_n hx hb dX5_put_5 rfl (lv_at hl 0 rfl) ?_
    obtain ⟨fs2, y3, hfs2, hvfs2, h⟩ := h
    refine x_get G S.1 hfs2 hvfs2 fl_X5_15 dX5_put_6 ?_
    obtain ⟨n4, z5, hz5, h⟩ := h
    refine x_alen G S.1 hz5 rfl dX5_put_9 ?_
    refine lv_icmp_ge (tgt := 20) hx hb dX5_put_10 (by decide) (fun c6 => ?_) (fun c6 => ?_)
    · have h := h.1 c6
      exact x_vretM G hr hlk S (Nat.le_refl _) (Nat.le_refl _) h dX5_put_20
    · have h := h.2 c6
      refine lv_aload_n hx hb dX5_put_13 rfl (lv_at hl 0 rfl) ?_
      obtain ⟨fs7, y8, hfs7, hvfs7, h⟩ := h
      refine x_get G S.1 hfs7 hvfs7 fl_X5_15 dX5_put_14 ?_
      refine lv_iload_n hx hb dX5_put_17 rfl (lv_at hl 1 rfl) ?_
      refine lv_iload_n hx hb dX5_put_18 rfl (lv_at hl 2 rfl) ?_
      obtain ⟨n9, f10, hf10, hif10, h⟩ := h
      have h := h _ rfl
      refine x_iast G S hf10 hif10 dX5_put_19 (fun H locs S => ?_)
      exact x_vretM G hr hlk S (Nat.le_refl _) (Nat.le_refl _) h dX5_put_20
def wp_X7_init (post : Hp → Prop) (mc ms : Nat) (X : Hp) (v0 : Nat) : Prop := 0 + 1 ≤ mc ∧ 0 + 60 ≤ ms ∧ ∀ q1 : Nat, q1 ∉ X.1 → ∀ X2 : Hp, X2 = hadd X q1 (.inl (0, 60, .inl (fun _ => 0))) → ∃ (fs3 : List Value), Hs X2 v0 (.inr (7, fs3)) ∧ 1 < fs3.length ∧ ∀ X4 : Hp, X4 = hput X2 v0 (.inr (7, fs3.set 1 (.ref q1))) → (0 + 1) + 1 ≤ mc ∧ (0 + 60) + 60 ≤ ms ∧ ∀ q5 : Nat, q5 ∉ X4.1 → ∀ X6 : Hp, X6 = hadd X4 q5 (.inl (0, 60, .inl (fun _ => 0))) → ∃ (fs7 : List Value), Hs X6 v0 (.inr (7, fs7)) ∧ 2 < fs7.length ∧ ∀ X8 : Hp, X8 = hput X6 v0 (.inr (7, fs7.set 2 (.ref q5))) → ((0 + 1) + 1) ≤ mc ∧ ((0 + 60) + 60) ≤ ms ∧ post X8
set_option maxHeartbeats 4000000 in
set_option maxRecDepth 100000 in
theorem c_X7_init (l : Launch) (D : va_G) (kA : Nat → ClassId) (post : Hp → Prop) (mc ms : Nat) (X : Hp) (sz : Nat) (v0 : Nat) (h : wp_X7_init post mc ms X v0) : Met l yX7_init (.code yX7_init cX7_init 1 none :: gd) (rmO 1 mc ms 21) (va_Pc [Value.ref v0] (PreM D kA X sz)) (va_Qv post (PoM D kA X sz) (va_A (hw kA X) sz)) mc ms (va_A (hw kA X) sz) := by
  unfold wp_X7_init at h
  refine x_enM (by decide) (Nat.le_of_ble_eq_true rfl) ?_
  intro p e s m below meth c G hr hlk hin hsz hA S ls hl
  obtain ⟨hx, hb, hml, hown, hts, hE, hK⟩ := id G
  have hl : lv_has ls 1 [(0, .ref v0)] := hl
  refine lv_aload_n hx hb dX7_init_0 rfl (lv_at hl 0 rfl) ?_
  refine x_objInit G mk_X7_3 oi_ins oi_cod hl.1 dX7_init_1 (Nat.le_of_ble_eq_true rfl) (Nat.le_of_ble_eq_true rfl) ?_
  refine lv_aload_n hx hb dX7_init_4 rfl (lv_at hl 0 rfl) ?_
  refine lv_bipush (v := (60 : Int32)) hx hb dX7_init_5 (by decide) ?_
  obtain ⟨hc1, hc2, h⟩ := h
  refine x_newa (atype := .int) (t := 0) (N' := 60) G S hA ac_int rfl rfl (fun z => z) rfl (by decide) (by decide) (Nat.le_of_ble_eq_true rfl) hc1 hc2 dX7_init_7 (fun q1 H hq1 S => ?_)
  have h := h q1 hq1 _ rfl
  obtain ⟨fs3, hfs3, hkfs3, h⟩ := h
  have h := h _ rfl
  refine x_putF G hin S hfs3 hkfs3 rfl rfl ff_X7_9 dX7_init_9 (fun H locs S => ?_)
  refine lv_aload_n hx hb dX7_init_12 rfl (lv_at hl 0 rfl) ?_
  refine lv_bipush (v := (60 : Int32)) hx hb dX7_init_13 (by decide) ?_
  obtain ⟨hc1, hc2, h⟩ := h
  refine x_newa (atype := .int) (t := 0) (N' := 60) G S hA ac_int rfl rfl (fun z => z) rfl (by decide) (by decide) (Nat.le_of_ble_eq_true rfl) hc1 hc2 dX7_init_15 (fun q5 H hq5 S => ?_)
  have h := h q5 hq5 _ rfl
  obtain ⟨fs7, hfs7, hkfs7, h⟩ := h
  have h := h _ rfl
  refine x_putF G hin S hfs7 hkfs7 rfl rfl ff_X7_15 dX7_init_17 (fun H locs S => ?_)
  obtain ⟨hk1, hk2, h⟩ := h
  exact x_vretM G hr hlk S hk1 hk2 h dX7_init_20
def wp_X7_pass (post : Hp → Prop) (X : Hp) (v0 : Nat) (v1 : Int32) (v2 : Int32) : Prop := ∃ (fs1 : List Value) (y2 : Int32), Hs X v0 (.inr (7, fs1)) ∧ fs1[0]? = some (.int y2) ∧ ((60 : Int32) ≤ y2 → post X) ∧ (¬ (60 : Int32) ≤ y2 → ∃ (fs4 : List Value) (y5 : Nat), Hs X v0 (.inr (7, fs4)) ∧ fs4[1]? = some (.ref y5) ∧ ∃ (fs6 : List Value) (y7 : Int32), Hs X v0 (.inr (7, fs6)) ∧ fs6[0]? = some (.int y7) ∧ ∃ (n8 : Nat) (f9 : Nat → Int32), Hs X y5 (.inl (0, n8, .inl f9)) ∧ vp_in y7 n8 ∧ ∀ X10 : Hp, X10 = hput X y5 (.inl (0, n8, .inl (upd f9 y7.toNatClampNeg v1))) → ∃ (fs11 : List Value) (y12 : Nat), Hs X10 v0 (.inr (7, fs11)) ∧ fs11[2]? = some (.ref y12) ∧ ∃ (fs13 : List Value) (y14 : Int32), Hs X10 v0 (.inr (7, fs13)) ∧ fs13[0]? = some (.int y14) ∧ ∃ (n15 : Nat) (f16 : Nat → Int32), Hs X10 y12 (.inl (0, n15, .inl f16)) ∧ vp_in y14 n15 ∧ ∀ X17 : Hp, X17 = hput X10 y12 (.inl (0, n15, .inl (upd f16 y14.toNatClampNeg v2))) → ∃ (fs18 : List Value) (y19 : Int32), Hs X17 v0 (.inr (7, fs18)) ∧ fs18[0]? = some (.int y19) ∧ ∃ (fs20 : List Value), Hs X17 v0 (.inr (7, fs20)) ∧ 0 < fs20.length ∧ ∀ X21 : Hp, X21 = hput X17 v0 (.inr (7, fs20.set 0 (.int (y19 + (1 : Int32))))) → post X21)
set_option maxHeartbeats 4000000 in
set_option maxRecDepth 100000 in
theorem c_X7_pass (l : Launch) (D : va_G) (kA : Nat → ClassId) (post : Hp → Prop) (X : Hp) (sz : Nat) (v0 : Nat) (v1 : Int32) (v2 : Int32) (h : wp_X7_pass post X v0 v1 v2) : Met l yX7_pass (.code yX7_pass cX7_pass 3 none :: gd) (rmO 0 0 0 0) (va_Pc [Value.ref v0, Value.int v1, Value.int v2] (PreM D kA X sz)) (va_Qv post (PoM D kA X sz) (va_A (hw kA X) sz)) 0 0 (va_A (hw kA X) sz) := by
  unfold wp_X7_pass at h
  refine x_enM (by decide) (Nat.le_of_ble_eq_true rfl) ?_
  intro p e s m below meth c G hr hlk hin hsz hA S ls hl
  obtain ⟨hx, hb, hml, hown, hts, hE, hK⟩ := id G
  have hl : lv_has ls 3 [(0, .ref v0), (1, .int v1), (2, .int v2)] := hl
  refine lv_aload_n hx hb dX7_pass_0 rfl (lv_at hl 0 rfl) ?_
  obtain ⟨fs1, y2, hfs1, hvfs1, h⟩ := h
  refine x_get G S.1 hfs1 hvfs1 fl_X7_18 dX7_pass_1 ?_
  refine lv_bipush (v := (60 : Int32)) hx hb dX7_pass_4 (by decide) ?_
  refine lv_icmp_ge (tgt := 39) hx hb dX7_pass_6 (by decide) (fun c3 => ?_) (fun c3 => ?_)
  · have h := h.1 c3
    exact x_vretM G hr hlk S (Nat.le_refl _) (Nat.le_refl _) h dX7_pass_39
  · have h := h.2 c3
    refine lv_aload_n hx hb dX7_pass_9 rfl (lv_at hl 0 rfl) ?_
    obtain ⟨fs4, y5, hfs4, hvfs4, h⟩ := h
    refine x_get G S.1 hfs4 hvfs4 fl_X7_9 dX7_pass_10 ?_
    refine lv_aload_n hx hb dX7_pass_13 rfl (lv_at hl 0 rfl) ?_
    obtain ⟨fs6, y7, hfs6, hvfs6, h⟩ := h
    refine x_get G S.1 hfs6 hvfs6 fl_X7_18 dX7_pass_14 ?_
    refine lv_iload_n hx hb dX7_pass_17 rfl (lv_at hl 1 rfl) ?_
    obtain ⟨n8, f9, hf9, hif9, h⟩ := h
    have h := h _ rfl
    refine x_iast G S hf9 hif9 dX7_pass_18 (fun H locs S => ?_)
    refine lv_aload_n hx hb dX7_pass_19 rfl (lv_at hl 0 rfl) ?_
    obtain ⟨fs11, y12, hfs11, hvfs11, h⟩ := h
    refine x_get G S.1 hfs11 hvfs11 fl_X7_15 dX7_pass_20 ?_
    refine lv_aload_n hx hb dX7_pass_23 rfl (lv_at hl 0 rfl) ?_
    obtain ⟨fs13, y14, hfs13, hvfs13, h⟩ := h
    refine x_get G S.1 hfs13 hvfs13 fl_X7_18 dX7_pass_24 ?_
    refine lv_iload_n hx hb dX7_pass_27 rfl (lv_at hl 2 rfl) ?_
    obtain ⟨n15, f16, hf16, hif16, h⟩ := h
    have h := h _ rfl
    refine x_iast G S hf16 hif16 dX7_pass_28 (fun H locs S => ?_)
    refine lv_aload_n hx hb dX7_pass_29 rfl (lv_at hl 0 rfl) ?_
    refine lv_dup hx hb dX7_pass_30 rfl ?_
    obtain ⟨fs18, y19, hfs18, hvfs18, h⟩ := h
    refine x_get G S.1 hfs18 hvfs18 fl_X7_18 dX7_pass_31 ?_
    refine lv_iconst (v := (1 : Int32)) hx hb dX7_pass_34 (by decide) ?_
    refine lv_iadd hx hb dX7_pass_35 ?_
    obtain ⟨fs20, hfs20, hkfs20, h⟩ := h
    have h := h _ rfl
    refine x_put G S hfs20 hkfs20 rfl rfl fw_X7_18 dX7_pass_36 (fun H locs S => ?_)
    exact x_vretM G hr hlk S (Nat.le_refl _) (Nat.le_refl _) h dX7_pass_39
def wp_X9_lessened (post : Int32 → Prop) (X : Hp) (v0 : Int32) (v1 : Int32) : Prop := post ((((v0.toInt64) * (((1000000 : Int32) - v1).toInt64)) / (1000000 : Int64)).toInt32)
set_option maxHeartbeats 4000000 in
set_option maxRecDepth 100000 in
theorem c_X9_lessened (l : Launch) (D : va_G) (kA : Nat → ClassId) (post : Int32 → Prop) (X : Hp) (v0 : Int32) (v1 : Int32) (h : wp_X9_lessened post X v0 v1) : Met l yX9_lessened (.code yX9_lessened cX9_lessened 2 (some .int) :: gd) (rmO 0 0 0 0) (va_Pc [Value.int v0, Value.int v1] (Pre D kA X)) (vp_Si post) 0 0 (fun _ => False) := by
  unfold wp_X9_lessened at h
  refine x_enR (by decide) (Nat.le_of_ble_eq_true rfl) ?_
  intro p e s m below meth c G hr hlk hP ls hl
  obtain ⟨hx, hb, hml, hown, hts, hE, hK⟩ := id G
  have hl : lv_has ls 2 [(0, .int v0), (1, .int v1)] := hl
  refine lv_iload_n hx hb dX9_lessened_0 rfl (lv_at hl 0 rfl) ?_
  refine lv_i2l (v := v0.toInt64) hx hb dX9_lessened_1 rfl ?_
  refine lv_ldc hx hb hown (hts _ kc_X9_217) dX9_lessened_2 ?_
  refine lv_iload_n hx hb dX9_lessened_4 rfl (lv_at hl 1 rfl) ?_
  refine lv_isub hx hb dX9_lessened_5 ?_
  refine lv_i2l (v := ((1000000 : Int32) - v1).toInt64) hx hb dX9_lessened_6 rfl ?_
  refine lv_lmul hx hb dX9_lessened_7 ?_
  refine lv_ldc2 hx hb hown (hts _ kc_X9_238) dX9_lessened_8 ?_
  refine lv_ldiv hx hb dX9_lessened_11 (by decide) ?_
  refine lv_l2i (v := (((v0.toInt64) * (((1000000 : Int32) - v1).toInt64)) / (1000000 : Int64)).toInt32) hx hb dX9_lessened_12 rfl ?_
  exact x_iretR G hr hlk h dX9_lessened_13
def bk_X7_safe_10 (post : Int32 → Prop) (X : Hp) (v0 : Nat)  : Nat → Int32 → Int32 → Prop
  | 0, _, _ => False
  | k + 1, b10_1, b10_2 => (b10_2 < 0 → post b10_1) ∧ (¬ b10_2 < 0 → ∃ (fs6 : List Value) (y7 : Nat), Hs X v0 (.inr (7, fs6)) ∧ fs6[1]? = some (.ref y7) ∧ ∃ (n8 : Nat) (f9 : Nat → Int32), Hs X y7 (.inl (0, n8, .inl f9)) ∧ vp_in b10_2 n8 ∧ ∃ (fs10 : List Value) (y11 : Nat), Hs X v0 (.inr (7, fs10)) ∧ fs10[2]? = some (.ref y11) ∧ ∃ (n12 : Nat) (f13 : Nat → Int32), Hs X y11 (.inl (0, n12, .inl f13)) ∧ vp_in b10_2 n12 ∧ wp_X9_lessened (fun r14 => ∀ x15 : Int32, x15 = b10_2 + (-1 : Int32) → (bk_X7_safe_10 post X v0 k) r14 x15) X b10_1 ((f9 b10_2.toNatClampNeg) * (f13 b10_2.toNatClampNeg)))
def wp_X7_safe (post : Int32 → Prop) (X : Hp) (v0 : Nat) : Prop := ∃ (fs1 : List Value) (y2 : Int32), Hs X v0 (.inr (7, fs1)) ∧ fs1[0]? = some (.int y2) ∧ ∀ x3 : Int32, x3 = (y2 - (1 : Int32)) → ∃ n4 : Nat, bk_X7_safe_10 post X v0 n4 (1000000 : Int32) x3
set_option maxHeartbeats 4000000 in
set_option maxRecDepth 100000 in
theorem c_X7_safe (l : Launch) (D : va_G) (kA : Nat → ClassId) (post : Int32 → Prop) (X : Hp) (v0 : Nat) (h : wp_X7_safe post X v0) : Met l yX7_safe (.code yX7_safe cX7_safe 3 (some .int) :: gd) (rmO 1 0 0 21) (va_Pc [Value.ref v0] (Pre D kA X)) (vp_Si post) 0 0 (fun _ => False) := by
  unfold wp_X7_safe at h
  refine x_enR (by decide) (Nat.le_of_ble_eq_true rfl) ?_
  intro p e s m below meth c G hr hlk hP ls hl
  obtain ⟨hx, hb, hml, hown, hts, hE, hK⟩ := id G
  have hl : lv_has ls 3 [(0, .ref v0)] := hl
  have J_10 : ∀ (n : Nat) (b10_1 : Int32) (b10_2 : Int32), ∀ (_ : bk_X7_safe_10 post X v0  n b10_1 b10_2), ∀ ls, lv_has ls 3 [(0, .ref v0), (1, .int b10_1), (2, .int b10_2)] → W p l e (rmO 1 0 0 21) s m [Value.ref v0].toArray below meth c s.heap [] 0 0 (MQ below (vp_Si post) [Value.ref v0].toArray s 0 0 (fun _ => False)) (F0 m 10 ls []) := by
    intro n
    induction n with
    | zero =>
      intro b10_1 b10_2 h ls hl
      rw [bk_X7_safe_10] at h
      exact h.elim
    | succ n_10 ih_10 =>
      intro b10_1 b10_2 h ls hl
      rw [bk_X7_safe_10] at h
      refine lv_iload_n hx hb dX7_safe_10 rfl (lv_at hl 2 rfl) ?_
      refine lv_if_lt (tgt := 38) hx hb dX7_safe_11 (by decide) (fun c5 => ?_) (fun c5 => ?_)
      · have h := h.1 c5
        refine lv_iload_n hx hb dX7_safe_38 rfl (lv_at hl 1 rfl) ?_
        exact x_iretR G hr hlk h dX7_safe_39
      · have h := h.2 c5
        refine lv_iload_n hx hb dX7_safe_14 rfl (lv_at hl 1 rfl) ?_
        refine lv_aload_n hx hb dX7_safe_15 rfl (lv_at hl 0 rfl) ?_
        obtain ⟨fs6, y7, hfs6, hvfs6, h⟩ := h
        refine x_get G hP hfs6 hvfs6 fl_X7_9 dX7_safe_16 ?_
        refine lv_iload_n hx hb dX7_safe_19 rfl (lv_at hl 2 rfl) ?_
        obtain ⟨n8, f9, hf9, hif9, h⟩ := h
        refine x_iald G hP hf9 hif9 dX7_safe_20 ?_
        refine lv_aload_n hx hb dX7_safe_21 rfl (lv_at hl 0 rfl) ?_
        obtain ⟨fs10, y11, hfs10, hvfs10, h⟩ := h
        refine x_get G hP hfs10 hvfs10 fl_X7_15 dX7_safe_22 ?_
        refine lv_iload_n hx hb dX7_safe_25 rfl (lv_at hl 2 rfl) ?_
        obtain ⟨n12, f13, hf13, hif13, h⟩ := h
        refine x_iald G hP hf13 hif13 dX7_safe_26 ?_
        refine lv_imul hx hb dX7_safe_27 ?_
        refine x_cRSi (As := [.int b10_1, .int ((f9 b10_2.toNatClampNeg) * (f13 b10_2.toNatClampNeg))]) (rest := []) G hP (c_X9_lessened l D kA _ _ b10_1 ((f9 b10_2.toNatClampNeg) * (f13 b10_2.toNatClampNeg)) h) cd_X9_lessened ml_X7_23 ⟨(Nat.le_of_ble_eq_true rfl), (Nat.le_of_ble_eq_true rfl)⟩ rfl hl.1 rfl (Nat.le_of_ble_eq_true rfl) dX7_safe_28 ⟨Nat.zero_le _, Nat.zero_le _⟩ (fun r14 h => ?_)
        refine lv_istore_n (lv' := [(1, .int r14), (0, .ref v0), (2, .int b10_2)]) hx hb dX7_safe_31 rfl hl (by decide) rfl (fun ls hl => ?_)
        obtain ⟨x15, ex15⟩ : ∃ y : Int32, y = b10_2 + (-1 : Int32) := ⟨_, rfl⟩
        have h := h x15 ex15
        refine lv_iinc (v := x15) (lv' := [(2, .int x15), (1, .int r14), (0, .ref v0)]) hx hb dX7_safe_32 hl (k := 2) rfl (by rw [ex15]; rfl) (by decide) rfl (fun ls hl => ?_)
        refine lv_goto (tgt := 10) hx hb dX7_safe_35 (by decide) ?_
        exact ih_10 _ _ h ls (lv_sub hl [2, 1, 0] rfl)
  refine lv_ldc hx hb hown (hts _ kc_X7_22) dX7_safe_0 ?_
  refine lv_istore_n (lv' := [(1, .int (1000000 : Int32)), (0, .ref v0)]) hx hb dX7_safe_2 rfl hl (by decide) rfl (fun ls hl => ?_)
  refine lv_aload_n hx hb dX7_safe_3 rfl (lv_at hl 1 rfl) ?_
  obtain ⟨fs1, y2, hfs1, hvfs1, h⟩ := h
  refine x_get G hP hfs1 hvfs1 fl_X7_18 dX7_safe_4 ?_
  refine lv_iconst (v := (1 : Int32)) hx hb dX7_safe_7 (by decide) ?_
  refine lv_isub hx hb dX7_safe_8 ?_
  refine lv_topi (fun x3 ex3 => ?_)
  have h := h x3 ex3
  refine lv_istore_n (lv' := [(2, .int x3), (1, .int (1000000 : Int32)), (0, .ref v0)]) hx hb dX7_safe_9 rfl hl (by decide) rfl (fun ls hl => ?_)
  obtain ⟨n4, h⟩ := h
  exact J_10 n4 _ _ h ls (lv_sub hl [2, 1, 0] rfl)
def bk_X7_riskiest_48 (post : Int32 → Prop) (X : Hp) (v0 : Nat) (r_7 : Int32 → Int32 → Int32 → Prop) (b48_1 : Int32) (b48_2 : Int32) (b48_3 : Int32) : Prop := ∀ x23 : Int32, x23 = b48_3 + (1 : Int32) → r_7 b48_1 b48_2 x23
def bk_X7_riskiest_7 (post : Int32 → Prop) (X : Hp) (v0 : Nat)  : Nat → Int32 → Int32 → Int32 → Prop
  | 0, _, _, _ => False
  | k + 1, b7_1, b7_2, b7_3 => ∃ (fs2 : List Value) (y3 : Int32), Hs X v0 (.inr (7, fs2)) ∧ fs2[0]? = some (.int y3) ∧ (y3 ≤ b7_3 → post b7_1) ∧ (¬ y3 ≤ b7_3 → ∃ (fs5 : List Value) (y6 : Nat), Hs X v0 (.inr (7, fs5)) ∧ fs5[1]? = some (.ref y6) ∧ ∃ (n7 : Nat) (f8 : Nat → Int32), Hs X y6 (.inl (0, n7, .inl f8)) ∧ vp_in b7_3 n7 ∧ ∃ (fs9 : List Value) (y10 : Nat), Hs X v0 (.inr (7, fs9)) ∧ fs9[2]? = some (.ref y10) ∧ ∃ (n11 : Nat) (f12 : Nat → Int32), Hs X y10 (.inl (0, n11, .inl f12)) ∧ vp_in b7_3 n11 ∧ (((f8 b7_3.toNatClampNeg) * (f12 b7_3.toNatClampNeg)) ≤ b7_2 → bk_X7_riskiest_48 post X v0 (bk_X7_riskiest_7 post X v0 k) b7_1 b7_2 b7_3) ∧ (¬ ((f8 b7_3.toNatClampNeg) * (f12 b7_3.toNatClampNeg)) ≤ b7_2 → ∃ (fs14 : List Value) (y15 : Nat), Hs X v0 (.inr (7, fs14)) ∧ fs14[1]? = some (.ref y15) ∧ ∃ (n16 : Nat) (f17 : Nat → Int32), Hs X y15 (.inl (0, n16, .inl f17)) ∧ vp_in b7_3 n16 ∧ ∃ (fs18 : List Value) (y19 : Nat), Hs X v0 (.inr (7, fs18)) ∧ fs18[2]? = some (.ref y19) ∧ ∃ (n20 : Nat) (f21 : Nat → Int32), Hs X y19 (.inl (0, n20, .inl f21)) ∧ vp_in b7_3 n20 ∧ ∀ x22 : Int32, x22 = ((f17 b7_3.toNatClampNeg) * (f21 b7_3.toNatClampNeg)) → bk_X7_riskiest_48 post X v0 (bk_X7_riskiest_7 post X v0 k) b7_3 x22 b7_3))
def wp_X7_riskiest (post : Int32 → Prop) (X : Hp) (v0 : Nat) : Prop := ∃ n1 : Nat, bk_X7_riskiest_7 post X v0 n1 (-6 : Int32) (-1 : Int32) (0 : Int32)
set_option maxHeartbeats 4000000 in
set_option maxRecDepth 100000 in
theorem c_X7_riskiest (l : Launch) (D : va_G) (kA : Nat → ClassId) (post : Int32 → Prop) (X : Hp) (v0 : Nat) (h : wp_X7_riskiest post X v0) : Met l yX7_riskiest (.code yX7_riskiest cX7_riskiest 4 (some .int) :: gd) (rmO 0 0 0 0) (va_Pc [Value.ref v0] (Pre D kA X)) (vp_Si post) 0 0 (fun _ => False) := by
  unfold wp_X7_riskiest at h
  refine x_enR (by decide) (Nat.le_of_ble_eq_true rfl) ?_
  intro p e s m below meth c G hr hlk hP ls hl
  obtain ⟨hx, hb, hml, hown, hts, hE, hK⟩ := id G
  have hl : lv_has ls 4 [(0, .ref v0)] := hl
  have J_7 : ∀ (n : Nat) (b7_1 : Int32) (b7_2 : Int32) (b7_3 : Int32), ∀ (_ : bk_X7_riskiest_7 post X v0  n b7_1 b7_2 b7_3), ∀ ls, lv_has ls 4 [(0, .ref v0), (1, .int b7_1), (2, .int b7_2), (3, .int b7_3)] → W p l e (rmO 0 0 0 0) s m [Value.ref v0].toArray below meth c s.heap [] 0 0 (MQ below (vp_Si post) [Value.ref v0].toArray s 0 0 (fun _ => False)) (F0 m 7 ls []) := by
    intro n
    induction n with
    | zero =>
      intro b7_1 b7_2 b7_3 h ls hl
      rw [bk_X7_riskiest_7] at h
      exact h.elim
    | succ n_7 ih_7 =>
      have J_48 : ∀ (b48_1 : Int32) (b48_2 : Int32) (b48_3 : Int32), ∀ (_ : bk_X7_riskiest_48 post X v0 (bk_X7_riskiest_7 post X v0 n_7) b48_1 b48_2 b48_3), ∀ ls, lv_has ls 4 [(0, .ref v0), (1, .int b48_1), (2, .int b48_2), (3, .int b48_3)] → W p l e (rmO 0 0 0 0) s m [Value.ref v0].toArray below meth c s.heap [] 0 0 (MQ below (vp_Si post) [Value.ref v0].toArray s 0 0 (fun _ => False)) (F0 m 48 ls []) := by
        intro b48_1 b48_2 b48_3 h ls hl
        unfold bk_X7_riskiest_48 at h
        obtain ⟨x23, ex23⟩ : ∃ y : Int32, y = b48_3 + (1 : Int32) := ⟨_, rfl⟩
        have h := h x23 ex23
        refine lv_iinc (v := x23) (lv' := [(3, .int x23), (0, .ref v0), (1, .int b48_1), (2, .int b48_2)]) hx hb dX7_riskiest_48 hl (k := 3) rfl (by rw [ex23]; rfl) (by decide) rfl (fun ls hl => ?_)
        refine lv_goto (tgt := 7) hx hb dX7_riskiest_51 (by decide) ?_
        exact ih_7 _ _ _ h ls (lv_sub hl [1, 2, 3, 0] rfl)
      intro b7_1 b7_2 b7_3 h ls hl
      rw [bk_X7_riskiest_7] at h
      refine lv_iload_n hx hb dX7_riskiest_7 rfl (lv_at hl 3 rfl) ?_
      refine lv_aload_n hx hb dX7_riskiest_8 rfl (lv_at hl 0 rfl) ?_
      obtain ⟨fs2, y3, hfs2, hvfs2, h⟩ := h
      refine x_get G hP hfs2 hvfs2 fl_X7_18 dX7_riskiest_9 ?_
      refine lv_icmp_ge (tgt := 54) hx hb dX7_riskiest_12 (by decide) (fun c4 => ?_) (fun c4 => ?_)
      · have h := h.1 c4
        refine lv_iload_n hx hb dX7_riskiest_54 rfl (lv_at hl 1 rfl) ?_
        exact x_iretR G hr hlk h dX7_riskiest_55
      · have h := h.2 c4
        refine lv_aload_n hx hb dX7_riskiest_15 rfl (lv_at hl 0 rfl) ?_
        obtain ⟨fs5, y6, hfs5, hvfs5, h⟩ := h
        refine x_get G hP hfs5 hvfs5 fl_X7_9 dX7_riskiest_16 ?_
        refine lv_iload_n hx hb dX7_riskiest_19 rfl (lv_at hl 3 rfl) ?_
        obtain ⟨n7, f8, hf8, hif8, h⟩ := h
        refine x_iald G hP hf8 hif8 dX7_riskiest_20 ?_
        refine lv_aload_n hx hb dX7_riskiest_21 rfl (lv_at hl 0 rfl) ?_
        obtain ⟨fs9, y10, hfs9, hvfs9, h⟩ := h
        refine x_get G hP hfs9 hvfs9 fl_X7_15 dX7_riskiest_22 ?_
        refine lv_iload_n hx hb dX7_riskiest_25 rfl (lv_at hl 3 rfl) ?_
        obtain ⟨n11, f12, hf12, hif12, h⟩ := h
        refine x_iald G hP hf12 hif12 dX7_riskiest_26 ?_
        refine lv_imul hx hb dX7_riskiest_27 ?_
        refine lv_iload_n hx hb dX7_riskiest_28 rfl (lv_at hl 2 rfl) ?_
        refine lv_icmp_le (tgt := 48) hx hb dX7_riskiest_29 (by decide) (fun c13 => ?_) (fun c13 => ?_)
        · have h := h.1 c13
          exact J_48 _ _ _ h ls (lv_sub hl [0, 1, 2, 3] rfl)
        · have h := h.2 c13
          refine lv_aload_n hx hb dX7_riskiest_32 rfl (lv_at hl 0 rfl) ?_
          obtain ⟨fs14, y15, hfs14, hvfs14, h⟩ := h
          refine x_get G hP hfs14 hvfs14 fl_X7_9 dX7_riskiest_33 ?_
          refine lv_iload_n hx hb dX7_riskiest_36 rfl (lv_at hl 3 rfl) ?_
          obtain ⟨n16, f17, hf17, hif17, h⟩ := h
          refine x_iald G hP hf17 hif17 dX7_riskiest_37 ?_
          refine lv_aload_n hx hb dX7_riskiest_38 rfl (lv_at hl 0 rfl) ?_
          obtain ⟨fs18, y19, hfs18, hvfs18, h⟩ := h
          refine x_get G hP hfs18 hvfs18 fl_X7_15 dX7_riskiest_39 ?_
          refine lv_iload_n hx hb dX7_riskiest_42 rfl (lv_at hl 3 rfl) ?_
          obtain ⟨n20, f21, hf21, hif21, h⟩ := h
          refine x_iald G hP hf21 hif21 dX7_riskiest_43 ?_
          refine lv_imul hx hb dX7_riskiest_44 ?_
          refine lv_topi (fun x22 ex22 => ?_)
          have h := h x22 ex22
          refine lv_istore_n (lv' := [(2, .int x22), (0, .ref v0), (1, .int b7_1), (3, .int b7_3)]) hx hb dX7_riskiest_45 rfl hl (by decide) rfl (fun ls hl => ?_)
          refine lv_iload_n hx hb dX7_riskiest_46 rfl (lv_at hl 3 rfl) ?_
          refine lv_istore_n (lv' := [(1, .int b7_3), (2, .int x22), (0, .ref v0), (3, .int b7_3)]) hx hb dX7_riskiest_47 rfl hl (by decide) rfl (fun ls hl => ?_)
          exact J_48 _ _ _ h ls (lv_sub hl [2, 0, 1, 3] rfl)
  refine lv_bipush (v := (-6 : Int32)) hx hb dX7_riskiest_0 (by decide) ?_
  refine lv_istore_n (lv' := [(1, .int (-6 : Int32)), (0, .ref v0)]) hx hb dX7_riskiest_2 rfl hl (by decide) rfl (fun ls hl => ?_)
  refine lv_iconst (v := (-1 : Int32)) hx hb dX7_riskiest_3 (by decide) ?_
  refine lv_istore_n (lv' := [(2, .int (-1 : Int32)), (1, .int (-6 : Int32)), (0, .ref v0)]) hx hb dX7_riskiest_4 rfl hl (by decide) rfl (fun ls hl => ?_)
  refine lv_iconst (v := (0 : Int32)) hx hb dX7_riskiest_5 (by decide) ?_
  refine lv_istore_n (lv' := [(3, .int (0 : Int32)), (2, .int (-1 : Int32)), (1, .int (-6 : Int32)), (0, .ref v0)]) hx hb dX7_riskiest_6 rfl hl (by decide) rfl (fun ls hl => ?_)
  obtain ⟨n1, h⟩ := h
  exact J_7 n1 _ _ _ h ls (lv_sub hl [3, 2, 1, 0] rfl)
def wp_X7_drawBehind (post : Int32 → Prop) (X : Hp) (v0 : Int32) : Prop := post (((v0 * (75 : Int32)) + (74 : Int32)) - ((v0 * (75 : Int32)) + (74 : Int32)) / (65537 : Int32) * (65537 : Int32))
set_option maxHeartbeats 4000000 in
set_option maxRecDepth 100000 in
theorem c_X7_drawBehind (l : Launch) (D : va_G) (kA : Nat → ClassId) (post : Int32 → Prop) (X : Hp) (v0 : Int32) (h : wp_X7_drawBehind post X v0) : Met l yX7_drawBehind (.code yX7_drawBehind cX7_drawBehind 1 (some .int) :: gd) (rmO 0 0 0 0) (va_Pc [Value.int v0] (Pre D kA X)) (vp_Si post) 0 0 (fun _ => False) := by
  unfold wp_X7_drawBehind at h
  refine x_enR (by decide) (Nat.le_of_ble_eq_true rfl) ?_
  intro p e s m below meth c G hr hlk hP ls hl
  obtain ⟨hx, hb, hml, hown, hts, hE, hK⟩ := id G
  have hl : lv_has ls 1 [(0, .int v0)] := hl
  refine lv_iload_n hx hb dX7_drawBehind_0 rfl (lv_at hl 0 rfl) ?_
  refine lv_bipush (v := (75 : Int32)) hx hb dX7_drawBehind_1 (by decide) ?_
  refine lv_imul hx hb dX7_drawBehind_3 ?_
  refine lv_bipush (v := (74 : Int32)) hx hb dX7_drawBehind_4 (by decide) ?_
  refine lv_iadd hx hb dX7_drawBehind_6 ?_
  refine lv_ldc hx hb hown (hts _ kc_X7_31) dX7_drawBehind_7 ?_
  refine lv_irem hx hb dX7_drawBehind_9 (by decide) ?_
  exact x_iretR G hr hlk h dX7_drawBehind_10
def bk_X7_struckBy_52 (post : Int32 → Prop) (X : Hp) (v0 : Nat) (v1 : Int32) (r_4 : Int32 → Int32 → Prop) (b52_2 : Int32) (b52_3 : Int32) : Prop := ∀ x17 : Int32, x17 = b52_3 + (1 : Int32) → r_4 b52_2 x17
def bk_X7_struckBy_4 (post : Int32 → Prop) (X : Hp) (v0 : Nat) (v1 : Int32)  : Nat → Int32 → Int32 → Prop
  | 0, _, _ => False
  | k + 1, b4_2, b4_3 => ∃ (fs2 : List Value) (y3 : Int32), Hs X v0 (.inr (7, fs2)) ∧ fs2[0]? = some (.int y3) ∧ (y3 ≤ b4_3 → post (-6 : Int32)) ∧ (¬ y3 ≤ b4_3 → wp_X7_drawBehind (fun r5 => ∃ (fs6 : List Value) (y7 : Nat), Hs X v0 (.inr (7, fs6)) ∧ fs6[1]? = some (.ref y7) ∧ ∃ (n8 : Nat) (f9 : Nat → Int32), Hs X y7 (.inl (0, n8, .inl f9)) ∧ vp_in b4_3 n8 ∧ ((f9 b4_3.toNatClampNeg) ≤ (r5 - r5 / (1000 : Int32) * (1000 : Int32)) → bk_X7_struckBy_52 post X v0 v1 (bk_X7_struckBy_4 post X v0 v1 k) r5 b4_3) ∧ (¬ (f9 b4_3.toNatClampNeg) ≤ (r5 - r5 / (1000 : Int32) * (1000 : Int32)) → wp_X7_drawBehind (fun r11 => ∃ (fs12 : List Value) (y13 : Nat), Hs X v0 (.inr (7, fs12)) ∧ fs12[2]? = some (.ref y13) ∧ ∃ (n14 : Nat) (f15 : Nat → Int32), Hs X y13 (.inl (0, n14, .inl f15)) ∧ vp_in b4_3 n14 ∧ ((f15 b4_3.toNatClampNeg) ≤ (r11 - r11 / (1000 : Int32) * (1000 : Int32)) → bk_X7_struckBy_52 post X v0 v1 (bk_X7_struckBy_4 post X v0 v1 k) r11 b4_3) ∧ (¬ (f15 b4_3.toNatClampNeg) ≤ (r11 - r11 / (1000 : Int32) * (1000 : Int32)) → post b4_3)) X r5)) X b4_2)
def wp_X7_struckBy (post : Int32 → Prop) (X : Hp) (v0 : Nat) (v1 : Int32) : Prop := ∃ n1 : Nat, bk_X7_struckBy_4 post X v0 v1 n1 v1 (0 : Int32)
set_option maxHeartbeats 4000000 in
set_option maxRecDepth 100000 in
theorem c_X7_struckBy (l : Launch) (D : va_G) (kA : Nat → ClassId) (post : Int32 → Prop) (X : Hp) (v0 : Nat) (v1 : Int32) (h : wp_X7_struckBy post X v0 v1) : Met l yX7_struckBy (.code yX7_struckBy cX7_struckBy 4 (some .int) :: gd) (rmO 1 0 0 20) (va_Pc [Value.ref v0, Value.int v1] (Pre D kA X)) (vp_Si post) 0 0 (fun _ => False) := by
  unfold wp_X7_struckBy at h
  refine x_enR (by decide) (Nat.le_of_ble_eq_true rfl) ?_
  intro p e s m below meth c G hr hlk hP ls hl
  obtain ⟨hx, hb, hml, hown, hts, hE, hK⟩ := id G
  have hl : lv_has ls 4 [(0, .ref v0), (1, .int v1)] := hl
  have J_4 : ∀ (n : Nat) (b4_2 : Int32) (b4_3 : Int32), ∀ (_ : bk_X7_struckBy_4 post X v0 v1  n b4_2 b4_3), ∀ ls, lv_has ls 4 [(0, .ref v0), (2, .int b4_2), (3, .int b4_3)] → W p l e (rmO 1 0 0 20) s m [Value.ref v0, Value.int v1].toArray below meth c s.heap [] 0 0 (MQ below (vp_Si post) [Value.ref v0, Value.int v1].toArray s 0 0 (fun _ => False)) (F0 m 4 ls []) := by
    intro n
    induction n with
    | zero =>
      intro b4_2 b4_3 h ls hl
      rw [bk_X7_struckBy_4] at h
      exact h.elim
    | succ n_4 ih_4 =>
      have J_52 : ∀ (b52_2 : Int32) (b52_3 : Int32), ∀ (_ : bk_X7_struckBy_52 post X v0 v1 (bk_X7_struckBy_4 post X v0 v1 n_4) b52_2 b52_3), ∀ ls, lv_has ls 4 [(0, .ref v0), (2, .int b52_2), (3, .int b52_3)] → W p l e (rmO 1 0 0 20) s m [Value.ref v0, Value.int v1].toArray below meth c s.heap [] 0 0 (MQ below (vp_Si post) [Value.ref v0, Value.int v1].toArray s 0 0 (fun _ => False)) (F0 m 52 ls []) := by
        intro b52_2 b52_3 h ls hl
        unfold bk_X7_struckBy_52 at h
        obtain ⟨x17, ex17⟩ : ∃ y : Int32, y = b52_3 + (1 : Int32) := ⟨_, rfl⟩
        have h := h x17 ex17
        refine lv_iinc (v := x17) (lv' := [(3, .int x17), (0, .ref v0), (2, .int b52_2)]) hx hb dX7_struckBy_52 hl (k := 2) rfl (by rw [ex17]; rfl) (by decide) rfl (fun ls hl => ?_)
        refine lv_goto (tgt := 4) hx hb dX7_struckBy_55 (by decide) ?_
        exact ih_4 _ _ h ls (lv_sub hl [1, 2, 0] rfl)
      intro b4_2 b4_3 h ls hl
      rw [bk_X7_struckBy_4] at h
      refine lv_iload_n hx hb dX7_struckBy_4 rfl (lv_at hl 2 rfl) ?_
      refine lv_aload_n hx hb dX7_struckBy_5 rfl (lv_at hl 0 rfl) ?_
      obtain ⟨fs2, y3, hfs2, hvfs2, h⟩ := h
      refine x_get G hP hfs2 hvfs2 fl_X7_18 dX7_struckBy_6 ?_
      refine lv_icmp_ge (tgt := 58) hx hb dX7_struckBy_9 (by decide) (fun c4 => ?_) (fun c4 => ?_)
      · have h := h.1 c4
        refine lv_bipush (v := (-6 : Int32)) hx hb dX7_struckBy_58 (by decide) ?_
        exact x_iretR G hr hlk h dX7_struckBy_60
      · have h := h.2 c4
        refine lv_iload_n hx hb dX7_struckBy_12 rfl (lv_at hl 1 rfl) ?_
        refine x_cRSi (As := [.int b4_2]) (rest := []) G hP (c_X7_drawBehind l D kA _ _ b4_2 h) cd_X7_drawBehind ml_X7_27 ⟨(Nat.le_of_ble_eq_true rfl), (Nat.le_of_ble_eq_true rfl)⟩ rfl hl.1 rfl (Nat.le_of_ble_eq_true rfl) dX7_struckBy_13 ⟨Nat.zero_le _, Nat.zero_le _⟩ (fun r5 h => ?_)
        refine lv_istore_n (lv' := [(2, .int r5), (0, .ref v0), (3, .int b4_3)]) hx hb dX7_struckBy_16 rfl hl (by decide) rfl (fun ls hl => ?_)
        refine lv_iload_n hx hb dX7_struckBy_17 rfl (lv_at hl 0 rfl) ?_
        refine lv_sipush (v := (1000 : Int32)) hx hb dX7_struckBy_18 (by decide) ?_
        refine lv_irem hx hb dX7_struckBy_21 (by decide) ?_
        refine lv_aload_n hx hb dX7_struckBy_22 rfl (lv_at hl 1 rfl) ?_
        obtain ⟨fs6, y7, hfs6, hvfs6, h⟩ := h
        refine x_get G hP hfs6 hvfs6 fl_X7_9 dX7_struckBy_23 ?_
        refine lv_iload_n hx hb dX7_struckBy_26 rfl (lv_at hl 2 rfl) ?_
        obtain ⟨n8, f9, hf9, hif9, h⟩ := h
        refine x_iald G hP hf9 hif9 dX7_struckBy_27 ?_
        refine lv_icmp_ge (tgt := 52) hx hb dX7_struckBy_28 (by decide) (fun c10 => ?_) (fun c10 => ?_)
        · have h := h.1 c10
          exact J_52 _ _ h ls (lv_sub hl [1, 0, 2] rfl)
        · have h := h.2 c10
          refine lv_iload_n hx hb dX7_struckBy_31 rfl (lv_at hl 0 rfl) ?_
          refine x_cRSi (As := [.int r5]) (rest := []) G hP (c_X7_drawBehind l D kA _ _ r5 h) cd_X7_drawBehind ml_X7_27 ⟨(Nat.le_of_ble_eq_true rfl), (Nat.le_of_ble_eq_true rfl)⟩ rfl hl.1 rfl (Nat.le_of_ble_eq_true rfl) dX7_struckBy_32 ⟨Nat.zero_le _, Nat.zero_le _⟩ (fun r11 h => ?_)
          refine lv_istore_n (lv' := [(2, .int r11), (0, .ref v0), (3, .int b4_3)]) hx hb dX7_struckBy_35 rfl hl (by decide) rfl (fun ls hl => ?_)
          refine lv_iload_n hx hb dX7_struckBy_36 rfl (lv_at hl 0 rfl) ?_
          refine lv_sipush (v := (1000 : Int32)) hx hb dX7_struckBy_37 (by decide) ?_
          refine lv_irem hx hb dX7_struckBy_40 (by decide) ?_
          refine lv_aload_n hx hb dX7_struckBy_41 rfl (lv_at hl 1 rfl) ?_
          obtain ⟨fs12, y13, hfs12, hvfs12, h⟩ := h
          refine x_get G hP hfs12 hvfs12 fl_X7_15 dX7_struckBy_42 ?_
          refine lv_iload_n hx hb dX7_struckBy_45 rfl (lv_at hl 2 rfl) ?_
          obtain ⟨n14, f15, hf15, hif15, h⟩ := h
          refine x_iald G hP hf15 hif15 dX7_struckBy_46 ?_
          refine lv_icmp_ge (tgt := 52) hx hb dX7_struckBy_47 (by decide) (fun c16 => ?_) (fun c16 => ?_)
          · have h := h.1 c16
            exact J_52 _ _ h ls (lv_sub hl [1, 0, 2] rfl)
          · have h := h.2 c16
            refine lv_iload_n hx hb dX7_struckBy_50 rfl (lv_at hl 2 rfl) ?_
            exact x_iretR G hr hlk h dX7_struckBy_51
  refine lv_iload_n hx hb dX7_struckBy_0 rfl (lv_at hl 1 rfl) ?_
  refine lv_istore_n (lv' := [(2, .int v1), (0, .ref v0), (1, .int v1)]) hx hb dX7_struckBy_1 rfl hl (by decide) rfl (fun ls hl => ?_)
  refine lv_iconst (v := (0 : Int32)) hx hb dX7_struckBy_2 (by decide) ?_
  refine lv_istore_n (lv' := [(3, .int (0 : Int32)), (2, .int v1), (0, .ref v0), (1, .int v1)]) hx hb dX7_struckBy_3 rfl hl (by decide) rfl (fun ls hl => ?_)
  obtain ⟨n1, h⟩ := h
  exact J_4 n1 _ _ h ls (lv_sub hl [2, 1, 0] rfl)
def wp_X8_init (post : Hp → Prop) (mc ms : Nat) (X : Hp) (v0 : Nat) : Prop := 0 + 1 ≤ mc ∧ 0 + 8 ≤ ms ∧ ∀ q1 : Nat, q1 ∉ X.1 → ∀ X2 : Hp, X2 = hadd X q1 (.inl (0, 8, .inl (fun _ => 0))) → ∃ (fs3 : List Value), Hs X2 v0 (.inr (8, fs3)) ∧ 2 < fs3.length ∧ ∀ X4 : Hp, X4 = hput X2 v0 (.inr (8, fs3.set 2 (.ref q1))) → (0 + 1) + 1 ≤ mc ∧ (0 + 8) + 8 ≤ ms ∧ ∀ q5 : Nat, q5 ∉ X4.1 → ∀ X6 : Hp, X6 = hadd X4 q5 (.inl (0, 8, .inl (fun _ => 0))) → ∃ (fs7 : List Value), Hs X6 v0 (.inr (8, fs7)) ∧ 3 < fs7.length ∧ ∀ X8 : Hp, X8 = hput X6 v0 (.inr (8, fs7.set 3 (.ref q5))) → ((0 + 1) + 1) + 1 ≤ mc ∧ ((0 + 8) + 8) + 8 ≤ ms ∧ ∀ q9 : Nat, q9 ∉ X8.1 → ∀ X10 : Hp, X10 = hadd X8 q9 (.inl (0, 8, .inl (fun _ => 0))) → ∃ (fs11 : List Value), Hs X10 v0 (.inr (8, fs11)) ∧ 4 < fs11.length ∧ ∀ X12 : Hp, X12 = hput X10 v0 (.inr (8, fs11.set 4 (.ref q9))) → (((0 + 1) + 1) + 1) + 1 ≤ mc ∧ (((0 + 8) + 8) + 8) + 48 ≤ ms ∧ ∀ q13 : Nat, q13 ∉ X12.1 → ∀ X14 : Hp, X14 = hadd X12 q13 (.inl (0, 48, .inl (fun _ => 0))) → ∃ (fs15 : List Value), Hs X14 v0 (.inr (8, fs15)) ∧ 5 < fs15.length ∧ ∀ X16 : Hp, X16 = hput X14 v0 (.inr (8, fs15.set 5 (.ref q13))) → ((((0 + 1) + 1) + 1) + 1) + 1 ≤ mc ∧ ((((0 + 8) + 8) + 8) + 48) + 48 ≤ ms ∧ ∀ q17 : Nat, q17 ∉ X16.1 → ∀ X18 : Hp, X18 = hadd X16 q17 (.inl (0, 48, .inl (fun _ => 0))) → ∃ (fs19 : List Value), Hs X18 v0 (.inr (8, fs19)) ∧ 6 < fs19.length ∧ ∀ X20 : Hp, X20 = hput X18 v0 (.inr (8, fs19.set 6 (.ref q17))) → (((((0 + 1) + 1) + 1) + 1) + 1) ≤ mc ∧ (((((0 + 8) + 8) + 8) + 48) + 48) ≤ ms ∧ post X20
set_option maxHeartbeats 4000000 in
set_option maxRecDepth 100000 in
theorem c_X8_init (l : Launch) (D : va_G) (kA : Nat → ClassId) (post : Hp → Prop) (mc ms : Nat) (X : Hp) (sz : Nat) (v0 : Nat) (h : wp_X8_init post mc ms X v0) : Met l yX8_init (.code yX8_init cX8_init 1 none :: gd) (rmO 1 mc ms 21) (va_Pc [Value.ref v0] (PreM D kA X sz)) (va_Qv post (PoM D kA X sz) (va_A (hw kA X) sz)) mc ms (va_A (hw kA X) sz) := by
  unfold wp_X8_init at h
  refine x_enM (by decide) (Nat.le_of_ble_eq_true rfl) ?_
  intro p e s m below meth c G hr hlk hin hsz hA S ls hl
  obtain ⟨hx, hb, hml, hown, hts, hE, hK⟩ := id G
  have hl : lv_has ls 1 [(0, .ref v0)] := hl
  refine lv_aload_n hx hb dX8_init_0 rfl (lv_at hl 0 rfl) ?_
  refine x_objInit G mk_X8_3 oi_ins oi_cod hl.1 dX8_init_1 (Nat.le_of_ble_eq_true rfl) (Nat.le_of_ble_eq_true rfl) ?_
  refine lv_aload_n hx hb dX8_init_4 rfl (lv_at hl 0 rfl) ?_
  refine lv_bipush (v := (8 : Int32)) hx hb dX8_init_5 (by decide) ?_
  obtain ⟨hc1, hc2, h⟩ := h
  refine x_newa (atype := .int) (t := 0) (N' := 8) G S hA ac_int rfl rfl (fun z => z) rfl (by decide) (by decide) (Nat.le_of_ble_eq_true rfl) hc1 hc2 dX8_init_7 (fun q1 H hq1 S => ?_)
  have h := h q1 hq1 _ rfl
  obtain ⟨fs3, hfs3, hkfs3, h⟩ := h
  have h := h _ rfl
  refine x_putF G hin S hfs3 hkfs3 rfl rfl ff_X8_9 dX8_init_9 (fun H locs S => ?_)
  refine lv_aload_n hx hb dX8_init_12 rfl (lv_at hl 0 rfl) ?_
  refine lv_bipush (v := (8 : Int32)) hx hb dX8_init_13 (by decide) ?_
  obtain ⟨hc1, hc2, h⟩ := h
  refine x_newa (atype := .int) (t := 0) (N' := 8) G S hA ac_int rfl rfl (fun z => z) rfl (by decide) (by decide) (Nat.le_of_ble_eq_true rfl) hc1 hc2 dX8_init_15 (fun q5 H hq5 S => ?_)
  have h := h q5 hq5 _ rfl
  obtain ⟨fs7, hfs7, hkfs7, h⟩ := h
  have h := h _ rfl
  refine x_putF G hin S hfs7 hkfs7 rfl rfl ff_X8_15 dX8_init_17 (fun H locs S => ?_)
  refine lv_aload_n hx hb dX8_init_20 rfl (lv_at hl 0 rfl) ?_
  refine lv_bipush (v := (8 : Int32)) hx hb dX8_init_21 (by decide) ?_
  obtain ⟨hc1, hc2, h⟩ := h
  refine x_newa (atype := .int) (t := 0) (N' := 8) G S hA ac_int rfl rfl (fun z => z) rfl (by decide) (by decide) (Nat.le_of_ble_eq_true rfl) hc1 hc2 dX8_init_23 (fun q9 H hq9 S => ?_)
  have h := h q9 hq9 _ rfl
  obtain ⟨fs11, hfs11, hkfs11, h⟩ := h
  have h := h _ rfl
  refine x_putF G hin S hfs11 hkfs11 rfl rfl ff_X8_18 dX8_init_25 (fun H locs S => ?_)
  refine lv_aload_n hx hb dX8_init_28 rfl (lv_at hl 0 rfl) ?_
  refine lv_bipush (v := (48 : Int32)) hx hb dX8_init_29 (by decide) ?_
  obtain ⟨hc1, hc2, h⟩ := h
  refine x_newa (atype := .int) (t := 0) (N' := 48) G S hA ac_int rfl rfl (fun z => z) rfl (by decide) (by decide) (Nat.le_of_ble_eq_true rfl) hc1 hc2 dX8_init_31 (fun q13 H hq13 S => ?_)
  have h := h q13 hq13 _ rfl
  obtain ⟨fs15, hfs15, hkfs15, h⟩ := h
  have h := h _ rfl
  refine x_putF G hin S hfs15 hkfs15 rfl rfl ff_X8_21 dX8_init_33 (fun H locs S => ?_)
  refine lv_aload_n hx hb dX8_init_36 rfl (lv_at hl 0 rfl) ?_
  refine lv_bipush (v := (48 : Int32)) hx hb dX8_init_37 (by decide) ?_
  obtain ⟨hc1, hc2, h⟩ := h
  refine x_newa (atype := .int) (t := 0) (N' := 48) G S hA ac_int rfl rfl (fun z => z) rfl (by decide) (by decide) (Nat.le_of_ble_eq_true rfl) hc1 hc2 dX8_init_39 (fun q17 H hq17 S => ?_)
  have h := h q17 hq17 _ rfl
  obtain ⟨fs19, hfs19, hkfs19, h⟩ := h
  have h := h _ rfl
  refine x_putF G hin S hfs19 hkfs19 rfl rfl ff_X8_24 dX8_init_41 (fun H locs S => ?_)
  obtain ⟨hk1, hk2, h⟩ := h
  exact x_vretM G hr hlk S hk1 hk2 h dX8_init_44
def wp_X8_hasRoom (post : Int32 → Prop) (X : Hp) (v0 : Nat) (v1 : Int32) : Prop := ∃ (fs1 : List Value) (y2 : Int32), Hs X v0 (.inr (8, fs1)) ∧ fs1[0]? = some (.int y2) ∧ ((8 : Int32) ≤ y2 → post (0 : Int32)) ∧ (¬ (8 : Int32) ≤ y2 → ∃ (fs4 : List Value) (y5 : Int32), Hs X v0 (.inr (8, fs4)) ∧ fs4[1]? = some (.int y5) ∧ ((48 : Int32) < (y5 + v1) → post (0 : Int32)) ∧ (¬ (48 : Int32) < (y5 + v1) → post (1 : Int32)))
set_option maxHeartbeats 4000000 in
set_option maxRecDepth 100000 in
theorem c_X8_hasRoom (l : Launch) (D : va_G) (kA : Nat → ClassId) (post : Int32 → Prop) (X : Hp) (v0 : Nat) (v1 : Int32) (h : wp_X8_hasRoom post X v0 v1) : Met l yX8_hasRoom (.code yX8_hasRoom cX8_hasRoom 2 (some .boolean) :: gd) (rmO 0 0 0 0) (va_Pc [Value.ref v0, Value.int v1] (Pre D kA X)) (vp_Si post) 0 0 (fun _ => False) := by
  unfold wp_X8_hasRoom at h
  refine x_enR (by decide) (Nat.le_of_ble_eq_true rfl) ?_
  intro p e s m below meth c G hr hlk hP ls hl
  obtain ⟨hx, hb, hml, hown, hts, hE, hK⟩ := id G
  have hl : lv_has ls 2 [(0, .ref v0), (1, .int v1)] := hl
  refine lv_aload_n hx hb dX8_hasRoom_0 rfl (lv_at hl 0 rfl) ?_
  obtain ⟨fs1, y2, hfs1, hvfs1, h⟩ := h
  refine x_get G hP hfs1 hvfs1 fl_X8_27 dX8_hasRoom_1 ?_
  refine lv_bipush (v := (8 : Int32)) hx hb dX8_hasRoom_4 (by decide) ?_
  refine lv_icmp_ge (tgt := 24) hx hb dX8_hasRoom_6 (by decide) (fun c3 => ?_) (fun c3 => ?_)
  · have h := h.1 c3
    refine lv_iconst (v := (0 : Int32)) hx hb dX8_hasRoom_24 (by decide) ?_
    exact x_zretR G hr hlk (Or.inl rfl) h dX8_hasRoom_25
  · have h := h.2 c3
    refine lv_aload_n hx hb dX8_hasRoom_9 rfl (lv_at hl 0 rfl) ?_
    obtain ⟨fs4, y5, hfs4, hvfs4, h⟩ := h
    refine x_get G hP hfs4 hvfs4 fl_X8_31 dX8_hasRoom_10 ?_
    refine lv_iload_n hx hb dX8_hasRoom_13 rfl (lv_at hl 1 rfl) ?_
    refine lv_iadd hx hb dX8_hasRoom_14 ?_
    refine lv_bipush (v := (48 : Int32)) hx hb dX8_hasRoom_15 (by decide) ?_
    refine lv_icmp_gt (tgt := 24) hx hb dX8_hasRoom_17 (by decide) (fun c6 => ?_) (fun c6 => ?_)
    · have h := h.1 c6
      refine lv_iconst (v := (0 : Int32)) hx hb dX8_hasRoom_24 (by decide) ?_
      exact x_zretR G hr hlk (Or.inl rfl) h dX8_hasRoom_25
    · have h := h.2 c6
      refine lv_iconst (v := (1 : Int32)) hx hb dX8_hasRoom_20 (by decide) ?_
      refine lv_goto (tgt := 25) hx hb dX8_hasRoom_21 (by decide) ?_
      exact x_zretR G hr hlk (Or.inr rfl) h dX8_hasRoom_25
def wp_X9_within (post : Int32 → Prop) (X : Hp) (v0 : Int32) (v1 : Int32) (v2 : Int32) : Prop := (v0 < v1 → post (0 : Int32)) ∧ (¬ v0 < v1 → (v2 < v0 → post (0 : Int32)) ∧ (¬ v2 < v0 → post (1 : Int32)))
set_option maxHeartbeats 4000000 in
set_option maxRecDepth 100000 in
theorem c_X9_within (l : Launch) (D : va_G) (kA : Nat → ClassId) (post : Int32 → Prop) (X : Hp) (v0 : Int32) (v1 : Int32) (v2 : Int32) (h : wp_X9_within post X v0 v1 v2) : Met l yX9_within (.code yX9_within cX9_within 3 (some .boolean) :: gd) (rmO 0 0 0 0) (va_Pc [Value.int v0, Value.int v1, Value.int v2] (Pre D kA X)) (vp_Si post) 0 0 (fun _ => False) := by
  unfold wp_X9_within at h
  refine x_enR (by decide) (Nat.le_of_ble_eq_true rfl) ?_
  intro p e s m below meth c G hr hlk hP ls hl
  obtain ⟨hx, hb, hml, hown, hts, hE, hK⟩ := id G
  have hl : lv_has ls 3 [(0, .int v0), (1, .int v1), (2, .int v2)] := hl
  refine lv_iload_n hx hb dX9_within_0 rfl (lv_at hl 0 rfl) ?_
  refine lv_iload_n hx hb dX9_within_1 rfl (lv_at hl 1 rfl) ?_
  refine lv_icmp_lt (tgt := 14) hx hb dX9_within_2 (by decide) (fun c1 => ?_) (fun c1 => ?_)
  · have h := h.1 c1
    refine lv_iconst (v := (0 : Int32)) hx hb dX9_within_14 (by decide) ?_
    exact x_zretR G hr hlk (Or.inl rfl) h dX9_within_15
  · have h := h.2 c1
    refine lv_iload_n hx hb dX9_within_5 rfl (lv_at hl 0 rfl) ?_
    refine lv_iload_n hx hb dX9_within_6 rfl (lv_at hl 2 rfl) ?_
    refine lv_icmp_gt (tgt := 14) hx hb dX9_within_7 (by decide) (fun c2 => ?_) (fun c2 => ?_)
    · have h := h.1 c2
      refine lv_iconst (v := (0 : Int32)) hx hb dX9_within_14 (by decide) ?_
      exact x_zretR G hr hlk (Or.inl rfl) h dX9_within_15
    · have h := h.2 c2
      refine lv_iconst (v := (1 : Int32)) hx hb dX9_within_10 (by decide) ?_
      refine lv_goto (tgt := 15) hx hb dX9_within_11 (by decide) ?_
      exact x_zretR G hr hlk (Or.inr rfl) h dX9_within_15
def wp_X8_hasLeg (post : Int32 → Prop) (X : Hp) (v0 : Nat) (v1 : Int32) : Prop := ∃ (fs1 : List Value) (y2 : Int32), Hs X v0 (.inr (8, fs1)) ∧ fs1[0]? = some (.int y2) ∧ wp_X9_within (fun r3 => (r3 = 0 ∨ r3 = 1) ∧ post r3)  X v1 (0 : Int32) (y2 - (1 : Int32))
set_option maxHeartbeats 4000000 in
set_option maxRecDepth 100000 in
theorem c_X8_hasLeg (l : Launch) (D : va_G) (kA : Nat → ClassId) (post : Int32 → Prop) (X : Hp) (v0 : Nat) (v1 : Int32) (h : wp_X8_hasLeg post X v0 v1) : Met l yX8_hasLeg (.code yX8_hasLeg cX8_hasLeg 2 (some .boolean) :: gd) (rmO 1 0 0 22) (va_Pc [Value.ref v0, Value.int v1] (Pre D kA X)) (vp_Si post) 0 0 (fun _ => False) := by
  unfold wp_X8_hasLeg at h
  refine x_enR (by decide) (Nat.le_of_ble_eq_true rfl) ?_
  intro p e s m below meth c G hr hlk hP ls hl
  obtain ⟨hx, hb, hml, hown, hts, hE, hK⟩ := id G
  have hl : lv_has ls 2 [(0, .ref v0), (1, .int v1)] := hl
  refine lv_iload_n hx hb dX8_hasLeg_0 rfl (lv_at hl 1 rfl) ?_
  refine lv_iconst (v := (0 : Int32)) hx hb dX8_hasLeg_1 (by decide) ?_
  refine lv_aload_n hx hb dX8_hasLeg_2 rfl (lv_at hl 0 rfl) ?_
  obtain ⟨fs1, y2, hfs1, hvfs1, h⟩ := h
  refine x_get G hP hfs1 hvfs1 fl_X8_27 dX8_hasLeg_3 ?_
  refine lv_iconst (v := (1 : Int32)) hx hb dX8_hasLeg_6 (by decide) ?_
  refine lv_isub hx hb dX8_hasLeg_7 ?_
  refine x_cRSi (As := [.int v1, .int (0 : Int32), .int (y2 - (1 : Int32))]) (rest := []) G hP (c_X9_within l D kA _ _ v1 (0 : Int32) (y2 - (1 : Int32)) h) cd_X9_within ml_X8_34 ⟨(Nat.le_of_ble_eq_true rfl), (Nat.le_of_ble_eq_true rfl)⟩ rfl hl.1 rfl (Nat.le_of_ble_eq_true rfl) dX8_hasLeg_8 ⟨Nat.zero_le _, Nat.zero_le _⟩ (fun r3 h => ?_)
  obtain ⟨hz, h⟩ := h
  exact x_zretR G hr hlk hz h dX8_hasLeg_11
def wp_X8_hasHour (post : Int32 → Prop) (X : Hp) (v0 : Nat) (v1 : Int32) : Prop := (v1 < 0 → post (0 : Int32)) ∧ (¬ v1 < 0 → ∃ (fs2 : List Value) (y3 : Int32), Hs X v0 (.inr (8, fs2)) ∧ fs2[1]? = some (.int y3) ∧ (y3 ≤ v1 → post (0 : Int32)) ∧ (¬ y3 ≤ v1 → post (1 : Int32)))
set_option maxHeartbeats 4000000 in
set_option maxRecDepth 100000 in
theorem c_X8_hasHour (l : Launch) (D : va_G) (kA : Nat → ClassId) (post : Int32 → Prop) (X : Hp) (v0 : Nat) (v1 : Int32) (h : wp_X8_hasHour post X v0 v1) : Met l yX8_hasHour (.code yX8_hasHour cX8_hasHour 2 (some .boolean) :: gd) (rmO 0 0 0 0) (va_Pc [Value.ref v0, Value.int v1] (Pre D kA X)) (vp_Si post) 0 0 (fun _ => False) := by
  unfold wp_X8_hasHour at h
  refine x_enR (by decide) (Nat.le_of_ble_eq_true rfl) ?_
  intro p e s m below meth c G hr hlk hP ls hl
  obtain ⟨hx, hb, hml, hown, hts, hE, hK⟩ := id G
  have hl : lv_has ls 2 [(0, .ref v0), (1, .int v1)] := hl
  refine lv_iload_n hx hb dX8_hasHour_0 rfl (lv_at hl 1 rfl) ?_
  refine lv_if_lt (tgt := 16) hx hb dX8_hasHour_1 (by decide) (fun c1 => ?_) (fun c1 => ?_)
  · have h := h.1 c1
    refine lv_iconst (v := (0 : Int32)) hx hb dX8_hasHour_16 (by decide) ?_
    exact x_zretR G hr hlk (Or.inl rfl) h dX8_hasHour_17
  · have h := h.2 c1
    refine lv_iload_n hx hb dX8_hasHour_4 rfl (lv_at hl 1 rfl) ?_
    refine lv_aload_n hx hb dX8_hasHour_5 rfl (lv_at hl 0 rfl) ?_
    obtain ⟨fs2, y3, hfs2, hvfs2, h⟩ := h
    refine x_get G hP hfs2 hvfs2 fl_X8_31 dX8_hasHour_6 ?_
    refine lv_icmp_ge (tgt := 16) hx hb dX8_hasHour_9 (by decide) (fun c4 => ?_) (fun c4 => ?_)
    · have h := h.1 c4
      refine lv_iconst (v := (0 : Int32)) hx hb dX8_hasHour_16 (by decide) ?_
      exact x_zretR G hr hlk (Or.inl rfl) h dX8_hasHour_17
    · have h := h.2 c4
      refine lv_iconst (v := (1 : Int32)) hx hb dX8_hasHour_12 (by decide) ?_
      refine lv_goto (tgt := 17) hx hb dX8_hasHour_13 (by decide) ?_
      exact x_zretR G hr hlk (Or.inr rfl) h dX8_hasHour_17
def bk_X8_lengthen_52 (post : Hp → Prop) (v0 : Nat) (v1 : Int32) (v2 : Int32) (v3 : Int32)  : Nat → Hp → Int32 → Prop
  | 0, _, _ => False
  | k + 1, X, b52_4 => (v1 ≤ b52_4 → post X) ∧ (¬ v1 ≤ b52_4 → ∃ (fs31 : List Value) (y32 : Nat), Hs X v0 (.inr (8, fs31)) ∧ fs31[5]? = some (.ref y32) ∧ ∃ (fs33 : List Value) (y34 : Int32), Hs X v0 (.inr (8, fs33)) ∧ fs33[1]? = some (.int y34) ∧ ∃ (n35 : Nat) (f36 : Nat → Int32), Hs X y32 (.inl (0, n35, .inl f36)) ∧ vp_in y34 n35 ∧ ∀ X37 : Hp, X37 = hput X y32 (.inl (0, n35, .inl (upd f36 y34.toNatClampNeg v2))) → ∃ (fs38 : List Value) (y39 : Nat), Hs X37 v0 (.inr (8, fs38)) ∧ fs38[6]? = some (.ref y39) ∧ ∃ (fs40 : List Value) (y41 : Int32), Hs X37 v0 (.inr (8, fs40)) ∧ fs40[1]? = some (.int y41) ∧ ∃ (n42 : Nat) (f43 : Nat → Int32), Hs X37 y39 (.inl (0, n42, .inl f43)) ∧ vp_in y41 n42 ∧ ∀ X44 : Hp, X44 = hput X37 y39 (.inl (0, n42, .inl (upd f43 y41.toNatClampNeg v3))) → ∃ (fs45 : List Value) (y46 : Int32), Hs X44 v0 (.inr (8, fs45)) ∧ fs45[1]? = some (.int y46) ∧ ∃ (fs47 : List Value), Hs X44 v0 (.inr (8, fs47)) ∧ 1 < fs47.length ∧ ∀ X48 : Hp, X48 = hput X44 v0 (.inr (8, fs47.set 1 (.int (y46 + (1 : Int32))))) → ∀ x49 : Int32, x49 = b52_4 + (1 : Int32) → (bk_X8_lengthen_52 post v0 v1 v2 v3 k) X48 x49)
def wp_X8_lengthen (post : Hp → Prop) (X : Hp) (v0 : Nat) (v1 : Int32) (v2 : Int32) (v3 : Int32) : Prop := ∃ fs29 : List Value, Hs X v0 (.inr (8, fs29)) ∧ wp_X8_hasRoom (fun r1 => (¬ r1 = 0 → ∃ (fs3 : List Value) (y4 : Nat), Hs X v0 (.inr (8, fs3)) ∧ fs3[2]? = some (.ref y4) ∧ ∃ (fs5 : List Value) (y6 : Int32), Hs X v0 (.inr (8, fs5)) ∧ fs5[0]? = some (.int y6) ∧ ∃ (n7 : Nat) (f8 : Nat → Int32), Hs X y4 (.inl (0, n7, .inl f8)) ∧ vp_in y6 n7 ∧ ∀ X9 : Hp, X9 = hput X y4 (.inl (0, n7, .inl (upd f8 y6.toNatClampNeg v1))) → ∃ (fs10 : List Value) (y11 : Nat), Hs X9 v0 (.inr (8, fs10)) ∧ fs10[3]? = some (.ref y11) ∧ ∃ (fs12 : List Value) (y13 : Int32), Hs X9 v0 (.inr (8, fs12)) ∧ fs12[0]? = some (.int y13) ∧ ∃ (n14 : Nat) (f15 : Nat → Int32), Hs X9 y11 (.inl (0, n14, .inl f15)) ∧ vp_in y13 n14 ∧ ∀ X16 : Hp, X16 = hput X9 y11 (.inl (0, n14, .inl (upd f15 y13.toNatClampNeg v2))) → ∃ (fs17 : List Value) (y18 : Nat), Hs X16 v0 (.inr (8, fs17)) ∧ fs17[4]? = some (.ref y18) ∧ ∃ (fs19 : List Value) (y20 : Int32), Hs X16 v0 (.inr (8, fs19)) ∧ fs19[0]? = some (.int y20) ∧ ∃ (n21 : Nat) (f22 : Nat → Int32), Hs X16 y18 (.inl (0, n21, .inl f22)) ∧ vp_in y20 n21 ∧ ∀ X23 : Hp, X23 = hput X16 y18 (.inl (0, n21, .inl (upd f22 y20.toNatClampNeg v3))) → ∃ (fs24 : List Value) (y25 : Int32), Hs X23 v0 (.inr (8, fs24)) ∧ fs24[0]? = some (.int y25) ∧ ∃ (fs26 : List Value), Hs X23 v0 (.inr (8, fs26)) ∧ 0 < fs26.length ∧ ∀ X27 : Hp, X27 = hput X23 v0 (.inr (8, fs26.set 0 (.int (y25 + (1 : Int32))))) → ∃ n28 : Nat, bk_X8_lengthen_52 post v0 v1 v2 v3 n28 X27 (0 : Int32)) ∧ (r1 = 0 → post X))  X v0 v1
set_option maxHeartbeats 4000000 in
set_option maxRecDepth 100000 in
theorem c_X8_lengthen (l : Launch) (D : va_G) (kA : Nat → ClassId) (post : Hp → Prop) (X : Hp) (sz : Nat) (v0 : Nat) (v1 : Int32) (v2 : Int32) (v3 : Int32) (h : wp_X8_lengthen post X v0 v1 v2 v3) : Met l yX8_lengthen (.code yX8_lengthen cX8_lengthen 5 none :: gd) (rmO 1 0 0 21) (va_Pc [Value.ref v0, Value.int v1, Value.int v2, Value.int v3] (PreM D kA X sz)) (va_Qv post (PoM D kA X sz) (va_A (hw kA X) sz)) 0 0 (va_A (hw kA X) sz) := by
  unfold wp_X8_lengthen at h
  refine x_enM (by decide) (Nat.le_of_ble_eq_true rfl) ?_
  intro p e s m below meth c G hr hlk hin hsz hA S ls hl
  obtain ⟨hx, hb, hml, hown, hts, hE, hK⟩ := id G
  have hl : lv_has ls 5 [(0, .ref v0), (1, .int v1), (2, .int v2), (3, .int v3)] := hl
  obtain ⟨X0, hX0⟩ : ∃ Y : Hp, Y = X := ⟨_, rfl⟩
  subst hX0
  have J_52 : ∀ (n : Nat) (X : Hp) (b52_4 : Int32), ∀ (H : Heap) (locs : List Loc) (_ : bk_X8_lengthen_52 post v0 v1 v2 v3  n X b52_4), Sx D kA (va_A (hw kA X0) sz) s.heap H locs X → ∀ ls, lv_has ls 5 [(0, .ref v0), (1, .int v1), (2, .int v2), (3, .int v3), (4, .int b52_4)] → W p l e (rmO 1 0 0 21) s m [Value.ref v0, Value.int v1, Value.int v2, Value.int v3].toArray below meth c H locs 0 0 (MQ below (va_Qv post (PoM D kA X0 sz) (va_A (hw kA X0) sz)) [Value.ref v0, Value.int v1, Value.int v2, Value.int v3].toArray s 0 0 (va_A (hw kA X0) sz)) (F0 m 52 ls []) := by
    intro n
    induction n with
    | zero =>
      intro X b52_4 H locs h S ls hl
      rw [bk_X8_lengthen_52] at h
      exact h.elim
    | succ n_52 ih_52 =>
      intro X b52_4 H locs h S ls hl
      rw [bk_X8_lengthen_52] at h
      refine lv_iload hx hb dX8_lengthen_52 (lv_at hl 4 rfl) ?_
      refine lv_iload_n hx hb dX8_lengthen_54 rfl (lv_at hl 1 rfl) ?_
      refine lv_icmp_ge (tgt := 94) hx hb dX8_lengthen_55 (by decide) (fun c30 => ?_) (fun c30 => ?_)
      · have h := h.1 c30
        exact x_vretM G hr hlk S (Nat.le_refl _) (Nat.le_refl _) h dX8_lengthen_94
      · have h := h.2 c30
        refine lv_aload_n hx hb dX8_lengthen_58 rfl (lv_at hl 0 rfl) ?_
        obtain ⟨fs31, y32, hfs31, hvfs31, h⟩ := h
        refine x_get G S.1 hfs31 hvfs31 fl_X8_21 dX8_lengthen_59 ?_
        refine lv_aload_n hx hb dX8_lengthen_62 rfl (lv_at hl 0 rfl) ?_
        obtain ⟨fs33, y34, hfs33, hvfs33, h⟩ := h
        refine x_get G S.1 hfs33 hvfs33 fl_X8_31 dX8_lengthen_63 ?_
        refine lv_iload_n hx hb dX8_lengthen_66 rfl (lv_at hl 2 rfl) ?_
        obtain ⟨n35, f36, hf36, hif36, h⟩ := h
        have h := h _ rfl
        refine x_iast G S hf36 hif36 dX8_lengthen_67 (fun H locs S => ?_)
        refine lv_aload_n hx hb dX8_lengthen_68 rfl (lv_at hl 0 rfl) ?_
        obtain ⟨fs38, y39, hfs38, hvfs38, h⟩ := h
        refine x_get G S.1 hfs38 hvfs38 fl_X8_24 dX8_lengthen_69 ?_
        refine lv_aload_n hx hb dX8_lengthen_72 rfl (lv_at hl 0 rfl) ?_
        obtain ⟨fs40, y41, hfs40, hvfs40, h⟩ := h
        refine x_get G S.1 hfs40 hvfs40 fl_X8_31 dX8_lengthen_73 ?_
        refine lv_iload_n hx hb dX8_lengthen_76 rfl (lv_at hl 3 rfl) ?_
        obtain ⟨n42, f43, hf43, hif43, h⟩ := h
        have h := h _ rfl
        refine x_iast G S hf43 hif43 dX8_lengthen_77 (fun H locs S => ?_)
        refine lv_aload_n hx hb dX8_lengthen_78 rfl (lv_at hl 0 rfl) ?_
        refine lv_dup hx hb dX8_lengthen_79 rfl ?_
        obtain ⟨fs45, y46, hfs45, hvfs45, h⟩ := h
        refine x_get G S.1 hfs45 hvfs45 fl_X8_31 dX8_lengthen_80 ?_
        refine lv_iconst (v := (1 : Int32)) hx hb dX8_lengthen_83 (by decide) ?_
        refine lv_iadd hx hb dX8_lengthen_84 ?_
        obtain ⟨fs47, hfs47, hkfs47, h⟩ := h
        have h := h _ rfl
        refine x_put G S hfs47 hkfs47 rfl rfl fw_X8_31 dX8_lengthen_85 (fun H locs S => ?_)
        obtain ⟨x49, ex49⟩ : ∃ y : Int32, y = b52_4 + (1 : Int32) := ⟨_, rfl⟩
        have h := h x49 ex49
        refine lv_iinc (v := x49) (lv' := [(4, .int x49), (0, .ref v0), (1, .int v1), (2, .int v2), (3, .int v3)]) hx hb dX8_lengthen_88 hl (k := 4) rfl (by rw [ex49]; rfl) (by decide) rfl (fun ls hl => ?_)
        refine lv_goto (tgt := 52) hx hb dX8_lengthen_91 (by decide) ?_
        exact ih_52 _ _ _ _ h S ls (lv_sub hl [1, 2, 3, 4, 0] rfl)
  refine lv_aload_n hx hb dX8_lengthen_0 rfl (lv_at hl 0 rfl) ?_
  refine lv_iload_n hx hb dX8_lengthen_1 rfl (lv_at hl 1 rfl) ?_
  obtain ⟨fs29, hfs29, h⟩ := h
  refine x_cRVi (As := [.int v1]) (rest := []) G S.1 hfs29 rfl rfl (c_X8_hasRoom l D kA _ _ v0 v1 h) cd_X8_hasRoom ml_X8_38 ⟨(Nat.le_of_ble_eq_true rfl), (Nat.le_of_ble_eq_true rfl)⟩ rfl hl.1 rfl (Nat.le_of_ble_eq_true rfl) dX8_lengthen_2 ⟨Nat.zero_le _, Nat.zero_le _⟩ (fun r1 h => ?_)
  refine lv_if_ne (tgt := 9) hx hb dX8_lengthen_5 (by decide) (fun c2 => ?_) (fun c2 => ?_)
  · have h := h.1 c2
    refine lv_aload_n hx hb dX8_lengthen_9 rfl (lv_at hl 0 rfl) ?_
    obtain ⟨fs3, y4, hfs3, hvfs3, h⟩ := h
    refine x_get G S.1 hfs3 hvfs3 fl_X8_9 dX8_lengthen_10 ?_
    refine lv_aload_n hx hb dX8_lengthen_13 rfl (lv_at hl 0 rfl) ?_
    obtain ⟨fs5, y6, hfs5, hvfs5, h⟩ := h
    refine x_get G S.1 hfs5 hvfs5 fl_X8_27 dX8_lengthen_14 ?_
    refine lv_iload_n hx hb dX8_lengthen_17 rfl (lv_at hl 1 rfl) ?_
    obtain ⟨n7, f8, hf8, hif8, h⟩ := h
    have h := h _ rfl
    refine x_iast G S hf8 hif8 dX8_lengthen_18 (fun H locs S => ?_)
    refine lv_aload_n hx hb dX8_lengthen_19 rfl (lv_at hl 0 rfl) ?_
    obtain ⟨fs10, y11, hfs10, hvfs10, h⟩ := h
    refine x_get G S.1 hfs10 hvfs10 fl_X8_15 dX8_lengthen_20 ?_
    refine lv_aload_n hx hb dX8_lengthen_23 rfl (lv_at hl 0 rfl) ?_
    obtain ⟨fs12, y13, hfs12, hvfs12, h⟩ := h
    refine x_get G S.1 hfs12 hvfs12 fl_X8_27 dX8_lengthen_24 ?_
    refine lv_iload_n hx hb dX8_lengthen_27 rfl (lv_at hl 2 rfl) ?_
    obtain ⟨n14, f15, hf15, hif15, h⟩ := h
    have h := h _ rfl
    refine x_iast G S hf15 hif15 dX8_lengthen_28 (fun H locs S => ?_)
    refine lv_aload_n hx hb dX8_lengthen_29 rfl (lv_at hl 0 rfl) ?_
    obtain ⟨fs17, y18, hfs17, hvfs17, h⟩ := h
    refine x_get G S.1 hfs17 hvfs17 fl_X8_18 dX8_lengthen_30 ?_
    refine lv_aload_n hx hb dX8_lengthen_33 rfl (lv_at hl 0 rfl) ?_
    obtain ⟨fs19, y20, hfs19, hvfs19, h⟩ := h
    refine x_get G S.1 hfs19 hvfs19 fl_X8_27 dX8_lengthen_34 ?_
    refine lv_iload_n hx hb dX8_lengthen_37 rfl (lv_at hl 3 rfl) ?_
    obtain ⟨n21, f22, hf22, hif22, h⟩ := h
    have h := h _ rfl
    refine x_iast G S hf22 hif22 dX8_lengthen_38 (fun H locs S => ?_)
    refine lv_aload_n hx hb dX8_lengthen_39 rfl (lv_at hl 0 rfl) ?_
    refine lv_dup hx hb dX8_lengthen_40 rfl ?_
    obtain ⟨fs24, y25, hfs24, hvfs24, h⟩ := h
    refine x_get G S.1 hfs24 hvfs24 fl_X8_27 dX8_lengthen_41 ?_
    refine lv_iconst (v := (1 : Int32)) hx hb dX8_lengthen_44 (by decide) ?_
    refine lv_iadd hx hb dX8_lengthen_45 ?_
    obtain ⟨fs26, hfs26, hkfs26, h⟩ := h
    have h := h _ rfl
    refine x_put G S hfs26 hkfs26 rfl rfl fw_X8_27 dX8_lengthen_46 (fun H locs S => ?_)
    refine lv_iconst (v := (0 : Int32)) hx hb dX8_lengthen_49 (by decide) ?_
    refine lv_istore (lv' := [(4, .int (0 : Int32)), (0, .ref v0), (1, .int v1), (2, .int v2), (3, .int v3)]) hx hb dX8_lengthen_50 hl (by decide) rfl (fun ls hl => ?_)
    obtain ⟨n28, h⟩ := h
    exact J_52 n28 _ _ _ _ h S ls (lv_sub hl [1, 2, 3, 4, 0] rfl)
  · have h := h.2 c2
    exact x_vretM G hr hlk S (Nat.le_refl _) (Nat.le_refl _) h dX8_lengthen_8
def wp_X8_shorten (post : Hp → Prop) (X : Hp) (v0 : Nat) : Prop := ∃ (fs1 : List Value) (y2 : Int32), Hs X v0 (.inr (8, fs1)) ∧ fs1[0]? = some (.int y2) ∧ (y2 ≤ 0 → post X) ∧ (¬ y2 ≤ 0 → ∃ (fs4 : List Value) (y5 : Int32), Hs X v0 (.inr (8, fs4)) ∧ fs4[0]? = some (.int y5) ∧ ∃ (fs6 : List Value), Hs X v0 (.inr (8, fs6)) ∧ 0 < fs6.length ∧ ∀ X7 : Hp, X7 = hput X v0 (.inr (8, fs6.set 0 (.int (y5 - (1 : Int32))))) → ∃ (fs8 : List Value) (y9 : Int32), Hs X7 v0 (.inr (8, fs8)) ∧ fs8[1]? = some (.int y9) ∧ ∃ (fs10 : List Value) (y11 : Nat), Hs X7 v0 (.inr (8, fs10)) ∧ fs10[2]? = some (.ref y11) ∧ ∃ (fs12 : List Value) (y13 : Int32), Hs X7 v0 (.inr (8, fs12)) ∧ fs12[0]? = some (.int y13) ∧ ∃ (n14 : Nat) (f15 : Nat → Int32), Hs X7 y11 (.inl (0, n14, .inl f15)) ∧ vp_in y13 n14 ∧ ∃ (fs16 : List Value), Hs X7 v0 (.inr (8, fs16)) ∧ 1 < fs16.length ∧ ∀ X17 : Hp, X17 = hput X7 v0 (.inr (8, fs16.set 1 (.int (y9 - (f15 y13.toNatClampNeg))))) → post X17)
set_option maxHeartbeats 4000000 in
set_option maxRecDepth 100000 in
theorem c_X8_shorten (l : Launch) (D : va_G) (kA : Nat → ClassId) (post : Hp → Prop) (X : Hp) (sz : Nat) (v0 : Nat) (h : wp_X8_shorten post X v0) : Met l yX8_shorten (.code yX8_shorten cX8_shorten 1 none :: gd) (rmO 0 0 0 0) (va_Pc [Value.ref v0] (PreM D kA X sz)) (va_Qv post (PoM D kA X sz) (va_A (hw kA X) sz)) 0 0 (va_A (hw kA X) sz) := by
  unfold wp_X8_shorten at h
  refine x_enM (by decide) (Nat.le_of_ble_eq_true rfl) ?_
  intro p e s m below meth c G hr hlk hin hsz hA S ls hl
  obtain ⟨hx, hb, hml, hown, hts, hE, hK⟩ := id G
  have hl : lv_has ls 1 [(0, .ref v0)] := hl
  refine lv_aload_n hx hb dX8_shorten_0 rfl (lv_at hl 0 rfl) ?_
  obtain ⟨fs1, y2, hfs1, hvfs1, h⟩ := h
  refine x_get G S.1 hfs1 hvfs1 fl_X8_27 dX8_shorten_1 ?_
  refine lv_if_le (tgt := 35) hx hb dX8_shorten_4 (by decide) (fun c3 => ?_) (fun c3 => ?_)
  · have h := h.1 c3
    exact x_vretM G hr hlk S (Nat.le_refl _) (Nat.le_refl _) h dX8_shorten_35
  · have h := h.2 c3
    refine lv_aload_n hx hb dX8_shorten_7 rfl (lv_at hl 0 rfl) ?_
    refine lv_dup hx hb dX8_shorten_8 rfl ?_
    obtain ⟨fs4, y5, hfs4, hvfs4, h⟩ := h
    refine x_get G S.1 hfs4 hvfs4 fl_X8_27 dX8_shorten_9 ?_
    refine lv_iconst (v := (1 : Int32)) hx hb dX8_shorten_12 (by decide) ?_
    refine lv_isub hx hb dX8_shorten_13 ?_
    obtain ⟨fs6, hfs6, hkfs6, h⟩ := h
    have h := h _ rfl
    refine x_put G S hfs6 hkfs6 rfl rfl fw_X8_27 dX8_shorten_14 (fun H locs S => ?_)
    refine lv_aload_n hx hb dX8_shorten_17 rfl (lv_at hl 0 rfl) ?_
    refine lv_dup hx hb dX8_shorten_18 rfl ?_
    obtain ⟨fs8, y9, hfs8, hvfs8, h⟩ := h
    refine x_get G S.1 hfs8 hvfs8 fl_X8_31 dX8_shorten_19 ?_
    refine lv_aload_n hx hb dX8_shorten_22 rfl (lv_at hl 0 rfl) ?_
    obtain ⟨fs10, y11, hfs10, hvfs10, h⟩ := h
    refine x_get G S.1 hfs10 hvfs10 fl_X8_9 dX8_shorten_23 ?_
    refine lv_aload_n hx hb dX8_shorten_26 rfl (lv_at hl 0 rfl) ?_
    obtain ⟨fs12, y13, hfs12, hvfs12, h⟩ := h
    refine x_get G S.1 hfs12 hvfs12 fl_X8_27 dX8_shorten_27 ?_
    obtain ⟨n14, f15, hf15, hif15, h⟩ := h
    refine x_iald G S.1 hf15 hif15 dX8_shorten_30 ?_
    refine lv_isub hx hb dX8_shorten_31 ?_
    obtain ⟨fs16, hfs16, hkfs16, h⟩ := h
    have h := h _ rfl
    refine x_put G S hfs16 hkfs16 rfl rfl fw_X8_31 dX8_shorten_32 (fun H locs S => ?_)
    exact x_vretM G hr hlk S (Nat.le_refl _) (Nat.le_refl _) h dX8_shorten_35
def bk_X8_firstHourOf_4 (post : Int32 → Prop) (X : Hp) (v0 : Nat) (v1 : Int32)  : Nat → Int32 → Int32 → Prop
  | 0, _, _ => False
  | k + 1, b4_2, b4_3 => (v1 ≤ b4_3 → post b4_2) ∧ (¬ v1 ≤ b4_3 → ∃ (fs3 : List Value) (y4 : Int32), Hs X v0 (.inr (8, fs3)) ∧ fs3[0]? = some (.int y4) ∧ (y4 ≤ b4_3 → post b4_2) ∧ (¬ y4 ≤ b4_3 → ∃ (fs6 : List Value) (y7 : Nat), Hs X v0 (.inr (8, fs6)) ∧ fs6[2]? = some (.ref y7) ∧ ∃ (n8 : Nat) (f9 : Nat → Int32), Hs X y7 (.inl (0, n8, .inl f9)) ∧ vp_in b4_3 n8 ∧ ∀ x10 : Int32, x10 = (b4_2 + (f9 b4_3.toNatClampNeg)) → ∀ x11 : Int32, x11 = b4_3 + (1 : Int32) → (bk_X8_firstHourOf_4 post X v0 v1 k) x10 x11))
def wp_X8_firstHourOf (post : Int32 → Prop) (X : Hp) (v0 : Nat) (v1 : Int32) : Prop := ∃ n1 : Nat, bk_X8_firstHourOf_4 post X v0 v1 n1 (0 : Int32) (0 : Int32)
set_option maxHeartbeats 4000000 in
set_option maxRecDepth 100000 in
theorem c_X8_firstHourOf (l : Launch) (D : va_G) (kA : Nat → ClassId) (post : Int32 → Prop) (X : Hp) (v0 : Nat) (v1 : Int32) (h : wp_X8_firstHourOf post X v0 v1) : Met l yX8_firstHourOf (.code yX8_firstHourOf cX8_firstHourOf 4 (some .int) :: gd) (rmO 0 0 0 0) (va_Pc [Value.ref v0, Value.int v1] (Pre D kA X)) (vp_Si post) 0 0 (fun _ => False) := by
  unfold wp_X8_firstHourOf at h
  refine x_enR (by decide) (Nat.le_of_ble_eq_true rfl) ?_
  intro p e s m below meth c G hr hlk hP ls hl
  obtain ⟨hx, hb, hml, hown, hts, hE, hK⟩ := id G
  have hl : lv_has ls 4 [(0, .ref v0), (1, .int v1)] := hl
  have J_4 : ∀ (n : Nat) (b4_2 : Int32) (b4_3 : Int32), ∀ (_ : bk_X8_firstHourOf_4 post X v0 v1  n b4_2 b4_3), ∀ ls, lv_has ls 4 [(0, .ref v0), (1, .int v1), (2, .int b4_2), (3, .int b4_3)] → W p l e (rmO 0 0 0 0) s m [Value.ref v0, Value.int v1].toArray below meth c s.heap [] 0 0 (MQ below (vp_Si post) [Value.ref v0, Value.int v1].toArray s 0 0 (fun _ => False)) (F0 m 4 ls []) := by
    intro n
    induction n with
    | zero =>
      intro b4_2 b4_3 h ls hl
      rw [bk_X8_firstHourOf_4] at h
      exact h.elim
    | succ n_4 ih_4 =>
      intro b4_2 b4_3 h ls hl
      rw [bk_X8_firstHourOf_4] at h
      refine lv_iload_n hx hb dX8_firstHourOf_4 rfl (lv_at hl 3 rfl) ?_
      refine lv_iload_n hx hb dX8_firstHourOf_5 rfl (lv_at hl 1 rfl) ?_
      refine lv_icmp_ge (tgt := 32) hx hb dX8_firstHourOf_6 (by decide) (fun c2 => ?_) (fun c2 => ?_)
      · have h := h.1 c2
        refine lv_iload_n hx hb dX8_firstHourOf_32 rfl (lv_at hl 2 rfl) ?_
        exact x_iretR G hr hlk h dX8_firstHourOf_33
      · have h := h.2 c2
        refine lv_iload_n hx hb dX8_firstHourOf_9 rfl (lv_at hl 3 rfl) ?_
        refine lv_aload_n hx hb dX8_firstHourOf_10 rfl (lv_at hl 0 rfl) ?_
        obtain ⟨fs3, y4, hfs3, hvfs3, h⟩ := h
        refine x_get G hP hfs3 hvfs3 fl_X8_27 dX8_firstHourOf_11 ?_
        refine lv_icmp_ge (tgt := 32) hx hb dX8_firstHourOf_14 (by decide) (fun c5 => ?_) (fun c5 => ?_)
        · have h := h.1 c5
          refine lv_iload_n hx hb dX8_firstHourOf_32 rfl (lv_at hl 2 rfl) ?_
          exact x_iretR G hr hlk h dX8_firstHourOf_33
        · have h := h.2 c5
          refine lv_iload_n hx hb dX8_firstHourOf_17 rfl (lv_at hl 2 rfl) ?_
          refine lv_aload_n hx hb dX8_firstHourOf_18 rfl (lv_at hl 0 rfl) ?_
          obtain ⟨fs6, y7, hfs6, hvfs6, h⟩ := h
          refine x_get G hP hfs6 hvfs6 fl_X8_9 dX8_firstHourOf_19 ?_
          refine lv_iload_n hx hb dX8_firstHourOf_22 rfl (lv_at hl 3 rfl) ?_
          obtain ⟨n8, f9, hf9, hif9, h⟩ := h
          refine x_iald G hP hf9 hif9 dX8_firstHourOf_23 ?_
          refine lv_iadd hx hb dX8_firstHourOf_24 ?_
          refine lv_topi (fun x10 ex10 => ?_)
          have h := h x10 ex10
          refine lv_istore_n (lv' := [(2, .int x10), (0, .ref v0), (1, .int v1), (3, .int b4_3)]) hx hb dX8_firstHourOf_25 rfl hl (by decide) rfl (fun ls hl => ?_)
          obtain ⟨x11, ex11⟩ : ∃ y : Int32, y = b4_3 + (1 : Int32) := ⟨_, rfl⟩
          have h := h x11 ex11
          refine lv_iinc (v := x11) (lv' := [(3, .int x11), (2, .int x10), (0, .ref v0), (1, .int v1)]) hx hb dX8_firstHourOf_26 hl (k := 3) rfl (by rw [ex11]; rfl) (by decide) rfl (fun ls hl => ?_)
          refine lv_goto (tgt := 4) hx hb dX8_firstHourOf_29 (by decide) ?_
          exact ih_4 _ _ h ls (lv_sub hl [2, 3, 1, 0] rfl)
  refine lv_iconst (v := (0 : Int32)) hx hb dX8_firstHourOf_0 (by decide) ?_
  refine lv_istore_n (lv' := [(2, .int (0 : Int32)), (0, .ref v0), (1, .int v1)]) hx hb dX8_firstHourOf_1 rfl hl (by decide) rfl (fun ls hl => ?_)
  refine lv_iconst (v := (0 : Int32)) hx hb dX8_firstHourOf_2 (by decide) ?_
  refine lv_istore_n (lv' := [(3, .int (0 : Int32)), (2, .int (0 : Int32)), (0, .ref v0), (1, .int v1)]) hx hb dX8_firstHourOf_3 rfl hl (by decide) rfl (fun ls hl => ?_)
  obtain ⟨n1, h⟩ := h
  exact J_4 n1 _ _ h ls (lv_sub hl [2, 3, 1, 0] rfl)
def wp_X8_shipsAt (post : Int32 → Prop) (X : Hp) (v0 : Nat) (v1 : Int32) : Prop := (v1 < 0 → post (0 : Int32)) ∧ (¬ v1 < 0 → ∃ (fs2 : List Value) (y3 : Int32), Hs X v0 (.inr (8, fs2)) ∧ fs2[1]? = some (.int y3) ∧ (y3 ≤ v1 → post (0 : Int32)) ∧ (¬ y3 ≤ v1 → ∃ (fs5 : List Value) (y6 : Nat), Hs X v0 (.inr (8, fs5)) ∧ fs5[5]? = some (.ref y6) ∧ ∃ (n7 : Nat) (f8 : Nat → Int32), Hs X y6 (.inl (0, n7, .inl f8)) ∧ vp_in v1 n7 ∧ post (f8 v1.toNatClampNeg)))
set_option maxHeartbeats 4000000 in
set_option maxRecDepth 100000 in
theorem c_X8_shipsAt (l : Launch) (D : va_G) (kA : Nat → ClassId) (post : Int32 → Prop) (X : Hp) (v0 : Nat) (v1 : Int32) (h : wp_X8_shipsAt post X v0 v1) : Met l yX8_shipsAt (.code yX8_shipsAt cX8_shipsAt 2 (some .int) :: gd) (rmO 0 0 0 0) (va_Pc [Value.ref v0, Value.int v1] (Pre D kA X)) (vp_Si post) 0 0 (fun _ => False) := by
  unfold wp_X8_shipsAt at h
  refine x_enR (by decide) (Nat.le_of_ble_eq_true rfl) ?_
  intro p e s m below meth c G hr hlk hP ls hl
  obtain ⟨hx, hb, hml, hown, hts, hE, hK⟩ := id G
  have hl : lv_has ls 2 [(0, .ref v0), (1, .int v1)] := hl
  refine lv_iload_n hx hb dX8_shipsAt_0 rfl (lv_at hl 1 rfl) ?_
  refine lv_if_lt (tgt := 21) hx hb dX8_shipsAt_1 (by decide) (fun c1 => ?_) (fun c1 => ?_)
  · have h := h.1 c1
    refine lv_iconst (v := (0 : Int32)) hx hb dX8_shipsAt_21 (by decide) ?_
    exact x_iretR G hr hlk h dX8_shipsAt_22
  · have h := h.2 c1
    refine lv_iload_n hx hb dX8_shipsAt_4 rfl (lv_at hl 1 rfl) ?_
    refine lv_aload_n hx hb dX8_shipsAt_5 rfl (lv_at hl 0 rfl) ?_
    obtain ⟨fs2, y3, hfs2, hvfs2, h⟩ := h
    refine x_get G hP hfs2 hvfs2 fl_X8_31 dX8_shipsAt_6 ?_
    refine lv_icmp_ge (tgt := 21) hx hb dX8_shipsAt_9 (by decide) (fun c4 => ?_) (fun c4 => ?_)
    · have h := h.1 c4
      refine lv_iconst (v := (0 : Int32)) hx hb dX8_shipsAt_21 (by decide) ?_
      exact x_iretR G hr hlk h dX8_shipsAt_22
    · have h := h.2 c4
      refine lv_aload_n hx hb dX8_shipsAt_12 rfl (lv_at hl 0 rfl) ?_
      obtain ⟨fs5, y6, hfs5, hvfs5, h⟩ := h
      refine x_get G hP hfs5 hvfs5 fl_X8_21 dX8_shipsAt_13 ?_
      refine lv_iload_n hx hb dX8_shipsAt_16 rfl (lv_at hl 1 rfl) ?_
      obtain ⟨n7, f8, hf8, hif8, h⟩ := h
      refine x_iald G hP hf8 hif8 dX8_shipsAt_17 ?_
      refine lv_goto (tgt := 22) hx hb dX8_shipsAt_18 (by decide) ?_
      exact x_iretR G hr hlk h dX8_shipsAt_22
def wp_X8_squallAt (post : Int32 → Prop) (X : Hp) (v0 : Nat) (v1 : Int32) : Prop := (v1 < 0 → post (0 : Int32)) ∧ (¬ v1 < 0 → ∃ (fs2 : List Value) (y3 : Int32), Hs X v0 (.inr (8, fs2)) ∧ fs2[1]? = some (.int y3) ∧ (y3 ≤ v1 → post (0 : Int32)) ∧ (¬ y3 ≤ v1 → ∃ (fs5 : List Value) (y6 : Nat), Hs X v0 (.inr (8, fs5)) ∧ fs5[6]? = some (.ref y6) ∧ ∃ (n7 : Nat) (f8 : Nat → Int32), Hs X y6 (.inl (0, n7, .inl f8)) ∧ vp_in v1 n7 ∧ (¬ (f8 v1.toNatClampNeg) = (1 : Int32) → post (0 : Int32)) ∧ ((f8 v1.toNatClampNeg) = (1 : Int32) → post (1 : Int32))))
set_option maxHeartbeats 4000000 in
set_option maxRecDepth 100000 in
theorem c_X8_squallAt (l : Launch) (D : va_G) (kA : Nat → ClassId) (post : Int32 → Prop) (X : Hp) (v0 : Nat) (v1 : Int32) (h : wp_X8_squallAt post X v0 v1) : Met l yX8_squallAt (.code yX8_squallAt cX8_squallAt 2 (some .boolean) :: gd) (rmO 0 0 0 0) (va_Pc [Value.ref v0, Value.int v1] (Pre D kA X)) (vp_Si post) 0 0 (fun _ => False) := by
  unfold wp_X8_squallAt at h
  refine x_enR (by decide) (Nat.le_of_ble_eq_true rfl) ?_
  intro p e s m below meth c G hr hlk hP ls hl
  obtain ⟨hx, hb, hml, hown, hts, hE, hK⟩ := id G
  have hl : lv_has ls 2 [(0, .ref v0), (1, .int v1)] := hl
  refine lv_iload_n hx hb dX8_squallAt_0 rfl (lv_at hl 1 rfl) ?_
  refine lv_if_lt (tgt := 26) hx hb dX8_squallAt_1 (by decide) (fun c1 => ?_) (fun c1 => ?_)
  · have h := h.1 c1
    refine lv_iconst (v := (0 : Int32)) hx hb dX8_squallAt_26 (by decide) ?_
    exact x_zretR G hr hlk (Or.inl rfl) h dX8_squallAt_27
  · have h := h.2 c1
    refine lv_iload_n hx hb dX8_squallAt_4 rfl (lv_at hl 1 rfl) ?_
    refine lv_aload_n hx hb dX8_squallAt_5 rfl (lv_at hl 0 rfl) ?_
    obtain ⟨fs2, y3, hfs2, hvfs2, h⟩ := h
    refine x_get G hP hfs2 hvfs2 fl_X8_31 dX8_squallAt_6 ?_
    refine lv_icmp_ge (tgt := 26) hx hb dX8_squallAt_9 (by decide) (fun c4 => ?_) (fun c4 => ?_)
    · have h := h.1 c4
      refine lv_iconst (v := (0 : Int32)) hx hb dX8_squallAt_26 (by decide) ?_
      exact x_zretR G hr hlk (Or.inl rfl) h dX8_squallAt_27
    · have h := h.2 c4
      refine lv_aload_n hx hb dX8_squallAt_12 rfl (lv_at hl 0 rfl) ?_
      obtain ⟨fs5, y6, hfs5, hvfs5, h⟩ := h
      refine x_get G hP hfs5 hvfs5 fl_X8_24 dX8_squallAt_13 ?_
      refine lv_iload_n hx hb dX8_squallAt_16 rfl (lv_at hl 1 rfl) ?_
      obtain ⟨n7, f8, hf8, hif8, h⟩ := h
      refine x_iald G hP hf8 hif8 dX8_squallAt_17 ?_
      refine lv_iconst (v := (1 : Int32)) hx hb dX8_squallAt_18 (by decide) ?_
      refine lv_icmp_ne (tgt := 26) hx hb dX8_squallAt_19 (by decide) (fun c9 => ?_) (fun c9 => ?_)
      · have h := h.1 c9
        refine lv_iconst (v := (0 : Int32)) hx hb dX8_squallAt_26 (by decide) ?_
        exact x_zretR G hr hlk (Or.inl rfl) h dX8_squallAt_27
      · have h := h.2 c9
        refine lv_iconst (v := (1 : Int32)) hx hb dX8_squallAt_22 (by decide) ?_
        refine lv_goto (tgt := 27) hx hb dX8_squallAt_23 (by decide) ?_
        exact x_zretR G hr hlk (Or.inr rfl) h dX8_squallAt_27
def wp_X8_lets (post : Int32 → Prop) (X : Hp) (v0 : Nat) (v1 : Int32) (v2 : Int32) : Prop := ∃ fs14 : List Value, Hs X v0 (.inr (8, fs14)) ∧ wp_X8_hasHour (fun r1 => (¬ r1 = 0 → (¬ v2 = 0 → ∃ fs13 : List Value, Hs X v0 (.inr (8, fs13)) ∧ wp_X8_squallAt (fun r4 => (r4 = 0 → (¬ v2 = (3 : Int32) → post (1 : Int32)) ∧ (v2 = (3 : Int32) → ∃ fs12 : List Value, Hs X v0 (.inr (8, fs12)) ∧ wp_X8_hasHour (fun r7 => (r7 = 0 → post (0 : Int32)) ∧ (¬ r7 = 0 → ∃ fs11 : List Value, Hs X v0 (.inr (8, fs11)) ∧ wp_X8_squallAt (fun r9 => (¬ r9 = 0 → post (0 : Int32)) ∧ (r9 = 0 → post (1 : Int32)))  X v0 (v1 + (1 : Int32))))  X v0 (v1 + (1 : Int32)))) ∧ (¬ r4 = 0 → post (0 : Int32)))  X v0 v1) ∧ (v2 = 0 → post (1 : Int32))) ∧ (r1 = 0 → post (0 : Int32)))  X v0 v1
set_option maxHeartbeats 4000000 in
set_option maxRecDepth 100000 in
theorem c_X8_lets (l : Launch) (D : va_G) (kA : Nat → ClassId) (post : Int32 → Prop) (X : Hp) (v0 : Nat) (v1 : Int32) (v2 : Int32) (h : wp_X8_lets post X v0 v1 v2) : Met l yX8_lets (.code yX8_lets cX8_lets 3 (some .boolean) :: gd) (rmO 1 0 0 21) (va_Pc [Value.ref v0, Value.int v1, Value.int v2] (Pre D kA X)) (vp_Si post) 0 0 (fun _ => False) := by
  unfold wp_X8_lets at h
  refine x_enR (by decide) (Nat.le_of_ble_eq_true rfl) ?_
  intro p e s m below meth c G hr hlk hP ls hl
  obtain ⟨hx, hb, hml, hown, hts, hE, hK⟩ := id G
  have hl : lv_has ls 3 [(0, .ref v0), (1, .int v1), (2, .int v2)] := hl
  refine lv_aload_n hx hb dX8_lets_0 rfl (lv_at hl 0 rfl) ?_
  refine lv_iload_n hx hb dX8_lets_1 rfl (lv_at hl 1 rfl) ?_
  obtain ⟨fs14, hfs14, h⟩ := h
  refine x_cRVi (As := [.int v1]) (rest := []) G hP hfs14 rfl rfl (c_X8_hasHour l D kA _ _ v0 v1 h) cd_X8_hasHour ml_X8_42 ⟨(Nat.le_of_ble_eq_true rfl), (Nat.le_of_ble_eq_true rfl)⟩ rfl hl.1 rfl (Nat.le_of_ble_eq_true rfl) dX8_lets_2 ⟨Nat.zero_le _, Nat.zero_le _⟩ (fun r1 h => ?_)
  refine lv_if_ne (tgt := 10) hx hb dX8_lets_5 (by decide) (fun c2 => ?_) (fun c2 => ?_)
  · have h := h.1 c2
    refine lv_iload_n hx hb dX8_lets_10 rfl (lv_at hl 2 rfl) ?_
    refine lv_if_ne (tgt := 16) hx hb dX8_lets_11 (by decide) (fun c3 => ?_) (fun c3 => ?_)
    · have h := h.1 c3
      refine lv_aload_n hx hb dX8_lets_16 rfl (lv_at hl 0 rfl) ?_
      refine lv_iload_n hx hb dX8_lets_17 rfl (lv_at hl 1 rfl) ?_
      obtain ⟨fs13, hfs13, h⟩ := h
      refine x_cRVi (As := [.int v1]) (rest := []) G hP hfs13 rfl rfl (c_X8_squallAt l D kA _ _ v0 v1 h) cd_X8_squallAt ml_X8_45 ⟨(Nat.le_of_ble_eq_true rfl), (Nat.le_of_ble_eq_true rfl)⟩ rfl hl.1 rfl (Nat.le_of_ble_eq_true rfl) dX8_lets_18 ⟨Nat.zero_le _, Nat.zero_le _⟩ (fun r4 h => ?_)
      refine lv_if_eq (tgt := 26) hx hb dX8_lets_21 (by decide) (fun c5 => ?_) (fun c5 => ?_)
      · have h := h.1 c5
        refine lv_iload_n hx hb dX8_lets_26 rfl (lv_at hl 2 rfl) ?_
        refine lv_iconst (v := (3 : Int32)) hx hb dX8_lets_27 (by decide) ?_
        refine lv_icmp_ne (tgt := 51) hx hb dX8_lets_28 (by decide) (fun c6 => ?_) (fun c6 => ?_)
        · have h := h.1 c6
          refine lv_iconst (v := (1 : Int32)) hx hb dX8_lets_51 (by decide) ?_
          refine lv_goto (tgt := 56) hx hb dX8_lets_52 (by decide) ?_
          exact x_zretR G hr hlk (Or.inr rfl) h dX8_lets_56
        · have h := h.2 c6
          refine lv_aload_n hx hb dX8_lets_31 rfl (lv_at hl 0 rfl) ?_
          refine lv_iload_n hx hb dX8_lets_32 rfl (lv_at hl 1 rfl) ?_
          refine lv_iconst (v := (1 : Int32)) hx hb dX8_lets_33 (by decide) ?_
          refine lv_iadd hx hb dX8_lets_34 ?_
          obtain ⟨fs12, hfs12, h⟩ := h
          refine x_cRVi (As := [.int (v1 + (1 : Int32))]) (rest := []) G hP hfs12 rfl rfl (c_X8_hasHour l D kA _ _ v0 (v1 + (1 : Int32)) h) cd_X8_hasHour ml_X8_42 ⟨(Nat.le_of_ble_eq_true rfl), (Nat.le_of_ble_eq_true rfl)⟩ rfl hl.1 rfl (Nat.le_of_ble_eq_true rfl) dX8_lets_35 ⟨Nat.zero_le _, Nat.zero_le _⟩ (fun r7 h => ?_)
          refine lv_if_eq (tgt := 55) hx hb dX8_lets_38 (by decide) (fun c8 => ?_) (fun c8 => ?_)
          · have h := h.1 c8
            refine lv_iconst (v := (0 : Int32)) hx hb dX8_lets_55 (by decide) ?_
            exact x_zretR G hr hlk (Or.inl rfl) h dX8_lets_56
          · have h := h.2 c8
            refine lv_aload_n hx hb dX8_lets_41 rfl (lv_at hl 0 rfl) ?_
            refine lv_iload_n hx hb dX8_lets_42 rfl (lv_at hl 1 rfl) ?_
            refine lv_iconst (v := (1 : Int32)) hx hb dX8_lets_43 (by decide) ?_
            refine lv_iadd hx hb dX8_lets_44 ?_
            obtain ⟨fs11, hfs11, h⟩ := h
            refine x_cRVi (As := [.int (v1 + (1 : Int32))]) (rest := []) G hP hfs11 rfl rfl (c_X8_squallAt l D kA _ _ v0 (v1 + (1 : Int32)) h) cd_X8_squallAt ml_X8_45 ⟨(Nat.le_of_ble_eq_true rfl), (Nat.le_of_ble_eq_true rfl)⟩ rfl hl.1 rfl (Nat.le_of_ble_eq_true rfl) dX8_lets_45 ⟨Nat.zero_le _, Nat.zero_le _⟩ (fun r9 h => ?_)
            refine lv_if_ne (tgt := 55) hx hb dX8_lets_48 (by decide) (fun c10 => ?_) (fun c10 => ?_)
            · have h := h.1 c10
              refine lv_iconst (v := (0 : Int32)) hx hb dX8_lets_55 (by decide) ?_
              exact x_zretR G hr hlk (Or.inl rfl) h dX8_lets_56
            · have h := h.2 c10
              refine lv_iconst (v := (1 : Int32)) hx hb dX8_lets_51 (by decide) ?_
              refine lv_goto (tgt := 56) hx hb dX8_lets_52 (by decide) ?_
              exact x_zretR G hr hlk (Or.inr rfl) h dX8_lets_56
      · have h := h.2 c5
        refine lv_iconst (v := (0 : Int32)) hx hb dX8_lets_24 (by decide) ?_
        exact x_zretR G hr hlk (Or.inl rfl) h dX8_lets_25
    · have h := h.2 c3
      refine lv_iconst (v := (1 : Int32)) hx hb dX8_lets_14 (by decide) ?_
      exact x_zretR G hr hlk (Or.inr rfl) h dX8_lets_15
  · have h := h.2 c2
    refine lv_iconst (v := (0 : Int32)) hx hb dX8_lets_8 (by decide) ?_
    exact x_zretR G hr hlk (Or.inl rfl) h dX8_lets_9
def wp_X8_copy (post : Hp → Prop) (X : Hp) (v0 : Nat) (v1 : Nat) : Prop := ∃ (fs1 : List Value) (y2 : Int32), Hs X v1 (.inr (8, fs1)) ∧ fs1[0]? = some (.int y2) ∧ ∃ (fs3 : List Value), Hs X v0 (.inr (8, fs3)) ∧ 0 < fs3.length ∧ ∀ X4 : Hp, X4 = hput X v0 (.inr (8, fs3.set 0 (.int y2))) → ∃ (fs5 : List Value) (y6 : Int32), Hs X4 v1 (.inr (8, fs5)) ∧ fs5[1]? = some (.int y6) ∧ ∃ (fs7 : List Value), Hs X4 v0 (.inr (8, fs7)) ∧ 1 < fs7.length ∧ ∀ X8 : Hp, X8 = hput X4 v0 (.inr (8, fs7.set 1 (.int y6))) → ∃ (fs9 : List Value) (y10 : Nat), Hs X8 v1 (.inr (8, fs9)) ∧ fs9[2]? = some (.ref y10) ∧ ∃ (fs11 : List Value) (y12 : Nat), Hs X8 v0 (.inr (8, fs11)) ∧ fs11[2]? = some (.ref y12) ∧ ∃ (n13 n14 : Nat) (f15 f16 : Nat → Int32), Hs X8 y10 (.inl (0, n13, .inl f15)) ∧ Hs X8 y12 (.inl (0, n14, .inl f16)) ∧ ¬ (0 : Int32) < 0 ∧ ¬ (0 : Int32) < 0 ∧ ¬ (8 : Int32) < 0 ∧ (0 : Int32).toNatClampNeg + (8 : Int32).toNatClampNeg ≤ n13 ∧ (0 : Int32).toNatClampNeg + (8 : Int32).toNatClampNeg ≤ n14 ∧ ∀ X17 : Hp, X17 = hput X8 y12 (.inl (0, n14, .inl (va_cpy f15 f16 (0 : Int32).toNatClampNeg (0 : Int32).toNatClampNeg (8 : Int32).toNatClampNeg))) → ∃ (fs18 : List Value) (y19 : Nat), Hs X17 v1 (.inr (8, fs18)) ∧ fs18[3]? = some (.ref y19) ∧ ∃ (fs20 : List Value) (y21 : Nat), Hs X17 v0 (.inr (8, fs20)) ∧ fs20[3]? = some (.ref y21) ∧ ∃ (n22 n23 : Nat) (f24 f25 : Nat → Int32), Hs X17 y19 (.inl (0, n22, .inl f24)) ∧ Hs X17 y21 (.inl (0, n23, .inl f25)) ∧ ¬ (0 : Int32) < 0 ∧ ¬ (0 : Int32) < 0 ∧ ¬ (8 : Int32) < 0 ∧ (0 : Int32).toNatClampNeg + (8 : Int32).toNatClampNeg ≤ n22 ∧ (0 : Int32).toNatClampNeg + (8 : Int32).toNatClampNeg ≤ n23 ∧ ∀ X26 : Hp, X26 = hput X17 y21 (.inl (0, n23, .inl (va_cpy f24 f25 (0 : Int32).toNatClampNeg (0 : Int32).toNatClampNeg (8 : Int32).toNatClampNeg))) → ∃ (fs27 : List Value) (y28 : Nat), Hs X26 v1 (.inr (8, fs27)) ∧ fs27[4]? = some (.ref y28) ∧ ∃ (fs29 : List Value) (y30 : Nat), Hs X26 v0 (.inr (8, fs29)) ∧ fs29[4]? = some (.ref y30) ∧ ∃ (n31 n32 : Nat) (f33 f34 : Nat → Int32), Hs X26 y28 (.inl (0, n31, .inl f33)) ∧ Hs X26 y30 (.inl (0, n32, .inl f34)) ∧ ¬ (0 : Int32) < 0 ∧ ¬ (0 : Int32) < 0 ∧ ¬ (8 : Int32) < 0 ∧ (0 : Int32).toNatClampNeg + (8 : Int32).toNatClampNeg ≤ n31 ∧ (0 : Int32).toNatClampNeg + (8 : Int32).toNatClampNeg ≤ n32 ∧ ∀ X35 : Hp, X35 = hput X26 y30 (.inl (0, n32, .inl (va_cpy f33 f34 (0 : Int32).toNatClampNeg (0 : Int32).toNatClampNeg (8 : Int32).toNatClampNeg))) → ∃ (fs36 : List Value) (y37 : Nat), Hs X35 v1 (.inr (8, fs36)) ∧ fs36[5]? = some (.ref y37) ∧ ∃ (fs38 : List Value) (y39 : Nat), Hs X35 v0 (.inr (8, fs38)) ∧ fs38[5]? = some (.ref y39) ∧ ∃ (n40 n41 : Nat) (f42 f43 : Nat → Int32), Hs X35 y37 (.inl (0, n40, .inl f42)) ∧ Hs X35 y39 (.inl (0, n41, .inl f43)) ∧ ¬ (0 : Int32) < 0 ∧ ¬ (0 : Int32) < 0 ∧ ¬ (48 : Int32) < 0 ∧ (0 : Int32).toNatClampNeg + (48 : Int32).toNatClampNeg ≤ n40 ∧ (0 : Int32).toNatClampNeg + (48 : Int32).toNatClampNeg ≤ n41 ∧ ∀ X44 : Hp, X44 = hput X35 y39 (.inl (0, n41, .inl (va_cpy f42 f43 (0 : Int32).toNatClampNeg (0 : Int32).toNatClampNeg (48 : Int32).toNatClampNeg))) → ∃ (fs45 : List Value) (y46 : Nat), Hs X44 v1 (.inr (8, fs45)) ∧ fs45[6]? = some (.ref y46) ∧ ∃ (fs47 : List Value) (y48 : Nat), Hs X44 v0 (.inr (8, fs47)) ∧ fs47[6]? = some (.ref y48) ∧ ∃ (n49 n50 : Nat) (f51 f52 : Nat → Int32), Hs X44 y46 (.inl (0, n49, .inl f51)) ∧ Hs X44 y48 (.inl (0, n50, .inl f52)) ∧ ¬ (0 : Int32) < 0 ∧ ¬ (0 : Int32) < 0 ∧ ¬ (48 : Int32) < 0 ∧ (0 : Int32).toNatClampNeg + (48 : Int32).toNatClampNeg ≤ n49 ∧ (0 : Int32).toNatClampNeg + (48 : Int32).toNatClampNeg ≤ n50 ∧ ∀ X53 : Hp, X53 = hput X44 y48 (.inl (0, n50, .inl (va_cpy f51 f52 (0 : Int32).toNatClampNeg (0 : Int32).toNatClampNeg (48 : Int32).toNatClampNeg))) → post X53
set_option maxHeartbeats 4000000 in
set_option maxRecDepth 100000 in
theorem c_X8_copy (l : Launch) (D : va_G) (kA : Nat → ClassId) (post : Hp → Prop) (X : Hp) (sz : Nat) (v0 : Nat) (v1 : Nat) (h : wp_X8_copy post X v0 v1) : Met l yX8_copy (.code yX8_copy cX8_copy 2 none :: gd) (rmO 1 0 0 60) (va_Pc [Value.ref v0, Value.ref v1] (PreM D kA X sz)) (va_Qv post (PoM D kA X sz) (va_A (hw kA X) sz)) 0 0 (va_A (hw kA X) sz) := by
  unfold wp_X8_copy at h
  refine x_enM (by decide) (Nat.le_of_ble_eq_true rfl) ?_
  intro p e s m below meth c G hr hlk hin hsz hA S ls hl
  obtain ⟨hx, hb, hml, hown, hts, hE, hK⟩ := id G
  have hl : lv_has ls 2 [(0, .ref v0), (1, .ref v1)] := hl
  refine lv_aload_n hx hb dX8_copy_0 rfl (lv_at hl 0 rfl) ?_
  refine lv_aload_n hx hb dX8_copy_1 rfl (lv_at hl 1 rfl) ?_
  obtain ⟨fs1, y2, hfs1, hvfs1, h⟩ := h
  refine x_get G S.1 hfs1 hvfs1 fl_X8_27 dX8_copy_2 ?_
  obtain ⟨fs3, hfs3, hkfs3, h⟩ := h
  have h := h _ rfl
  refine x_put G S hfs3 hkfs3 rfl rfl fw_X8_27 dX8_copy_5 (fun H locs S => ?_)
  refine lv_aload_n hx hb dX8_copy_8 rfl (lv_at hl 0 rfl) ?_
  refine lv_aload_n hx hb dX8_copy_9 rfl (lv_at hl 1 rfl) ?_
  obtain ⟨fs5, y6, hfs5, hvfs5, h⟩ := h
  refine x_get G S.1 hfs5 hvfs5 fl_X8_31 dX8_copy_10 ?_
  obtain ⟨fs7, hfs7, hkfs7, h⟩ := h
  have h := h _ rfl
  refine x_put G S hfs7 hkfs7 rfl rfl fw_X8_31 dX8_copy_13 (fun H locs S => ?_)
  refine lv_aload_n hx hb dX8_copy_16 rfl (lv_at hl 1 rfl) ?_
  obtain ⟨fs9, y10, hfs9, hvfs9, h⟩ := h
  refine x_get G S.1 hfs9 hvfs9 fl_X8_9 dX8_copy_17 ?_
  refine lv_iconst (v := (0 : Int32)) hx hb dX8_copy_20 (by decide) ?_
  refine lv_aload_n hx hb dX8_copy_21 rfl (lv_at hl 0 rfl) ?_
  obtain ⟨fs11, y12, hfs11, hvfs11, h⟩ := h
  refine x_get G S.1 hfs11 hvfs11 fl_X8_9 dX8_copy_22 ?_
  refine lv_iconst (v := (0 : Int32)) hx hb dX8_copy_25 (by decide) ?_
  refine lv_bipush (v := (8 : Int32)) hx hb dX8_copy_26 (by decide) ?_
  obtain ⟨n13, n14, f15, f16, hs0, hs1, i1, i2, i3, i4, i5, h⟩ := h
  have h := h _ rfl
  refine x_copyi G S hl.1 mk_X8_48 ac_nat ac_sta mi_sys hs0 hs1 i1 i2 i3 i4 i5 (Nat.le_of_ble_eq_true rfl) (Nat.le_of_ble_eq_true rfl) dX8_copy_28 (fun H locs S => ?_)
  refine lv_aload_n hx hb dX8_copy_31 rfl (lv_at hl 1 rfl) ?_
  obtain ⟨fs18, y19, hfs18, hvfs18, h⟩ := h
  refine x_get G S.1 hfs18 hvfs18 fl_X8_15 dX8_copy_32 ?_
  refine lv_iconst (v := (0 : Int32)) hx hb dX8_copy_35 (by decide) ?_
  refine lv_aload_n hx hb dX8_copy_36 rfl (lv_at hl 0 rfl) ?_
  obtain ⟨fs20, y21, hfs20, hvfs20, h⟩ := h
  refine x_get G S.1 hfs20 hvfs20 fl_X8_15 dX8_copy_37 ?_
  refine lv_iconst (v := (0 : Int32)) hx hb dX8_copy_40 (by decide) ?_
  refine lv_bipush (v := (8 : Int32)) hx hb dX8_copy_41 (by decide) ?_
  obtain ⟨n22, n23, f24, f25, hs0, hs1, i1, i2, i3, i4, i5, h⟩ := h
  have h := h _ rfl
  refine x_copyi G S hl.1 mk_X8_48 ac_nat ac_sta mi_sys hs0 hs1 i1 i2 i3 i4 i5 (Nat.le_of_ble_eq_true rfl) (Nat.le_of_ble_eq_true rfl) dX8_copy_43 (fun H locs S => ?_)
  refine lv_aload_n hx hb dX8_copy_46 rfl (lv_at hl 1 rfl) ?_
  obtain ⟨fs27, y28, hfs27, hvfs27, h⟩ := h
  refine x_get G S.1 hfs27 hvfs27 fl_X8_18 dX8_copy_47 ?_
  refine lv_iconst (v := (0 : Int32)) hx hb dX8_copy_50 (by decide) ?_
  refine lv_aload_n hx hb dX8_copy_51 rfl (lv_at hl 0 rfl) ?_
  obtain ⟨fs29, y30, hfs29, hvfs29, h⟩ := h
  refine x_get G S.1 hfs29 hvfs29 fl_X8_18 dX8_copy_52 ?_
  refine lv_iconst (v := (0 : Int32)) hx hb dX8_copy_55 (by decide) ?_
  refine lv_bipush (v := (8 : Int32)) hx hb dX8_copy_56 (by decide) ?_
  obtain ⟨n31, n32, f33, f34, hs0, hs1, i1, i2, i3, i4, i5, h⟩ := h
  have h := h _ rfl
  refine x_copyi G S hl.1 mk_X8_48 ac_nat ac_sta mi_sys hs0 hs1 i1 i2 i3 i4 i5 (Nat.le_of_ble_eq_true rfl) (Nat.le_of_ble_eq_true rfl) dX8_copy_58 (fun H locs S => ?_)
  refine lv_aload_n hx hb dX8_copy_61 rfl (lv_at hl 1 rfl) ?_
  obtain ⟨fs36, y37, hfs36, hvfs36, h⟩ := h
  refine x_get G S.1 hfs36 hvfs36 fl_X8_21 dX8_copy_62 ?_
  refine lv_iconst (v := (0 : Int32)) hx hb dX8_copy_65 (by decide) ?_
  refine lv_aload_n hx hb dX8_copy_66 rfl (lv_at hl 0 rfl) ?_
  obtain ⟨fs38, y39, hfs38, hvfs38, h⟩ := h
  refine x_get G S.1 hfs38 hvfs38 fl_X8_21 dX8_copy_67 ?_
  refine lv_iconst (v := (0 : Int32)) hx hb dX8_copy_70 (by decide) ?_
  refine lv_bipush (v := (48 : Int32)) hx hb dX8_copy_71 (by decide) ?_
  obtain ⟨n40, n41, f42, f43, hs0, hs1, i1, i2, i3, i4, i5, h⟩ := h
  have h := h _ rfl
  refine x_copyi G S hl.1 mk_X8_48 ac_nat ac_sta mi_sys hs0 hs1 i1 i2 i3 i4 i5 (Nat.le_of_ble_eq_true rfl) (Nat.le_of_ble_eq_true rfl) dX8_copy_73 (fun H locs S => ?_)
  refine lv_aload_n hx hb dX8_copy_76 rfl (lv_at hl 1 rfl) ?_
  obtain ⟨fs45, y46, hfs45, hvfs45, h⟩ := h
  refine x_get G S.1 hfs45 hvfs45 fl_X8_24 dX8_copy_77 ?_
  refine lv_iconst (v := (0 : Int32)) hx hb dX8_copy_80 (by decide) ?_
  refine lv_aload_n hx hb dX8_copy_81 rfl (lv_at hl 0 rfl) ?_
  obtain ⟨fs47, y48, hfs47, hvfs47, h⟩ := h
  refine x_get G S.1 hfs47 hvfs47 fl_X8_24 dX8_copy_82 ?_
  refine lv_iconst (v := (0 : Int32)) hx hb dX8_copy_85 (by decide) ?_
  refine lv_bipush (v := (48 : Int32)) hx hb dX8_copy_86 (by decide) ?_
  obtain ⟨n49, n50, f51, f52, hs0, hs1, i1, i2, i3, i4, i5, h⟩ := h
  have h := h _ rfl
  refine x_copyi G S hl.1 mk_X8_48 ac_nat ac_sta mi_sys hs0 hs1 i1 i2 i3 i4 i5 (Nat.le_of_ble_eq_true rfl) (Nat.le_of_ble_eq_true rfl) dX8_copy_88 (fun H locs S => ?_)
  exact x_vretM G hr hlk S (Nat.le_refl _) (Nat.le_refl _) h dX8_copy_91
end
