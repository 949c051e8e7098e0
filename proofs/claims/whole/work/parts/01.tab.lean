-- ===== PART A: goes FIRST, ahead of the names: the tables' words, and 'selects' of the private methods out of them =====
/-- a private method of a class that the tables say can be made, by its rows of tables_1 -/
def lw_okq (q : MethodName × Nat) : Prop := (q.1.cls ≠ "java/lang/invoke/MethodHandle" ∧ q.1.cls ≠ "java/lang/invoke/VarHandle") ∧ Cond.instantiable q.1.cls q.2 ∈ tables_1 ∧ Cond.privateMethod q.1 ∈ tables_1 ∧ Cond.instanceMethod q.1 ∈ tables_1
theorem lw_p0 : lw_okq (⟨"StencilWall$Scene", "colourOf", "(I)I"⟩, 10) := ⟨⟨by decide +kernel, by decide +kernel⟩, List.mem_of_getElem? (i := 26) (by decide +kernel), List.mem_of_getElem? (i := 221) (by decide +kernel), List.mem_of_getElem? (i := 222) (by decide +kernel)⟩
theorem lw_p1 : lw_okq (⟨"StencilWall$Scene", "paint", "(II)V"⟩, 10) := ⟨⟨by decide +kernel, by decide +kernel⟩, List.mem_of_getElem? (i := 26) (by decide +kernel), List.mem_of_getElem? (i := 225) (by decide +kernel), List.mem_of_getElem? (i := 226) (by decide +kernel)⟩
theorem lw_p2 : lw_okq (⟨"StencilWall$Scene", "wetten", "(IZ)V"⟩, 10) := ⟨⟨by decide +kernel, by decide +kernel⟩, List.mem_of_getElem? (i := 26) (by decide +kernel), List.mem_of_getElem? (i := 229) (by decide +kernel), List.mem_of_getElem? (i := 230) (by decide +kernel)⟩
theorem lw_p3 : lw_okq (⟨"StencilWall$Scene", "holesOf", "(I)I"⟩, 10) := ⟨⟨by decide +kernel, by decide +kernel⟩, List.mem_of_getElem? (i := 26) (by decide +kernel), List.mem_of_getElem? (i := 241) (by decide +kernel), List.mem_of_getElem? (i := 242) (by decide +kernel)⟩
theorem lw_p4 : lw_okq (⟨"StencilWall$Scene", "cut", "(II)V"⟩, 10) := ⟨⟨by decide +kernel, by decide +kernel⟩, List.mem_of_getElem? (i := 26) (by decide +kernel), List.mem_of_getElem? (i := 245) (by decide +kernel), List.mem_of_getElem? (i := 246) (by decide +kernel)⟩
theorem lw_p5 : lw_okq (⟨"StencilWall$Scene", "dropsOf", "(I)I"⟩, 10) := ⟨⟨by decide +kernel, by decide +kernel⟩, List.mem_of_getElem? (i := 26) (by decide +kernel), List.mem_of_getElem? (i := 256) (by decide +kernel), List.mem_of_getElem? (i := 257) (by decide +kernel)⟩
theorem lw_p6 : lw_okq (⟨"StencilWall$Scene", "fill", "(II)V"⟩, 10) := ⟨⟨by decide +kernel, by decide +kernel⟩, List.mem_of_getElem? (i := 26) (by decide +kernel), List.mem_of_getElem? (i := 260) (by decide +kernel), List.mem_of_getElem? (i := 261) (by decide +kernel)⟩
theorem lw_p7 : lw_okq (⟨"StencilWall$Pad", "add", "(I)Z"⟩, 2) := ⟨⟨by decide +kernel, by decide +kernel⟩, List.mem_of_getElem? (i := 73) (by decide +kernel), List.mem_of_getElem? (i := 268) (by decide +kernel), List.mem_of_getElem? (i := 269) (by decide +kernel)⟩
theorem lw_p8 : lw_okq (⟨"StencilWall$Pad", "length", "()I"⟩, 2) := ⟨⟨by decide +kernel, by decide +kernel⟩, List.mem_of_getElem? (i := 73) (by decide +kernel), List.mem_of_getElem? (i := 272) (by decide +kernel), List.mem_of_getElem? (i := 273) (by decide +kernel)⟩
theorem lw_p9 : lw_okq (⟨"StencilWall$Pad", "clear", "()V"⟩, 2) := ⟨⟨by decide +kernel, by decide +kernel⟩, List.mem_of_getElem? (i := 73) (by decide +kernel), List.mem_of_getElem? (i := 280) (by decide +kernel), List.mem_of_getElem? (i := 281) (by decide +kernel)⟩
theorem lw_p10 : lw_okq (⟨"StencilWall$Pad", "firstWrong", "()I"⟩, 2) := ⟨⟨by decide +kernel, by decide +kernel⟩, List.mem_of_getElem? (i := 73) (by decide +kernel), List.mem_of_getElem? (i := 288) (by decide +kernel), List.mem_of_getElem? (i := 289) (by decide +kernel)⟩
theorem lw_p11 : lw_okq (⟨"StencilWall$Pad", "signAt", "(I)I"⟩, 2) := ⟨⟨by decide +kernel, by decide +kernel⟩, List.mem_of_getElem? (i := 73) (by decide +kernel), List.mem_of_getElem? (i := 292) (by decide +kernel), List.mem_of_getElem? (i := 293) (by decide +kernel)⟩
theorem lw_p12 : lw_okq (⟨"StencilWall$Evening", "play", "(LStencilWall$Pad;LStencilWall$Scene;LStencilWall$Scene;)V"⟩, 5) := ⟨⟨by decide +kernel, by decide +kernel⟩, List.mem_of_getElem? (i := 86) (by decide +kernel), List.mem_of_getElem? (i := 307) (by decide +kernel), List.mem_of_getElem? (i := 308) (by decide +kernel)⟩
theorem lw_p13 : lw_okq (⟨"StencilWall$Evening", "begin", "()V"⟩, 5) := ⟨⟨by decide +kernel, by decide +kernel⟩, List.mem_of_getElem? (i := 86) (by decide +kernel), List.mem_of_getElem? (i := 311) (by decide +kernel), List.mem_of_getElem? (i := 312) (by decide +kernel)⟩
theorem lw_p14 : lw_okq (⟨"StencilWall$Scene", "copyFrom", "(LStencilWall$Scene;)V"⟩, 10) := ⟨⟨by decide +kernel, by decide +kernel⟩, List.mem_of_getElem? (i := 26) (by decide +kernel), List.mem_of_getElem? (i := 315) (by decide +kernel), List.mem_of_getElem? (i := 316) (by decide +kernel)⟩
theorem lw_p15 : lw_okq (⟨"StencilWall$Pad", "actAt", "(ILStencilWall$Scene;)I"⟩, 2) := ⟨⟨by decide +kernel, by decide +kernel⟩, List.mem_of_getElem? (i := 73) (by decide +kernel), List.mem_of_getElem? (i := 323) (by decide +kernel), List.mem_of_getElem? (i := 324) (by decide +kernel)⟩
def lw_privs_1 : List (MethodName × Nat) := [(⟨"StencilWall$Scene", "colourOf", "(I)I"⟩, 10), (⟨"StencilWall$Scene", "paint", "(II)V"⟩, 10), (⟨"StencilWall$Scene", "wetten", "(IZ)V"⟩, 10), (⟨"StencilWall$Scene", "holesOf", "(I)I"⟩, 10), (⟨"StencilWall$Scene", "cut", "(II)V"⟩, 10), (⟨"StencilWall$Scene", "dropsOf", "(I)I"⟩, 10), (⟨"StencilWall$Scene", "fill", "(II)V"⟩, 10), (⟨"StencilWall$Pad", "add", "(I)Z"⟩, 2), (⟨"StencilWall$Pad", "length", "()I"⟩, 2), (⟨"StencilWall$Pad", "clear", "()V"⟩, 2), (⟨"StencilWall$Pad", "firstWrong", "()I"⟩, 2), (⟨"StencilWall$Pad", "signAt", "(I)I"⟩, 2), (⟨"StencilWall$Evening", "play", "(LStencilWall$Pad;LStencilWall$Scene;LStencilWall$Scene;)V"⟩, 5), (⟨"StencilWall$Evening", "begin", "()V"⟩, 5), (⟨"StencilWall$Scene", "copyFrom", "(LStencilWall$Scene;)V"⟩, 10), (⟨"StencilWall$Pad", "actAt", "(ILStencilWall$Scene;)I"⟩, 2)]
theorem lw_r1 : ∀ q ∈ lw_privs_1, lw_okq q := List.forall_mem_cons.mpr ⟨lw_p0, List.forall_mem_cons.mpr ⟨lw_p1, List.forall_mem_cons.mpr ⟨lw_p2, List.forall_mem_cons.mpr ⟨lw_p3, List.forall_mem_cons.mpr ⟨lw_p4, List.forall_mem_cons.mpr ⟨lw_p5, List.forall_mem_cons.mpr ⟨lw_p6, List.forall_mem_cons.mpr ⟨lw_p7, List.forall_mem_cons.mpr ⟨lw_p8, List.forall_mem_cons.mpr ⟨lw_p9, List.forall_mem_cons.mpr ⟨lw_p10, List.forall_mem_cons.mpr ⟨lw_p11, List.forall_mem_cons.mpr ⟨lw_p12, List.forall_mem_cons.mpr ⟨lw_p13, List.forall_mem_cons.mpr ⟨lw_p14, List.forall_mem_cons.mpr ⟨lw_p15, fun _ h => absurd h List.not_mem_nil⟩⟩⟩⟩⟩⟩⟩⟩⟩⟩⟩⟩⟩⟩⟩⟩
theorem lw_p16 : lw_okq (⟨"StencilWall$Scene", "turnOver", "(I)I"⟩, 10) := ⟨⟨by decide +kernel, by decide +kernel⟩, List.mem_of_getElem? (i := 26) (by decide +kernel), List.mem_of_getElem? (i := 327) (by decide +kernel), List.mem_of_getElem? (i := 328) (by decide +kernel)⟩
theorem lw_p17 : lw_okq (⟨"StencilWall$Scene", "spray", "(III)I"⟩, 10) := ⟨⟨by decide +kernel, by decide +kernel⟩, List.mem_of_getElem? (i := 26) (by decide +kernel), List.mem_of_getElem? (i := 337) (by decide +kernel), List.mem_of_getElem? (i := 338) (by decide +kernel)⟩
theorem lw_p18 : lw_okq (⟨"StencilWall$Scene", "cellsOf", "(I)I"⟩, 10) := ⟨⟨by decide +kernel, by decide +kernel⟩, List.mem_of_getElem? (i := 26) (by decide +kernel), List.mem_of_getElem? (i := 354) (by decide +kernel), List.mem_of_getElem? (i := 355) (by decide +kernel)⟩
theorem lw_p19 : lw_okq (⟨"StencilWall$Scene", "scrape", "(I)I"⟩, 10) := ⟨⟨by decide +kernel, by decide +kernel⟩, List.mem_of_getElem? (i := 26) (by decide +kernel), List.mem_of_getElem? (i := 361) (by decide +kernel), List.mem_of_getElem? (i := 362) (by decide +kernel)⟩
theorem lw_p20 : lw_okq (⟨"StencilWall$Scene", "waitAnHour", "()I"⟩, 10) := ⟨⟨by decide +kernel, by decide +kernel⟩, List.mem_of_getElem? (i := 26) (by decide +kernel), List.mem_of_getElem? (i := 366) (by decide +kernel), List.mem_of_getElem? (i := 367) (by decide +kernel)⟩
theorem lw_p21 : lw_okq (⟨"StencilWall$Pad", "lengthOfAct", "(I)I"⟩, 2) := ⟨⟨by decide +kernel, by decide +kernel⟩, List.mem_of_getElem? (i := 73) (by decide +kernel), List.mem_of_getElem? (i := 374) (by decide +kernel), List.mem_of_getElem? (i := 375) (by decide +kernel)⟩
theorem lw_p22 : lw_okq (⟨"StencilWall", "eveningCanBe", "()Z"⟩, 11) := ⟨⟨by decide +kernel, by decide +kernel⟩, List.mem_of_getElem? (i := 18) (by decide +kernel), List.mem_of_getElem? (i := 382) (by decide +kernel), List.mem_of_getElem? (i := 383) (by decide +kernel)⟩
theorem lw_p23 : lw_okq (⟨"StencilWall$Scene", "countOf", "(I)I"⟩, 10) := ⟨⟨by decide +kernel, by decide +kernel⟩, List.mem_of_getElem? (i := 26) (by decide +kernel), List.mem_of_getElem? (i := 399) (by decide +kernel), List.mem_of_getElem? (i := 400) (by decide +kernel)⟩
theorem lw_p24 : lw_okq (⟨"StencilWall", "fewestCards", "(I)I"⟩, 11) := ⟨⟨by decide +kernel, by decide +kernel⟩, List.mem_of_getElem? (i := 18) (by decide +kernel), List.mem_of_getElem? (i := 452) (by decide +kernel), List.mem_of_getElem? (i := 453) (by decide +kernel)⟩
theorem lw_p25 : lw_okq (⟨"StencilWall$Scene", "holesOfAll", "(I)I"⟩, 10) := ⟨⟨by decide +kernel, by decide +kernel⟩, List.mem_of_getElem? (i := 26) (by decide +kernel), List.mem_of_getElem? (i := 456) (by decide +kernel), List.mem_of_getElem? (i := 457) (by decide +kernel)⟩
theorem lw_p26 : lw_okq (⟨"StencilWall$Orders", "tryAll", "(LStencilWall$Scene;)V"⟩, 9) := ⟨⟨by decide +kernel, by decide +kernel⟩, List.mem_of_getElem? (i := 113) (by decide +kernel), List.mem_of_getElem? (i := 464) (by decide +kernel), List.mem_of_getElem? (i := 465) (by decide +kernel)⟩
theorem lw_p27 : lw_okq (⟨"StencilWall$Orders", "begin", "(LStencilWall$Scene;)V"⟩, 9) := ⟨⟨by decide +kernel, by decide +kernel⟩, List.mem_of_getElem? (i := 113) (by decide +kernel), List.mem_of_getElem? (i := 468) (by decide +kernel), List.mem_of_getElem? (i := 469) (by decide +kernel)⟩
theorem lw_p28 : lw_okq (⟨"StencilWall$Orders", "add", "(JII)V"⟩, 9) := ⟨⟨by decide +kernel, by decide +kernel⟩, List.mem_of_getElem? (i := 113) (by decide +kernel), List.mem_of_getElem? (i := 484) (by decide +kernel), List.mem_of_getElem? (i := 485) (by decide +kernel)⟩
theorem lw_p29 : lw_okq (⟨"StencilWall$Orders", "isNew", "(J)Z"⟩, 9) := ⟨⟨by decide +kernel, by decide +kernel⟩, List.mem_of_getElem? (i := 113) (by decide +kernel), List.mem_of_getElem? (i := 488) (by decide +kernel), List.mem_of_getElem? (i := 489) (by decide +kernel)⟩
theorem lw_p30 : lw_okq (⟨"StencilWall$Scene", "see", "(IZ)V"⟩, 10) := ⟨⟨by decide +kernel, by decide +kernel⟩, List.mem_of_getElem? (i := 26) (by decide +kernel), List.mem_of_getElem? (i := 505) (by decide +kernel), List.mem_of_getElem? (i := 506) (by decide +kernel)⟩
theorem lw_p31 : lw_okq (⟨"StencilWall$Scene", "unsee", "()V"⟩, 10) := ⟨⟨by decide +kernel, by decide +kernel⟩, List.mem_of_getElem? (i := 26) (by decide +kernel), List.mem_of_getElem? (i := 513) (by decide +kernel), List.mem_of_getElem? (i := 514) (by decide +kernel)⟩
def lw_privs_2 : List (MethodName × Nat) := [(⟨"StencilWall$Scene", "turnOver", "(I)I"⟩, 10), (⟨"StencilWall$Scene", "spray", "(III)I"⟩, 10), (⟨"StencilWall$Scene", "cellsOf", "(I)I"⟩, 10), (⟨"StencilWall$Scene", "scrape", "(I)I"⟩, 10), (⟨"StencilWall$Scene", "waitAnHour", "()I"⟩, 10), (⟨"StencilWall$Pad", "lengthOfAct", "(I)I"⟩, 2), (⟨"StencilWall", "eveningCanBe", "()Z"⟩, 11), (⟨"StencilWall$Scene", "countOf", "(I)I"⟩, 10), (⟨"StencilWall", "fewestCards", "(I)I"⟩, 11), (⟨"StencilWall$Scene", "holesOfAll", "(I)I"⟩, 10), (⟨"StencilWall$Orders", "tryAll", "(LStencilWall$Scene;)V"⟩, 9), (⟨"StencilWall$Orders", "begin", "(LStencilWall$Scene;)V"⟩, 9), (⟨"StencilWall$Orders", "add", "(JII)V"⟩, 9), (⟨"StencilWall$Orders", "isNew", "(J)Z"⟩, 9), (⟨"StencilWall$Scene", "see", "(IZ)V"⟩, 10), (⟨"StencilWall$Scene", "unsee", "()V"⟩, 10)]
theorem lw_r2 : ∀ q ∈ lw_privs_2, lw_okq q := List.forall_mem_cons.mpr ⟨lw_p16, List.forall_mem_cons.mpr ⟨lw_p17, List.forall_mem_cons.mpr ⟨lw_p18, List.forall_mem_cons.mpr ⟨lw_p19, List.forall_mem_cons.mpr ⟨lw_p20, List.forall_mem_cons.mpr ⟨lw_p21, List.forall_mem_cons.mpr ⟨lw_p22, List.forall_mem_cons.mpr ⟨lw_p23, List.forall_mem_cons.mpr ⟨lw_p24, List.forall_mem_cons.mpr ⟨lw_p25, List.forall_mem_cons.mpr ⟨lw_p26, List.forall_mem_cons.mpr ⟨lw_p27, List.forall_mem_cons.mpr ⟨lw_p28, List.forall_mem_cons.mpr ⟨lw_p29, List.forall_mem_cons.mpr ⟨lw_p30, List.forall_mem_cons.mpr ⟨lw_p31, fun _ h => absurd h List.not_mem_nil⟩⟩⟩⟩⟩⟩⟩⟩⟩⟩⟩⟩⟩⟩⟩⟩
theorem lw_p32 : lw_okq (⟨"StencilWall$Fitting", "gather", "(LStencilWall$Scene;)V"⟩, 3) := ⟨⟨by decide +kernel, by decide +kernel⟩, List.mem_of_getElem? (i := 150) (by decide +kernel), List.mem_of_getElem? (i := 521) (by decide +kernel), List.mem_of_getElem? (i := 522) (by decide +kernel)⟩
theorem lw_p33 : lw_okq (⟨"StencilWall$Scene", "agreesWith", "(I)Z"⟩, 10) := ⟨⟨by decide +kernel, by decide +kernel⟩, List.mem_of_getElem? (i := 26) (by decide +kernel), List.mem_of_getElem? (i := 526) (by decide +kernel), List.mem_of_getElem? (i := 527) (by decide +kernel)⟩
theorem lw_p34 : lw_okq (⟨"StencilWall$Fitting", "add", "(II)V"⟩, 3) := ⟨⟨by decide +kernel, by decide +kernel⟩, List.mem_of_getElem? (i := 150) (by decide +kernel), List.mem_of_getElem? (i := 530) (by decide +kernel), List.mem_of_getElem? (i := 531) (by decide +kernel)⟩
theorem lw_p35 : lw_okq (⟨"StencilWall$Fitting", "nameOf", "(I)I"⟩, 3) := ⟨⟨by decide +kernel, by decide +kernel⟩, List.mem_of_getElem? (i := 150) (by decide +kernel), List.mem_of_getElem? (i := 535) (by decide +kernel), List.mem_of_getElem? (i := 536) (by decide +kernel)⟩
theorem lw_p36 : lw_okq (⟨"StencilWall$Fitting", "bestToAsk", "()I"⟩, 3) := ⟨⟨by decide +kernel, by decide +kernel⟩, List.mem_of_getElem? (i := 150) (by decide +kernel), List.mem_of_getElem? (i := 543) (by decide +kernel), List.mem_of_getElem? (i := 544) (by decide +kernel)⟩
theorem lw_p37 : lw_okq (⟨"StencilWall$Fitting", "leftAtMost", "(I)I"⟩, 3) := ⟨⟨by decide +kernel, by decide +kernel⟩, List.mem_of_getElem? (i := 150) (by decide +kernel), List.mem_of_getElem? (i := 547) (by decide +kernel), List.mem_of_getElem? (i := 548) (by decide +kernel)⟩
theorem lw_p38 : lw_okq (⟨"StencilWall$Falling", "waysToHit", "(II)J"⟩, 1) := ⟨⟨by decide +kernel, by decide +kernel⟩, List.mem_of_getElem? (i := 167) (by decide +kernel), List.mem_of_getElem? (i := 574) (by decide +kernel), List.mem_of_getElem? (i := 575) (by decide +kernel)⟩
theorem lw_p39 : lw_okq (⟨"StencilWallModel", "faultOf", "()I"⟩, 16) := ⟨⟨by decide +kernel, by decide +kernel⟩, List.mem_of_getElem? (i := 618) (by decide +kernel), List.mem_of_getElem? (i := 708) (by decide +kernel), List.mem_of_getElem? (i := 709) (by decide +kernel)⟩
theorem lw_p40 : lw_okq (⟨"StencilWallModel", "goEvenings", "()I"⟩, 16) := ⟨⟨by decide +kernel, by decide +kernel⟩, List.mem_of_getElem? (i := 618) (by decide +kernel), List.mem_of_getElem? (i := 735) (by decide +kernel), List.mem_of_getElem? (i := 736) (by decide +kernel)⟩
theorem lw_p41 : lw_okq (⟨"StencilWallModel", "asNow", "()V"⟩, 16) := ⟨⟨by decide +kernel, by decide +kernel⟩, List.mem_of_getElem? (i := 618) (by decide +kernel), List.mem_of_getElem? (i := 739) (by decide +kernel), List.mem_of_getElem? (i := 740) (by decide +kernel)⟩
theorem lw_p42 : lw_okq (⟨"StencilWallModel", "ones", "(I)I"⟩, 16) := ⟨⟨by decide +kernel, by decide +kernel⟩, List.mem_of_getElem? (i := 618) (by decide +kernel), List.mem_of_getElem? (i := 743) (by decide +kernel), List.mem_of_getElem? (i := 744) (by decide +kernel)⟩
theorem lw_p43 : lw_okq (⟨"StencilWallModel", "endHour", "()I"⟩, 16) := ⟨⟨by decide +kernel, by decide +kernel⟩, List.mem_of_getElem? (i := 618) (by decide +kernel), List.mem_of_getElem? (i := 747) (by decide +kernel), List.mem_of_getElem? (i := 748) (by decide +kernel)⟩
theorem lw_p44 : lw_okq (⟨"StencilWallModel", "oneAct", "(I)I"⟩, 16) := ⟨⟨by decide +kernel, by decide +kernel⟩, List.mem_of_getElem? (i := 618) (by decide +kernel), List.mem_of_getElem? (i := 751) (by decide +kernel), List.mem_of_getElem? (i := 752) (by decide +kernel)⟩
theorem lw_p45 : lw_okq (⟨"StencilWallModel", "scrape", "(I)I"⟩, 16) := ⟨⟨by decide +kernel, by decide +kernel⟩, List.mem_of_getElem? (i := 618) (by decide +kernel), List.mem_of_getElem? (i := 755) (by decide +kernel), List.mem_of_getElem? (i := 756) (by decide +kernel)⟩
theorem lw_p46 : lw_okq (⟨"StencilWallModel", "turnOver", "(I)I"⟩, 16) := ⟨⟨by decide +kernel, by decide +kernel⟩, List.mem_of_getElem? (i := 618) (by decide +kernel), List.mem_of_getElem? (i := 759) (by decide +kernel), List.mem_of_getElem? (i := 760) (by decide +kernel)⟩
theorem lw_p47 : lw_okq (⟨"StencilWallModel", "spray", "(III)I"⟩, 16) := ⟨⟨by decide +kernel, by decide +kernel⟩, List.mem_of_getElem? (i := 618) (by decide +kernel), List.mem_of_getElem? (i := 763) (by decide +kernel), List.mem_of_getElem? (i := 764) (by decide +kernel)⟩
def lw_privs_3 : List (MethodName × Nat) := [(⟨"StencilWall$Fitting", "gather", "(LStencilWall$Scene;)V"⟩, 3), (⟨"StencilWall$Scene", "agreesWith", "(I)Z"⟩, 10), (⟨"StencilWall$Fitting", "add", "(II)V"⟩, 3), (⟨"StencilWall$Fitting", "nameOf", "(I)I"⟩, 3), (⟨"StencilWall$Fitting", "bestToAsk", "()I"⟩, 3), (⟨"StencilWall$Fitting", "leftAtMost", "(I)I"⟩, 3), (⟨"StencilWall$Falling", "waysToHit", "(II)J"⟩, 1), (⟨"StencilWallModel", "faultOf", "()I"⟩, 16), (⟨"StencilWallModel", "goEvenings", "()I"⟩, 16), (⟨"StencilWallModel", "asNow", "()V"⟩, 16), (⟨"StencilWallModel", "ones", "(I)I"⟩, 16), (⟨"StencilWallModel", "endHour", "()I"⟩, 16), (⟨"StencilWallModel", "oneAct", "(I)I"⟩, 16), (⟨"StencilWallModel", "scrape", "(I)I"⟩, 16), (⟨"StencilWallModel", "turnOver", "(I)I"⟩, 16), (⟨"StencilWallModel", "spray", "(III)I"⟩, 16)]
theorem lw_r3 : ∀ q ∈ lw_privs_3, lw_okq q := List.forall_mem_cons.mpr ⟨lw_p32, List.forall_mem_cons.mpr ⟨lw_p33, List.forall_mem_cons.mpr ⟨lw_p34, List.forall_mem_cons.mpr ⟨lw_p35, List.forall_mem_cons.mpr ⟨lw_p36, List.forall_mem_cons.mpr ⟨lw_p37, List.forall_mem_cons.mpr ⟨lw_p38, List.forall_mem_cons.mpr ⟨lw_p39, List.forall_mem_cons.mpr ⟨lw_p40, List.forall_mem_cons.mpr ⟨lw_p41, List.forall_mem_cons.mpr ⟨lw_p42, List.forall_mem_cons.mpr ⟨lw_p43, List.forall_mem_cons.mpr ⟨lw_p44, List.forall_mem_cons.mpr ⟨lw_p45, List.forall_mem_cons.mpr ⟨lw_p46, List.forall_mem_cons.mpr ⟨lw_p47, fun _ h => absurd h List.not_mem_nil⟩⟩⟩⟩⟩⟩⟩⟩⟩⟩⟩⟩⟩⟩⟩⟩
theorem lw_p48 : lw_okq (⟨"StencilWallModel", "barOfEvenings", "()I"⟩, 16) := ⟨⟨by decide +kernel, by decide +kernel⟩, List.mem_of_getElem? (i := 618) (by decide +kernel), List.mem_of_getElem? (i := 774) (by decide +kernel), List.mem_of_getElem? (i := 775) (by decide +kernel)⟩
theorem lw_p49 : lw_okq (⟨"StencilWallModel", "wallOf", "(II)J"⟩, 16) := ⟨⟨by decide +kernel, by decide +kernel⟩, List.mem_of_getElem? (i := 618) (by decide +kernel), List.mem_of_getElem? (i := 812) (by decide +kernel), List.mem_of_getElem? (i := 813) (by decide +kernel)⟩
theorem lw_p50 : lw_okq (⟨"StencilWallModel", "isFit", "(I)Z"⟩, 16) := ⟨⟨by decide +kernel, by decide +kernel⟩, List.mem_of_getElem? (i := 618) (by decide +kernel), List.mem_of_getElem? (i := 837) (by decide +kernel), List.mem_of_getElem? (i := 838) (by decide +kernel)⟩
theorem lw_p51 : lw_okq (⟨"StencilWallModel", "printOf", "(I)I"⟩, 16) := ⟨⟨by decide +kernel, by decide +kernel⟩, List.mem_of_getElem? (i := 618) (by decide +kernel), List.mem_of_getElem? (i := 841) (by decide +kernel), List.mem_of_getElem? (i := 842) (by decide +kernel)⟩
def lw_privs_4 : List (MethodName × Nat) := [(⟨"StencilWallModel", "barOfEvenings", "()I"⟩, 16), (⟨"StencilWallModel", "wallOf", "(II)J"⟩, 16), (⟨"StencilWallModel", "isFit", "(I)Z"⟩, 16), (⟨"StencilWallModel", "printOf", "(I)I"⟩, 16)]
theorem lw_r4 : ∀ q ∈ lw_privs_4, lw_okq q := List.forall_mem_cons.mpr ⟨lw_p48, List.forall_mem_cons.mpr ⟨lw_p49, List.forall_mem_cons.mpr ⟨lw_p50, List.forall_mem_cons.mpr ⟨lw_p51, fun _ h => absurd h List.not_mem_nil⟩⟩⟩⟩
def lw_privs : List (MethodName × Nat) := lw_privs_1 ++ (lw_privs_2 ++ (lw_privs_3 ++ (lw_privs_4)))
def lw_tbl : List Cond := k2_sels lw_privs ++ tables_1
theorem lw_privs_ok : ∀ q ∈ lw_privs, lw_okq q := by
  show ∀ q ∈ lw_privs_1 ++ (lw_privs_2 ++ (lw_privs_3 ++ (lw_privs_4))), lw_okq q
  exact List.forall_mem_append.mpr ⟨lw_r1, List.forall_mem_append.mpr ⟨lw_r2, List.forall_mem_append.mpr ⟨lw_r3, lw_r4⟩⟩⟩
def RX0 : String := "StencilWall$Evening"
def TX0 : u_T := fun k => match k with
  | 0 => ("StencilWall$Evening", "acts", "I", false)
  | 1 => ("StencilWall$Evening", "stoppedAt", "I", false)
  | 2 => ("StencilWall$Evening", "reason", "I", false)
  | 3 => ("StencilWall$Evening", "mudAct", "I", false)
  | _ => ("StencilWall$Evening", "mudCell", "I", false)
def tyX0 : Nat → FieldType := fun k => match k with
  | 0 => .int
  | 1 => .int
  | 2 => .int
  | 3 => .int
  | _ => .int
abbrev wsX00 : List Cond := u_ws RX0 TX0 5
theorem nmX0 : ∀ a, a < 5 → ∀ b, b < 5 → a ≠ b → (TX0 a).2.1 ≠ (TX0 b).2.1 := by decide +kernel
theorem tyX0_ok : ∀ k, k < 5 → parseFieldDescriptor (TX0 k).2.2.1 = some (tyX0 k) := by decide +kernel
abbrev cX0_init : ByteArray := prog_2_method_1_code
def yX0_init : MethodName := ⟨RX0, "<init>", "()V"⟩
abbrev cX0_play : ByteArray := prog_2_method_2_code
def yX0_play : MethodName := ⟨RX0, "play", "(LStencilWall$Pad;LStencilWall$Scene;LStencilWall$Scene;)V"⟩
abbrev cX0_begin : ByteArray := prog_2_method_3_code
def yX0_begin : MethodName := ⟨RX0, "begin", "()V"⟩
def RX1 : String := "StencilWall$Falling"
def TX1 : u_T := fun k => match k with
  | _ => ("StencilWall$Falling", "ways", "[J", true)
def tyX1 : Nat → FieldType := fun k => match k with
  | _ => .array .long
abbrev wsX10 : List Cond := u_ws RX1 TX1 1
theorem nmX1 : ∀ a, a < 1 → ∀ b, b < 1 → a ≠ b → (TX1 a).2.1 ≠ (TX1 b).2.1 := by decide +kernel
theorem tyX1_ok : ∀ k, k < 1 → parseFieldDescriptor (TX1 k).2.2.1 = some (tyX1 k) := by decide +kernel
abbrev cX1_init : ByteArray := prog_3_method_1_code
def yX1_init : MethodName := ⟨RX1, "<init>", "()V"⟩
abbrev cX1_waysToHit : ByteArray := prog_3_method_2_code
def yX1_waysToHit : MethodName := ⟨RX1, "waysToHit", "(II)J"⟩
abbrev cX1_hitsInAllWays : ByteArray := prog_3_method_3_code
def yX1_hitsInAllWays : MethodName := ⟨RX1, "hitsInAllWays", "(I)J"⟩
abbrev cX1_power : ByteArray := prog_3_method_4_code
def yX1_power : MethodName := ⟨RX1, "power", "(II)J"⟩
abbrev cX1_partOf : ByteArray := prog_3_method_5_code
def yX1_partOf : MethodName := ⟨RX1, "partOf", "(JJI)J"⟩
def RX2 : String := "StencilWall$Fitting"
def TX2 : u_T := fun k => match k with
  | 0 => ("StencilWall$Fitting", "names", "[I", true)
  | 1 => ("StencilWall$Fitting", "holes", "[I", true)
  | _ => ("StencilWall$Fitting", "count", "I", false)
def tyX2 : Nat → FieldType := fun k => match k with
  | 0 => .array .int
  | 1 => .array .int
  | _ => .int
abbrev wsX20 : List Cond := u_ws RX2 TX2 3
theorem nmX2 : ∀ a, a < 3 → ∀ b, b < 3 → a ≠ b → (TX2 a).2.1 ≠ (TX2 b).2.1 := by decide +kernel
theorem tyX2_ok : ∀ k, k < 3 → parseFieldDescriptor (TX2 k).2.2.1 = some (tyX2 k) := by decide +kernel
abbrev cX2_init : ByteArray := prog_4_method_1_code
def yX2_init : MethodName := ⟨RX2, "<init>", "()V"⟩
abbrev cX2_gather : ByteArray := prog_4_method_2_code
def yX2_gather : MethodName := ⟨RX2, "gather", "(LStencilWall$Scene;)V"⟩
abbrev cX2_add : ByteArray := prog_4_method_3_code
def yX2_add : MethodName := ⟨RX2, "add", "(II)V"⟩
abbrev cX2_nameOf : ByteArray := prog_4_method_4_code
def yX2_nameOf : MethodName := ⟨RX2, "nameOf", "(I)I"⟩
abbrev cX2_bestToAsk : ByteArray := prog_4_method_5_code
def yX2_bestToAsk : MethodName := ⟨RX2, "bestToAsk", "()I"⟩
abbrev cX2_leftAtMost : ByteArray := prog_4_method_6_code
def yX2_leftAtMost : MethodName := ⟨RX2, "leftAtMost", "(I)I"⟩
def RX3 : String := "StencilWall$Orders"
def TX3 : u_T := fun k => match k with
  | 0 => ("StencilWall$Orders", "holes", "[J", true)
  | 1 => ("StencilWall$Orders", "wallAt", "[J", true)
  | 2 => ("StencilWall$Orders", "usedAt", "[I", true)
  | 3 => ("StencilWall$Orders", "orderAt", "[I", true)
  | 4 => ("StencilWall$Orders", "slots", "[J", true)
  | 5 => ("StencilWall$Orders", "count", "I", false)
  | 6 => ("StencilWall$Orders", "target", "J", false)
  | 7 => ("StencilWall$Orders", "walls", "I", false)
  | _ => ("StencilWall$Orders", "first", "I", false)
def tyX3 : Nat → FieldType := fun k => match k with
  | 0 => .array .long
  | 1 => .array .long
  | 2 => .array .int
  | 3 => .array .int
  | 4 => .array .long
  | 5 => .int
  | 6 => .long
  | 7 => .int
  | _ => .int
abbrev wsX30 : List Cond := u_ws RX3 TX3 9
theorem nmX3 : ∀ a, a < 9 → ∀ b, b < 9 → a ≠ b → (TX3 a).2.1 ≠ (TX3 b).2.1 := by decide +kernel
theorem tyX3_ok : ∀ k, k < 9 → parseFieldDescriptor (TX3 k).2.2.1 = some (tyX3 k) := by decide +kernel
abbrev cX3_init : ByteArray := prog_5_method_1_code
def yX3_init : MethodName := ⟨RX3, "<init>", "()V"⟩
abbrev cX3_tryAll : ByteArray := prog_5_method_2_code
def yX3_tryAll : MethodName := ⟨RX3, "tryAll", "(LStencilWall$Scene;)V"⟩
abbrev cX3_begin : ByteArray := prog_5_method_3_code
def yX3_begin : MethodName := ⟨RX3, "begin", "(LStencilWall$Scene;)V"⟩
abbrev cX3_spread : ByteArray := prog_5_method_4_code
def yX3_spread : MethodName := ⟨RX3, "spread", "(I)J"⟩
abbrev cX3_wallOf : ByteArray := prog_5_method_5_code
def yX3_wallOf : MethodName := ⟨RX3, "wallOf", "(LStencilWall$Scene;)J"⟩
abbrev cX3_add : ByteArray := prog_5_method_6_code
def yX3_add : MethodName := ⟨RX3, "add", "(JII)V"⟩
abbrev cX3_isNew : ByteArray := prog_5_method_7_code
def yX3_isNew : MethodName := ⟨RX3, "isNew", "(J)Z"⟩
abbrev cX3_cardsIn : ByteArray := prog_5_method_8_code
def yX3_cardsIn : MethodName := ⟨RX3, "cardsIn", "(I)I"⟩
def RX4 : String := "StencilWall$Pad"
def TX4 : u_T := fun k => match k with
  | 0 => ("StencilWall$Pad", "signs", "[I", true)
  | _ => ("StencilWall$Pad", "length", "I", false)
def tyX4 : Nat → FieldType := fun k => match k with
  | 0 => .array .int
  | _ => .int
abbrev wsX40 : List Cond := u_ws RX4 TX4 2
theorem nmX4 : ∀ a, a < 2 → ∀ b, b < 2 → a ≠ b → (TX4 a).2.1 ≠ (TX4 b).2.1 := by decide +kernel
theorem tyX4_ok : ∀ k, k < 2 → parseFieldDescriptor (TX4 k).2.2.1 = some (tyX4 k) := by decide +kernel
abbrev cX4_init : ByteArray := prog_6_method_1_code
def yX4_init : MethodName := ⟨RX4, "<init>", "()V"⟩
abbrev cX4_length : ByteArray := prog_6_method_2_code
def yX4_length : MethodName := ⟨RX4, "length", "()I"⟩
abbrev cX4_clear : ByteArray := prog_6_method_3_code
def yX4_clear : MethodName := ⟨RX4, "clear", "()V"⟩
abbrev cX4_add : ByteArray := prog_6_method_4_code
def yX4_add : MethodName := ⟨RX4, "add", "(I)Z"⟩
abbrev cX4_signAt : ByteArray := prog_6_method_5_code
def yX4_signAt : MethodName := ⟨RX4, "signAt", "(I)I"⟩
abbrev cX4_firstWrong : ByteArray := prog_6_method_6_code
def yX4_firstWrong : MethodName := ⟨RX4, "firstWrong", "()I"⟩
abbrev cX4_readingAfter : ByteArray := prog_6_method_7_code
def yX4_readingAfter : MethodName := ⟨RX4, "readingAfter", "(II)I"⟩
abbrev cX4_readingOfFirst : ByteArray := prog_6_method_8_code
def yX4_readingOfFirst : MethodName := ⟨RX4, "readingOfFirst", "(I)I"⟩
abbrev cX4_lengthOfAct : ByteArray := prog_6_method_9_code
def yX4_lengthOfAct : MethodName := ⟨RX4, "lengthOfAct", "(I)I"⟩
abbrev cX4_actAt : ByteArray := prog_6_method_10_code
def yX4_actAt : MethodName := ⟨RX4, "actAt", "(ILStencilWall$Scene;)I"⟩
def RX5 : String := "StencilWall$Scene"
def TX5 : u_T := fun k => match k with
  | 0 => ("StencilWall$Scene", "cellsByColour", "[I", true)
  | 1 => ("StencilWall$Scene", "holes", "[I", true)
  | 2 => ("StencilWall$Scene", "drops", "[I", true)
  | 3 => ("StencilWall$Scene", "wet", "I", false)
  | 4 => ("StencilWall$Scene", "hour", "I", false)
  | 5 => ("StencilWall$Scene", "sights", "I", false)
  | 6 => ("StencilWall$Scene", "seenUnderHoles", "I", false)
  | 7 => ("StencilWall$Scene", "seenUnderCard", "I", false)
  | 8 => ("StencilWall$Scene", "sprayed", "I", false)
  | _ => ("StencilWall$Scene", "muddied", "I", false)
def tyX5 : Nat → FieldType := fun k => match k with
  | 0 => .array .int
  | 1 => .array .int
  | 2 => .array .int
  | 3 => .int
  | 4 => .int
  | 5 => .int
  | 6 => .int
  | 7 => .int
  | 8 => .int
  | _ => .int
abbrev wsX50 : List Cond := u_ws RX5 TX5 10
theorem nmX5 : ∀ a, a < 10 → ∀ b, b < 10 → a ≠ b → (TX5 a).2.1 ≠ (TX5 b).2.1 := by decide +kernel
theorem tyX5_ok : ∀ k, k < 10 → parseFieldDescriptor (TX5 k).2.2.1 = some (tyX5 k) := by decide +kernel
abbrev cX5_init : ByteArray := prog_7_method_1_code
def yX5_init : MethodName := ⟨RX5, "<init>", "()V"⟩
abbrev cX5_copyFrom : ByteArray := prog_7_method_2_code
def yX5_copyFrom : MethodName := ⟨RX5, "copyFrom", "(LStencilWall$Scene;)V"⟩
abbrev cX5_cellsOf : ByteArray := prog_7_method_3_code
def yX5_cellsOf : MethodName := ⟨RX5, "cellsOf", "(I)I"⟩
abbrev cX5_countOf : ByteArray := prog_7_method_4_code
def yX5_countOf : MethodName := ⟨RX5, "countOf", "(I)I"⟩
abbrev cX5_colourOf : ByteArray := prog_7_method_5_code
def yX5_colourOf : MethodName := ⟨RX5, "colourOf", "(I)I"⟩
abbrev cX5_holesOf : ByteArray := prog_7_method_6_code
def yX5_holesOf : MethodName := ⟨RX5, "holesOf", "(I)I"⟩
abbrev cX5_holesOfAll : ByteArray := prog_7_method_7_code
def yX5_holesOfAll : MethodName := ⟨RX5, "holesOfAll", "(I)I"⟩
abbrev cX5_dropsOf : ByteArray := prog_7_method_8_code
def yX5_dropsOf : MethodName := ⟨RX5, "dropsOf", "(I)I"⟩
abbrev cX5_paint : ByteArray := prog_7_method_9_code
def yX5_paint : MethodName := ⟨RX5, "paint", "(II)V"⟩
abbrev cX5_wetten : ByteArray := prog_7_method_10_code
def yX5_wetten : MethodName := ⟨RX5, "wetten", "(IZ)V"⟩
abbrev cX5_cut : ByteArray := prog_7_method_11_code
def yX5_cut : MethodName := ⟨RX5, "cut", "(II)V"⟩
abbrev cX5_fill : ByteArray := prog_7_method_12_code
def yX5_fill : MethodName := ⟨RX5, "fill", "(II)V"⟩
abbrev cX5_see : ByteArray := prog_7_method_13_code
def yX5_see : MethodName := ⟨RX5, "see", "(IZ)V"⟩
abbrev cX5_unsee : ByteArray := prog_7_method_14_code
def yX5_unsee : MethodName := ⟨RX5, "unsee", "()V"⟩
abbrev cX5_agreesWith : ByteArray := prog_7_method_15_code
def yX5_agreesWith : MethodName := ⟨RX5, "agreesWith", "(I)Z"⟩
abbrev cX5_spray : ByteArray := prog_7_method_16_code
def yX5_spray : MethodName := ⟨RX5, "spray", "(III)I"⟩
abbrev cX5_turnOver : ByteArray := prog_7_method_17_code
def yX5_turnOver : MethodName := ⟨RX5, "turnOver", "(I)I"⟩
abbrev cX5_scrape : ByteArray := prog_7_method_18_code
def yX5_scrape : MethodName := ⟨RX5, "scrape", "(I)I"⟩
abbrev cX5_waitAnHour : ByteArray := prog_7_method_19_code
def yX5_waitAnHour : MethodName := ⟨RX5, "waitAnHour", "()I"⟩
def RX6 : String := "StencilWall$Shapes"
def TX6 : u_T := fun k => match k with
  | _ => ("", "", "", false)
def tyX6 : Nat → FieldType := fun k => match k with
  | _ => .int
abbrev wsX60 : List Cond := u_ws RX6 TX6 0
theorem nmX6 : ∀ a, a < 0 → ∀ b, b < 0 → a ≠ b → (TX6 a).2.1 ≠ (TX6 b).2.1 := by decide +kernel
theorem tyX6_ok : ∀ k, k < 0 → parseFieldDescriptor (TX6 k).2.2.1 = some (tyX6 k) := by decide +kernel
abbrev cX6_greatestPatch : ByteArray := prog_8_method_2_code
def yX6_greatestPatch : MethodName := ⟨RX6, "greatestPatch", "(LStencilWall$Scene;)I"⟩
abbrev cX6_patchFrom : ByteArray := prog_8_method_3_code
def yX6_patchFrom : MethodName := ⟨RX6, "patchFrom", "(II)I"⟩
abbrev cX6_beside : ByteArray := prog_8_method_4_code
def yX6_beside : MethodName := ⟨RX6, "beside", "(I)I"⟩
abbrev cX6_greatestBox : ByteArray := prog_8_method_5_code
def yX6_greatestBox : MethodName := ⟨RX6, "greatestBox", "(LStencilWall$Scene;)I"⟩
abbrev cX6_greatestBoxOf : ByteArray := prog_8_method_6_code
def yX6_greatestBoxOf : MethodName := ⟨RX6, "greatestBoxOf", "(ILStencilWall$Scene;)I"⟩
abbrev cX6_isOfOneColour : ByteArray := prog_8_method_7_code
def yX6_isOfOneColour : MethodName := ⟨RX6, "isOfOneColour", "(ILStencilWall$Scene;)Z"⟩
abbrev cX6_greater : ByteArray := prog_8_method_8_code
def yX6_greater : MethodName := ⟨RX6, "greater", "(II)I"⟩
def RX7 : String := "StencilWall$Stairs"
def TX7 : u_T := fun k => match k with
  | _ => ("", "", "", false)
def tyX7 : Nat → FieldType := fun k => match k with
  | _ => .int
abbrev wsX70 : List Cond := u_ws RX7 TX7 0
theorem nmX7 : ∀ a, a < 0 → ∀ b, b < 0 → a ≠ b → (TX7 a).2.1 ≠ (TX7 b).2.1 := by decide +kernel
theorem tyX7_ok : ∀ k, k < 0 → parseFieldDescriptor (TX7 k).2.2.1 = some (tyX7 k) := by decide +kernel
abbrev cX7_leastWinningMove : ByteArray := prog_9_method_2_code
def yX7_leastWinningMove : MethodName := ⟨RX7, "leastWinningMove", "(I)I"⟩
abbrev cX7_cansOn : ByteArray := prog_9_method_3_code
def yX7_cansOn : MethodName := ⟨RX7, "cansOn", "(II)I"⟩
abbrev cX7_oddBits : ByteArray := prog_9_method_4_code
def yX7_oddBits : MethodName := ⟨RX7, "oddBits", "(III)I"⟩
def RX8 : String := "StencilWall$Turns"
def TX8 : u_T := fun k => match k with
  | _ => ("", "", "", false)
def tyX8 : Nat → FieldType := fun k => match k with
  | _ => .int
abbrev wsX80 : List Cond := u_ws RX8 TX8 0
theorem nmX8 : ∀ a, a < 0 → ∀ b, b < 0 → a ≠ b → (TX8 a).2.1 ≠ (TX8 b).2.1 := by decide +kernel
theorem tyX8_ok : ∀ k, k < 0 → parseFieldDescriptor (TX8 k).2.2.1 = some (tyX8 k) := by decide +kernel
abbrev cX8_byQuarters : ByteArray := prog_10_method_2_code
def yX8_byQuarters : MethodName := ⟨RX8, "byQuarters", "(II)I"⟩
abbrev cX8_byOneQuarter : ByteArray := prog_10_method_3_code
def yX8_byOneQuarter : MethodName := ⟨RX8, "byOneQuarter", "(I)I"⟩
abbrev cX8_over : ByteArray := prog_10_method_4_code
def yX8_over : MethodName := ⟨RX8, "over", "(I)I"⟩
def RX9 : String := "StencilWall$Years"
def TX9 : u_T := fun k => match k with
  | _ => ("", "", "", false)
def tyX9 : Nat → FieldType := fun k => match k with
  | _ => .int
abbrev wsX90 : List Cond := u_ws RX9 TX9 0
theorem nmX9 : ∀ a, a < 0 → ∀ b, b < 0 → a ≠ b → (TX9 a).2.1 ≠ (TX9 b).2.1 := by decide +kernel
theorem tyX9_ok : ∀ k, k < 0 → parseFieldDescriptor (TX9 k).2.2.1 = some (tyX9 k) := by decide +kernel
abbrev cX9_play : ByteArray := prog_11_method_2_code
def yX9_play : MethodName := ⟨RX9, "play", "(LStencilWall$Scene;II)V"⟩
abbrev cX9_actOf : ByteArray := prog_11_method_3_code
def yX9_actOf : MethodName := ⟨RX9, "actOf", "(IILStencilWall$Scene;)V"⟩
def RX10 : String := "StencilWall"
def TX10 : u_T := fun k => match k with
  | 0 => ("StencilWall", "now", "LStencilWall$Scene;", true)
  | 1 => ("StencilWall", "trial", "LStencilWall$Scene;", true)
  | 2 => ("StencilWall", "firstImage", "LStencilWall$Scene;", true)
  | 3 => ("StencilWall", "secondImage", "LStencilWall$Scene;", true)
  | 4 => ("StencilWall", "firstKept", "Z", false)
  | 5 => ("StencilWall", "secondKept", "Z", false)
  | 6 => ("StencilWall", "pad", "LStencilWall$Pad;", true)
  | 7 => ("StencilWall", "evening", "LStencilWall$Evening;", true)
  | 8 => ("StencilWall", "orders", "LStencilWall$Orders;", true)
  | 9 => ("StencilWall", "fitting", "LStencilWall$Fitting;", true)
  | _ => ("StencilWall", "falling", "LStencilWall$Falling;", true)
def tyX10 : Nat → FieldType := fun k => match k with
  | 0 => .object "StencilWall$Scene"
  | 1 => .object "StencilWall$Scene"
  | 2 => .object "StencilWall$Scene"
  | 3 => .object "StencilWall$Scene"
  | 4 => .boolean
  | 5 => .boolean
  | 6 => .object "StencilWall$Pad"
  | 7 => .object "StencilWall$Evening"
  | 8 => .object "StencilWall$Orders"
  | 9 => .object "StencilWall$Fitting"
  | _ => .object "StencilWall$Falling"
abbrev wsX100 : List Cond := u_ws RX10 TX10 11
theorem nmX10 : ∀ a, a < 11 → ∀ b, b < 11 → a ≠ b → (TX10 a).2.1 ≠ (TX10 b).2.1 := by decide +kernel
theorem tyX10_ok : ∀ k, k < 11 → parseFieldDescriptor (TX10 k).2.2.1 = some (tyX10 k) := by decide +kernel
abbrev cX10_init : ByteArray := prog_1_method_1_code
def yX10_init : MethodName := ⟨RX10, "<init>", "()V"⟩
abbrev cX10_lay : ByteArray := prog_1_method_2_code
def yX10_lay : MethodName := ⟨RX10, "lay", "(III)I"⟩
abbrev cX10_card : ByteArray := prog_1_method_3_code
def yX10_card : MethodName := ⟨RX10, "card", "(II)I"⟩
abbrev cX10_can : ByteArray := prog_1_method_4_code
def yX10_can : MethodName := ⟨RX10, "can", "(II)I"⟩
abbrev cX10_say : ByteArray := prog_1_method_5_code
def yX10_say : MethodName := ⟨RX10, "say", "(I)I"⟩
abbrev cX10_wipe : ByteArray := prog_1_method_6_code
def yX10_wipe : MethodName := ⟨RX10, "wipe", "()I"⟩
abbrev cX10_fault : ByteArray := prog_1_method_7_code
def yX10_fault : MethodName := ⟨RX10, "fault", "()I"⟩
abbrev cX10_judge : ByteArray := prog_1_method_8_code
def yX10_judge : MethodName := ⟨RX10, "judge", "(I)I"⟩
abbrev cX10_done : ByteArray := prog_1_method_9_code
def yX10_done : MethodName := ⟨RX10, "done", "()I"⟩
abbrev cX10_behind : ByteArray := prog_1_method_10_code
def yX10_behind : MethodName := ⟨RX10, "behind", "(II)I"⟩
abbrev cX10_left : ByteArray := prog_1_method_11_code
def yX10_left : MethodName := ⟨RX10, "left", "(I)I"⟩
abbrev cX10_then : ByteArray := prog_1_method_12_code
def yX10_then : MethodName := ⟨RX10, "then", "(I)I"⟩
abbrev cX10_turned : ByteArray := prog_1_method_13_code
def yX10_turned : MethodName := ⟨RX10, "turned", "(II)I"⟩
abbrev cX10_patch : ByteArray := prog_1_method_14_code
def yX10_patch : MethodName := ⟨RX10, "patch", "(I)I"⟩
abbrev cX10_box : ByteArray := prog_1_method_15_code
def yX10_box : MethodName := ⟨RX10, "box", "(I)I"⟩
abbrev cX10_cover : ByteArray := prog_1_method_16_code
def yX10_cover : MethodName := ⟨RX10, "cover", "(II)I"⟩
abbrev cX10_pictures : ByteArray := prog_1_method_17_code
def yX10_pictures : MethodName := ⟨RX10, "pictures", "()I"⟩
abbrev cX10_made : ByteArray := prog_1_method_18_code
def yX10_made : MethodName := ⟨RX10, "made", "(I)I"⟩
abbrev cX10_seen : ByteArray := prog_1_method_19_code
def yX10_seen : MethodName := ⟨RX10, "seen", "(IZ)I"⟩
abbrev cX10_forget : ByteArray := prog_1_method_20_code
def yX10_forget : MethodName := ⟨RX10, "forget", "()I"⟩
abbrev cX10_prints : ByteArray := prog_1_method_21_code
def yX10_prints : MethodName := ⟨RX10, "prints", "(I)I"⟩
abbrev cX10_ask : ByteArray := prog_1_method_22_code
def yX10_ask : MethodName := ⟨RX10, "ask", "(I)I"⟩
abbrev cX10_steps : ByteArray := prog_1_method_23_code
def yX10_steps : MethodName := ⟨RX10, "steps", "(II)I"⟩
abbrev cX10_fall : ByteArray := prog_1_method_24_code
def yX10_fall : MethodName := ⟨RX10, "fall", "(IIII)J"⟩
abbrev cX10_year : ByteArray := prog_1_method_25_code
def yX10_year : MethodName := ⟨RX10, "year", "(III)I"⟩
abbrev cX10_image : ByteArray := prog_1_method_26_code
def yX10_image : MethodName := ⟨RX10, "image", "(I)I"⟩
abbrev cX10_restore : ByteArray := prog_1_method_27_code
def yX10_restore : MethodName := ⟨RX10, "restore", "(I)I"⟩
abbrev cX10_told : ByteArray := prog_1_method_28_code
def yX10_told : MethodName := ⟨RX10, "told", "(I)I"⟩
abbrev cX10_within : ByteArray := prog_1_method_29_code
def yX10_within : MethodName := ⟨RX10, "within", "(III)Z"⟩
abbrev cX10_isCell : ByteArray := prog_1_method_30_code
def yX10_isCell : MethodName := ⟨RX10, "isCell", "(I)Z"⟩
abbrev cX10_isCard : ByteArray := prog_1_method_31_code
def yX10_isCard : MethodName := ⟨RX10, "isCard", "(I)Z"⟩
abbrev cX10_isCan : ByteArray := prog_1_method_32_code
def yX10_isCan : MethodName := ⟨RX10, "isCan", "(I)Z"⟩
abbrev cX10_countOrSet : ByteArray := prog_1_method_33_code
def yX10_countOrSet : MethodName := ⟨RX10, "countOrSet", "(II)I"⟩
abbrev cX10_eveningCanBe : ByteArray := prog_1_method_34_code
def yX10_eveningCanBe : MethodName := ⟨RX10, "eveningCanBe", "()Z"⟩
abbrev cX10_fewestCards : ByteArray := prog_1_method_35_code
def yX10_fewestCards : MethodName := ⟨RX10, "fewestCards", "(I)I"⟩
def RX11 : String := "StencilWallModel"
def TX11 : u_T := fun k => match k with
  | 0 => ("StencilWallModel", "book", "[I", true)
  | 1 => ("StencilWallModel", "now", "[I", true)
  | 2 => ("StencilWallModel", "sights", "I", false)
  | 3 => ("StencilWallModel", "sight", "[I", true)
  | 4 => ("StencilWallModel", "signs", "I", false)
  | 5 => ("StencilWallModel", "pad", "[I", true)
  | 6 => ("StencilWallModel", "sprayed", "I", false)
  | 7 => ("StencilWallModel", "mudAt", "I", false)
  | 8 => ("StencilWallModel", "mudWhich", "I", false)
  | 9 => ("StencilWallModel", "reason", "I", false)
  | 10 => ("StencilWallModel", "acts", "I", false)
  | 11 => ("StencilWallModel", "walls", "[J", true)
  | 12 => ("StencilWallModel", "stands", "[I", true)
  | 13 => ("StencilWallModel", "ways", "[J", true)
  | 14 => ("StencilWallModel", "image", "[I", true)
  | _ => ("StencilWallModel", "isKept", "[Z", true)
def tyX11 : Nat → FieldType := fun k => match k with
  | 0 => .array .int
  | 1 => .array .int
  | 2 => .int
  | 3 => .array .int
  | 4 => .int
  | 5 => .array .int
  | 6 => .int
  | 7 => .int
  | 8 => .int
  | 9 => .int
  | 10 => .int
  | 11 => .array .long
  | 12 => .array .int
  | 13 => .array .long
  | 14 => .array .int
  | _ => .array .boolean
abbrev wsX110 : List Cond := u_ws RX11 TX11 16
theorem nmX11 : ∀ a, a < 16 → ∀ b, b < 16 → a ≠ b → (TX11 a).2.1 ≠ (TX11 b).2.1 := by decide +kernel
theorem tyX11_ok : ∀ k, k < 16 → parseFieldDescriptor (TX11 k).2.2.1 = some (tyX11 k) := by decide +kernel
abbrev cX11_init : ByteArray := prog_13_method_1_code
def yX11_init : MethodName := ⟨RX11, "<init>", "()V"⟩
abbrev cX11_in : ByteArray := prog_13_method_2_code
def yX11_in : MethodName := ⟨RX11, "in", "(III)Z"⟩
abbrev cX11_has : ByteArray := prog_13_method_3_code
def yX11_has : MethodName := ⟨RX11, "has", "(II)Z"⟩
abbrev cX11_bits : ByteArray := prog_13_method_4_code
def yX11_bits : MethodName := ⟨RX11, "bits", "(I)I"⟩
abbrev cX11_isCell : ByteArray := prog_13_method_5_code
def yX11_isCell : MethodName := ⟨RX11, "isCell", "(I)Z"⟩
abbrev cX11_isCard : ByteArray := prog_13_method_6_code
def yX11_isCard : MethodName := ⟨RX11, "isCard", "(I)Z"⟩
abbrev cX11_lay : ByteArray := prog_13_method_7_code
def yX11_lay : MethodName := ⟨RX11, "lay", "(III)I"⟩
abbrev cX11_card : ByteArray := prog_13_method_8_code
def yX11_card : MethodName := ⟨RX11, "card", "(II)I"⟩
abbrev cX11_can : ByteArray := prog_13_method_9_code
def yX11_can : MethodName := ⟨RX11, "can", "(II)I"⟩
abbrev cX11_say : ByteArray := prog_13_method_10_code
def yX11_say : MethodName := ⟨RX11, "say", "(I)I"⟩
abbrev cX11_wipe : ByteArray := prog_13_method_11_code
def yX11_wipe : MethodName := ⟨RX11, "wipe", "()I"⟩
abbrev cX11_step : ByteArray := prog_13_method_12_code
def yX11_step : MethodName := ⟨RX11, "step", "(II)I"⟩
abbrev cX11_faultOf : ByteArray := prog_13_method_13_code
def yX11_faultOf : MethodName := ⟨RX11, "faultOf", "()I"⟩
abbrev cX11_fault : ByteArray := prog_13_method_14_code
def yX11_fault : MethodName := ⟨RX11, "fault", "()I"⟩
abbrev cX11_quarter : ByteArray := prog_13_method_15_code
def yX11_quarter : MethodName := ⟨RX11, "quarter", "(I)I"⟩
abbrev cX11_over : ByteArray := prog_13_method_16_code
def yX11_over : MethodName := ⟨RX11, "over", "(I)I"⟩
abbrev cX11_quarters : ByteArray := prog_13_method_17_code
def yX11_quarters : MethodName := ⟨RX11, "quarters", "(II)I"⟩
abbrev cX11_turned : ByteArray := prog_13_method_18_code
def yX11_turned : MethodName := ⟨RX11, "turned", "(II)I"⟩
abbrev cX11_asNow : ByteArray := prog_13_method_19_code
def yX11_asNow : MethodName := ⟨RX11, "asNow", "()V"⟩
abbrev cX11_ones : ByteArray := prog_13_method_20_code
def yX11_ones : MethodName := ⟨RX11, "ones", "(I)I"⟩
abbrev cX11_spray : ByteArray := prog_13_method_21_code
def yX11_spray : MethodName := ⟨RX11, "spray", "(III)I"⟩
abbrev cX11_turnOver : ByteArray := prog_13_method_22_code
def yX11_turnOver : MethodName := ⟨RX11, "turnOver", "(I)I"⟩
abbrev cX11_scrape : ByteArray := prog_13_method_23_code
def yX11_scrape : MethodName := ⟨RX11, "scrape", "(I)I"⟩
abbrev cX11_endHour : ByteArray := prog_13_method_24_code
def yX11_endHour : MethodName := ⟨RX11, "endHour", "()I"⟩
abbrev cX11_oneAct : ByteArray := prog_13_method_25_code
def yX11_oneAct : MethodName := ⟨RX11, "oneAct", "(I)I"⟩
abbrev cX11_goEvenings : ByteArray := prog_13_method_26_code
def yX11_goEvenings : MethodName := ⟨RX11, "goEvenings", "()I"⟩
abbrev cX11_judge : ByteArray := prog_13_method_27_code
def yX11_judge : MethodName := ⟨RX11, "judge", "(I)I"⟩
abbrev cX11_barOfEvenings : ByteArray := prog_13_method_28_code
def yX11_barOfEvenings : MethodName := ⟨RX11, "barOfEvenings", "()I"⟩
abbrev cX11_done : ByteArray := prog_13_method_29_code
def yX11_done : MethodName := ⟨RX11, "done", "()I"⟩
abbrev cX11_behind : ByteArray := prog_13_method_30_code
def yX11_behind : MethodName := ⟨RX11, "behind", "(II)I"⟩
abbrev cX11_left : ByteArray := prog_13_method_31_code
def yX11_left : MethodName := ⟨RX11, "left", "(I)I"⟩
abbrev cX11_then : ByteArray := prog_13_method_32_code
def yX11_then : MethodName := ⟨RX11, "then", "(I)I"⟩
abbrev cX11_spread : ByteArray := prog_13_method_33_code
def yX11_spread : MethodName := ⟨RX11, "spread", "(II)I"⟩
abbrev cX11_patch : ByteArray := prog_13_method_34_code
def yX11_patch : MethodName := ⟨RX11, "patch", "(I)I"⟩
abbrev cX11_box : ByteArray := prog_13_method_35_code
def yX11_box : MethodName := ⟨RX11, "box", "(I)I"⟩
abbrev cX11_cover : ByteArray := prog_13_method_36_code
def yX11_cover : MethodName := ⟨RX11, "cover", "(II)I"⟩
abbrev cX11_wallOf : ByteArray := prog_13_method_37_code
def yX11_wallOf : MethodName := ⟨RX11, "wallOf", "(II)J"⟩
abbrev cX11_fives : ByteArray := prog_13_method_38_code
def yX11_fives : MethodName := ⟨RX11, "fives", "(I)I"⟩
abbrev cX11_pictures : ByteArray := prog_13_method_39_code
def yX11_pictures : MethodName := ⟨RX11, "pictures", "()I"⟩
abbrev cX11_made : ByteArray := prog_13_method_40_code
def yX11_made : MethodName := ⟨RX11, "made", "(I)I"⟩
abbrev cX11_orderOf : ByteArray := prog_13_method_41_code
def yX11_orderOf : MethodName := ⟨RX11, "orderOf", "(II)I"⟩
abbrev cX11_seen : ByteArray := prog_13_method_42_code
def yX11_seen : MethodName := ⟨RX11, "seen", "(IZ)I"⟩
abbrev cX11_forget : ByteArray := prog_13_method_43_code
def yX11_forget : MethodName := ⟨RX11, "forget", "()I"⟩
abbrev cX11_printOf : ByteArray := prog_13_method_44_code
def yX11_printOf : MethodName := ⟨RX11, "printOf", "(I)I"⟩
abbrev cX11_isFit : ByteArray := prog_13_method_45_code
def yX11_isFit : MethodName := ⟨RX11, "isFit", "(I)Z"⟩
abbrev cX11_prints : ByteArray := prog_13_method_46_code
def yX11_prints : MethodName := ⟨RX11, "prints", "(I)I"⟩
abbrev cX11_ask : ByteArray := prog_13_method_47_code
def yX11_ask : MethodName := ⟨RX11, "ask", "(I)I"⟩
abbrev cX11_steps : ByteArray := prog_13_method_48_code
def yX11_steps : MethodName := ⟨RX11, "steps", "(II)I"⟩
abbrev cX11_fall : ByteArray := prog_13_method_49_code
def yX11_fall : MethodName := ⟨RX11, "fall", "(IIII)J"⟩
abbrev cX11_year : ByteArray := prog_13_method_50_code
def yX11_year : MethodName := ⟨RX11, "year", "(III)I"⟩
abbrev cX11_image : ByteArray := prog_13_method_51_code
def yX11_image : MethodName := ⟨RX11, "image", "(I)I"⟩
abbrev cX11_restore : ByteArray := prog_13_method_52_code
def yX11_restore : MethodName := ⟨RX11, "restore", "(I)I"⟩
abbrev cX11_told : ByteArray := prog_13_method_53_code
def yX11_told : MethodName := ⟨RX11, "told", "(I)I"⟩
def RJ6 : String := "java/lang/Integer"
def TJ6 : u_T := fun k => match k with
  | _ => ("", "", "", false)
def tyJ6 : Nat → FieldType := fun k => match k with
  | _ => .int
abbrev wsJ60 : List Cond := u_ws RJ6 TJ6 0
theorem nmJ6 : ∀ a, a < 0 → ∀ b, b < 0 → a ≠ b → (TJ6 a).2.1 ≠ (TJ6 b).2.1 := by decide +kernel
theorem tyJ6_ok : ∀ k, k < 0 → parseFieldDescriptor (TJ6 k).2.2.1 = some (tyJ6 k) := by decide +kernel
abbrev cJ6_numberOfTrailingZeros_0f7a4 : ByteArray := prog_14_method_48_code
def yJ6_numberOfTrailingZeros_0f7a4 : MethodName := ⟨RJ6, "numberOfTrailingZeros", "(I)I"⟩
abbrev cJ6_bitCount_0f7a4 : ByteArray := prog_14_method_49_code
def yJ6_bitCount_0f7a4 : MethodName := ⟨RJ6, "bitCount", "(I)I"⟩
def RJ9 : String := "java/lang/Math"
def TJ9 : u_T := fun k => match k with
  | _ => ("", "", "", false)
def tyJ9 : Nat → FieldType := fun k => match k with
  | _ => .int
abbrev wsJ90 : List Cond := u_ws RJ9 TJ9 0
theorem nmJ9 : ∀ a, a < 0 → ∀ b, b < 0 → a ≠ b → (TJ9 a).2.1 ≠ (TJ9 b).2.1 := by decide +kernel
theorem tyJ9_ok : ∀ k, k < 0 → parseFieldDescriptor (TJ9 k).2.2.1 = some (tyJ9 k) := by decide +kernel
abbrev cJ9_max_7cf53 : ByteArray := prog_15_method_65_code
def yJ9_max_7cf53 : MethodName := ⟨RJ9, "max", "(II)I"⟩
abbrev cJ9_min_7cf53 : ByteArray := prog_15_method_69_code
def yJ9_min_7cf53 : MethodName := ⟨RJ9, "min", "(II)I"⟩
def RJ10 : String := "java/lang/System"
def TJ10 : u_T := fun k => match k with
  | _ => ("", "", "", false)
def tyJ10 : Nat → FieldType := fun k => match k with
  | _ => .int
abbrev wsJ100 : List Cond := u_ws RJ10 TJ10 0
theorem nmJ10 : ∀ a, a < 0 → ∀ b, b < 0 → a ≠ b → (TJ10 a).2.1 ≠ (TJ10 b).2.1 := by decide +kernel
theorem tyJ10_ok : ∀ k, k < 0 → parseFieldDescriptor (TJ10 k).2.2.1 = some (tyJ10 k) := by decide +kernel
def RJ7 : String := "java/util/Arrays"
def TJ7 : u_T := fun k => match k with
  | _ => ("", "", "", false)
def tyJ7 : Nat → FieldType := fun k => match k with
  | _ => .int
abbrev wsJ70 : List Cond := u_ws RJ7 TJ7 0
theorem nmJ7 : ∀ a, a < 0 → ∀ b, b < 0 → a ≠ b → (TJ7 a).2.1 ≠ (TJ7 b).2.1 := by decide +kernel
theorem tyJ7_ok : ∀ k, k < 0 → parseFieldDescriptor (TJ7 k).2.2.1 = some (tyJ7 k) := by decide +kernel
abbrev cJ7_fill_d0a16 : ByteArray := prog_17_method_101_code
def yJ7_fill_d0a16 : MethodName := ⟨RJ7, "fill", "([JJ)V"⟩
abbrev cJ7_fill_53178 : ByteArray := prog_17_method_103_code
def yJ7_fill_53178 : MethodName := ⟨RJ7, "fill", "([II)V"⟩
def RL : String := "StencilWallLaw"
abbrev cL_law : ByteArray := code
def yL_law : MethodName := ⟨RL, "law", "([I)Z"⟩
abbrev vwCl : List vw_C := [(RX0, TX0, 5), (RX1, TX1, 1), (RX2, TX2, 3), (RX3, TX3, 9), (RX4, TX4, 2), (RX5, TX5, 10), (RX10, TX10, 11), (RX11, TX11, 16)]
def pj_cn : Nat → String := fun k => match k with
  | 0 => RX0
  | 1 => RX1
  | 2 => RX2
  | 3 => RX3
  | 4 => RX4
  | 5 => RX5
  | 6 => RX6
  | 7 => RX7
  | 8 => RX8
  | 9 => RX9
  | 10 => RX10
  | 11 => RX11
  | 12 => RL
  | 13 => RJ6
  | _ => RJ7
def pj_ty : Nat → Nat → FieldType := fun k => match k with
  | 0 => tyX0
  | 1 => tyX1
  | 2 => tyX2
  | 3 => tyX3
  | 4 => tyX4
  | 5 => tyX5
  | 6 => tyX10
  | _ => tyX11
def pj_r0 : List (Nat × Instr × Nat) := [(0, .aload_n 0, 1), (1, .invokespecial 3, 3), (4, .return_, 1)]
def pj_r1 : List (Nat × Instr × Nat) := [(0, .aload_n 0, 1), (1, .invokevirtual 9, 3), (4, .aload_n 3, 1), (5, .aload_n 2, 1), (6, .invokevirtual 14, 3), (9, .iconst 0, 1), (10, .istore 4, 2), (12, .iconst 0, 1), (13, .istore 5, 2), (15, .iload 5, 2), (17, .bipush 60, 2), (19, .if_icmp .ge 99, 3), (22, .iload 4, 2), (24, .aload_n 1, 1), (25, .invokevirtual 22, 3), (28, .if_icmp .ge 90, 3), (31, .aload_n 1, 1), (32, .iload 4, 2), (34, .aload_n 3, 1), (35, .invokevirtual 26, 3), (38, .istore 6, 2), (40, .iload 6, 2), (42, .ifCond .eq 16, 3), (45, .aload_n 0, 1), (46, .iload 5, 2), (48, .putfield 30, 3), (51, .aload_n 0, 1), (52, .iload 6, 2), (54, .putfield 34, 3), (57, .return_, 1), (58, .aload_n 0, 1), (59, .getfield 37, 3), (62, .bipush (-6), 2), (64, .if_icmp .ne 27, 3), (67, .aload_n 3, 1), (68, .getfield 40, 3), (71, .ifCond .eq 20, 3), (74, .aload_n 0, 1), (75, .iload 5, 2), (77, .putfield 37, 3), (80, .aload_n 0, 1), (81, .aload_n 3, 1), (82, .getfield 40, 3), (85, .invokestatic 43, 3), (88, .putfield 49, 3), (91, .aload_n 0, 1), (92, .dup, 1), (93, .getfield 52, 3), (96, .iconst 1, 1), (97, .iadd, 1), (98, .putfield 52, 3), (101, .iload 4, 2), (103, .aload_n 1, 1), (104, .iload 4, 2), (106, .invokevirtual 55, 3), (109, .iadd, 1), (110, .istore 4, 2), (112, .iinc 5 1, 3), (115, .goto (-100), 3), (118, .return_, 1)]
def pj_r2 : List (Nat × Instr × Nat) := [(0, .aload_n 0, 1), (1, .iconst 0, 1), (2, .putfield 52, 3), (5, .aload_n 0, 1), (6, .bipush (-6), 2), (8, .putfield 30, 3), (11, .aload_n 0, 1), (12, .bipush (-6), 2), (14, .putfield 34, 3), (17, .aload_n 0, 1), (18, .bipush (-6), 2), (20, .putfield 37, 3), (23, .aload_n 0, 1), (24, .bipush (-6), 2), (26, .putfield 49, 3), (29, .return_, 1)]
def pj_r3 : List (Nat × Instr × Nat) := [(0, .aload_n 0, 1), (1, .invokespecial 3, 3), (4, .aload_n 0, 1), (5, .bipush 17, 2), (7, .newarray .long, 2), (9, .putfield 9, 3), (12, .return_, 1)]
def pj_r4 : List (Nat × Instr × Nat) := [(0, .aload_n 0, 1), (1, .getfield 9, 3), (4, .lconst 0, 1), (5, .invokestatic 15, 3), (8, .aload_n 0, 1), (9, .getfield 9, 3), (12, .iconst 0, 1), (13, .lconst 1, 1), (14, .lastore, 1), (15, .iconst 0, 1), (16, .istore_n 3, 1), (17, .iload_n 3, 1), (18, .iload_n 1, 1), (19, .if_icmp .ge 68, 3), (22, .bipush 16, 2), (24, .istore 4, 2), (26, .iload 4, 2), (28, .ifCond .le 46, 3), (31, .aload_n 0, 1), (32, .getfield 9, 3), (35, .iload 4, 2), (37, .aload_n 0, 1), (38, .getfield 9, 3), (41, .iload 4, 2), (43, .laload, 1), (44, .iload 4, 2), (46, .i2l, 1), (47, .lmul, 1), (48, .aload_n 0, 1), (49, .getfield 9, 3), (52, .iload 4, 2), (54, .iconst 1, 1), (55, .isub, 1), (56, .laload, 1), (57, .bipush 16, 2), (59, .iload 4, 2), (61, .isub, 1), (62, .iconst 1, 1), (63, .iadd, 1), (64, .i2l, 1), (65, .lmul, 1), (66, .ladd, 1), (67, .lastore, 1), (68, .iinc 4 (-1), 3), (71, .goto (-45), 3), (74, .aload_n 0, 1), (75, .getfield 9, 3), (78, .iconst 0, 1), (79, .lconst 0, 1), (80, .lastore, 1), (81, .iinc 3 1, 3), (84, .goto (-67), 3), (87, .iload_n 2, 1), (88, .ifCond .lt 18, 3), (91, .iload_n 2, 1), (92, .bipush 16, 2), (94, .if_icmp .gt 12, 3), (97, .aload_n 0, 1), (98, .getfield 9, 3), (101, .iload_n 2, 1), (102, .laload, 1), (103, .goto 4, 3), (106, .lconst 0, 1), (107, .lreturn, 1)]
def pj_r5 : List (Nat × Instr × Nat) := [(0, .ldc2_w 21, 3), (3, .bipush 16, 2), (5, .iload_n 0, 1), (6, .invokestatic 23, 3), (9, .bipush 15, 2), (11, .iload_n 0, 1), (12, .invokestatic 23, 3), (15, .lsub, 1), (16, .lmul, 1), (17, .lreturn, 1)]
def pj_r6 : List (Nat × Instr × Nat) := [(0, .lconst 1, 1), (1, .lstore_n 2, 1), (2, .iconst 0, 1), (3, .istore 4, 2), (5, .iload 4, 2), (7, .iload_n 1, 1), (8, .if_icmp .ge 14, 3), (11, .lload_n 2, 1), (12, .iload_n 0, 1), (13, .i2l, 1), (14, .lmul, 1), (15, .lstore_n 2, 1), (16, .iinc 4 1, 3), (19, .goto (-14), 3), (22, .lload_n 2, 1), (23, .lreturn, 1)]
def pj_r7 : List (Nat × Instr × Nat) := [(0, .lload_n 0, 1), (1, .lstore 5, 2), (3, .lload_n 2, 1), (4, .lstore 7, 2), (6, .iconst 0, 1), (7, .istore 9, 2), (9, .iload 9, 2), (11, .bipush 40, 2), (13, .if_icmp .ge 41, 3), (16, .lload 5, 2), (18, .lconst 1, 1), (19, .land, 1), (20, .lconst 0, 1), (21, .lcmp, 1), (22, .ifCond .ne 32, 3), (25, .lload 7, 2), (27, .lconst 1, 1), (28, .lcmp, 1), (29, .ifCond .le 25, 3), (32, .lload 5, 2), (34, .ldc2_w 27, 3), (37, .ldiv, 1), (38, .lstore 5, 2), (40, .lload 7, 2), (42, .ldc2_w 27, 3), (45, .ldiv, 1), (46, .lstore 7, 2), (48, .iinc 9 1, 3), (51, .goto (-42), 3), (54, .iload 4, 2), (56, .ifCond .ne 8, 3), (59, .lload 5, 2), (61, .goto 5, 3), (64, .lload 7, 2), (66, .lreturn, 1)]
def pj_r8 : List (Nat × Instr × Nat) := [(0, .aload_n 0, 1), (1, .invokespecial 3, 3), (4, .aload_n 0, 1), (5, .bipush 32, 2), (7, .newarray .int, 2), (9, .putfield 11, 3), (12, .aload_n 0, 1), (13, .bipush 32, 2), (15, .newarray .int, 2), (17, .putfield 15, 3), (20, .return_, 1)]
def pj_r9 : List (Nat × Instr × Nat) := [(0, .aload_n 0, 1), (1, .iconst 0, 1), (2, .putfield 18, 3), (5, .iconst 0, 1), (6, .istore_n 2, 1), (7, .iload_n 2, 1), (8, .bipush 8, 2), (10, .if_icmp .ge 55, 3), (13, .aload_n 1, 1), (14, .iload_n 2, 1), (15, .invokevirtual 22, 3), (18, .istore_n 3, 1), (19, .iconst 0, 1), (20, .istore 4, 2), (22, .iload 4, 2), (24, .iconst 4, 1), (25, .if_icmp .ge 34, 3), (28, .aload_n 1, 1), (29, .iload_n 3, 1), (30, .invokevirtual 28, 3), (33, .ifCond .eq 15, 3), (36, .aload_n 0, 1), (37, .bipush 10, 2), (39, .iload_n 2, 1), (40, .imul, 1), (41, .iload 4, 2), (43, .iadd, 1), (44, .iload_n 3, 1), (45, .invokevirtual 32, 3), (48, .iload_n 3, 1), (49, .invokestatic 36, 3), (52, .istore_n 3, 1), (53, .iinc 4 1, 3), (56, .goto (-34), 3), (59, .iinc 2 1, 3), (62, .goto (-55), 3), (65, .return_, 1)]
def pj_r10 : List (Nat × Instr × Nat) := [(0, .aload_n 0, 1), (1, .getfield 18, 3), (4, .ifCond .lt 42, 3), (7, .aload_n 0, 1), (8, .getfield 18, 3), (11, .bipush 32, 2), (13, .if_icmp .ge 33, 3), (16, .aload_n 0, 1), (17, .getfield 11, 3), (20, .aload_n 0, 1), (21, .getfield 18, 3), (24, .iload_n 1, 1), (25, .iastore, 1), (26, .aload_n 0, 1), (27, .getfield 15, 3), (30, .aload_n 0, 1), (31, .getfield 18, 3), (34, .iload_n 2, 1), (35, .iastore, 1), (36, .aload_n 0, 1), (37, .dup, 1), (38, .getfield 18, 3), (41, .iconst 1, 1), (42, .iadd, 1), (43, .putfield 18, 3), (46, .return_, 1)]
def pj_r11 : List (Nat × Instr × Nat) := [(0, .iload_n 1, 1), (1, .ifCond .lt 26, 3), (4, .iload_n 1, 1), (5, .aload_n 0, 1), (6, .getfield 18, 3), (9, .if_icmp .ge 18, 3), (12, .iload_n 1, 1), (13, .bipush 32, 2), (15, .if_icmp .ge 12, 3), (18, .aload_n 0, 1), (19, .getfield 11, 3), (22, .iload_n 1, 1), (23, .iaload, 1), (24, .goto 5, 3), (27, .bipush (-6), 2), (29, .ireturn, 1)]
def pj_r12 : List (Nat × Instr × Nat) := [(0, .iconst 0, 1), (1, .istore_n 1, 1), (2, .iconst 1, 1), (3, .istore_n 2, 1), (4, .iload_n 2, 1), (5, .bipush 16, 2), (7, .if_icmp .ge 24, 3), (10, .aload_n 0, 1), (11, .iload_n 2, 1), (12, .invokevirtual 41, 3), (15, .aload_n 0, 1), (16, .iload_n 1, 1), (17, .invokevirtual 41, 3), (20, .if_icmp .ge 5, 3), (23, .iload_n 2, 1), (24, .istore_n 1, 1), (25, .iinc 2 1, 3), (28, .goto (-24), 3), (31, .iload_n 1, 1), (32, .ireturn, 1)]
def pj_r13 : List (Nat × Instr × Nat) := [(0, .iconst 0, 1), (1, .istore_n 2, 1), (2, .iconst 0, 1), (3, .istore_n 3, 1), (4, .iload_n 3, 1), (5, .aload_n 0, 1), (6, .getfield 18, 3), (9, .if_icmp .ge 28, 3), (12, .iload_n 3, 1), (13, .bipush 32, 2), (15, .if_icmp .ge 22, 3), (18, .iload_n 2, 1), (19, .aload_n 0, 1), (20, .getfield 15, 3), (23, .iload_n 3, 1), (24, .iaload, 1), (25, .iload_n 1, 1), (26, .ishr, 1), (27, .iconst 1, 1), (28, .iand, 1), (29, .iadd, 1), (30, .istore_n 2, 1), (31, .iinc 3 1, 3), (34, .goto (-30), 3), (37, .iload_n 2, 1), (38, .aload_n 0, 1), (39, .getfield 18, 3), (42, .iload_n 2, 1), (43, .isub, 1), (44, .invokestatic 44, 3), (47, .ireturn, 1)]
def pj_r14 : List (Nat × Instr × Nat) := [(0, .aload_n 0, 1), (1, .invokespecial 3, 3), (4, .aload_n 0, 1), (5, .iconst 5, 1), (6, .newarray .long, 2), (8, .putfield 11, 3), (11, .aload_n 0, 1), (12, .sipush 326, 3), (15, .newarray .long, 2), (17, .putfield 15, 3), (20, .aload_n 0, 1), (21, .sipush 326, 3), (24, .newarray .int, 2), (26, .putfield 18, 3), (29, .aload_n 0, 1), (30, .sipush 326, 3), (33, .newarray .int, 2), (35, .putfield 22, 3), (38, .aload_n 0, 1), (39, .sipush 512, 3), (42, .newarray .long, 2), (44, .putfield 25, 3), (47, .return_, 1)]
def pj_r15 : List (Nat × Instr × Nat) := [(0, .aload_n 0, 1), (1, .aload_n 1, 1), (2, .invokevirtual 28, 3), (5, .iconst 0, 1), (6, .istore_n 2, 1), (7, .iload_n 2, 1), (8, .aload_n 0, 1), (9, .getfield 32, 3), (12, .if_icmp .ge 108, 3), (15, .iload_n 2, 1), (16, .sipush 326, 3), (19, .if_icmp .ge 101, 3), (22, .iconst 0, 1), (23, .istore_n 3, 1), (24, .iload_n 3, 1), (25, .iconst 5, 1), (26, .if_icmp .ge 88, 3), (29, .aload_n 0, 1), (30, .getfield 18, 3), (33, .iload_n 2, 1), (34, .iaload, 1), (35, .iload_n 3, 1), (36, .ishr, 1), (37, .iconst 1, 1), (38, .iand, 1), (39, .ifCond .ne 69, 3), (42, .aload_n 0, 1), (43, .getfield 15, 3), (46, .iload_n 2, 1), (47, .laload, 1), (48, .ldc2_w 36, 3), (51, .aload_n 0, 1), (52, .getfield 11, 3), (55, .iload_n 3, 1), (56, .laload, 1), (57, .lmul, 1), (58, .ldc2_w 38, 3), (61, .lxor, 1), (62, .land, 1), (63, .lstore 4, 2), (65, .lload 4, 2), (67, .iload_n 3, 1), (68, .iconst 1, 1), (69, .iadd, 1), (70, .i2l, 1), (71, .aload_n 0, 1), (72, .getfield 11, 3), (75, .iload_n 3, 1), (76, .laload, 1), (77, .lmul, 1), (78, .lor, 1), (79, .lstore 6, 2), (81, .aload_n 0, 1), (82, .lload 6, 2), (84, .aload_n 0, 1), (85, .getfield 18, 3), (88, .iload_n 2, 1), (89, .iaload, 1), (90, .iconst 1, 1), (91, .iload_n 3, 1), (92, .ishl, 1), (93, .ior, 1), (94, .bipush 10, 2), (96, .aload_n 0, 1), (97, .getfield 22, 3), (100, .iload_n 2, 1), (101, .iaload, 1), (102, .imul, 1), (103, .iload_n 3, 1), (104, .iadd, 1), (105, .invokevirtual 40, 3), (108, .iinc 3 1, 3), (111, .goto (-87), 3), (114, .iinc 2 1, 3), (117, .goto (-110), 3), (120, .return_, 1)]
def pj_r16 : List (Nat × Instr × Nat) := [(0, .iconst 0, 1), (1, .istore_n 2, 1), (2, .iload_n 2, 1), (3, .iconst 5, 1), (4, .if_icmp .ge 23, 3), (7, .aload_n 0, 1), (8, .getfield 11, 3), (11, .iload_n 2, 1), (12, .aload_n 1, 1), (13, .iload_n 2, 1), (14, .invokevirtual 44, 3), (17, .invokestatic 50, 3), (20, .lastore, 1), (21, .iinc 2 1, 3), (24, .goto (-22), 3), (27, .aload_n 0, 1), (28, .aload_n 1, 1), (29, .invokestatic 54, 3), (32, .putfield 58, 3), (35, .aload_n 0, 1), (36, .getfield 25, 3), (39, .ldc2_w 38, 3), (42, .invokestatic 62, 3), (45, .aload_n 0, 1), (46, .iconst 0, 1), (47, .putfield 32, 3), (50, .aload_n 0, 1), (51, .iconst 0, 1), (52, .putfield 68, 3), (55, .aload_n 0, 1), (56, .bipush (-6), 2), (58, .putfield 71, 3), (61, .aload_n 0, 1), (62, .lconst 0, 1), (63, .iconst 0, 1), (64, .iconst 1, 1), (65, .invokevirtual 40, 3), (68, .return_, 1)]
def pj_r17 : List (Nat × Instr × Nat) := [(0, .lconst 0, 1), (1, .lstore_n 1, 1), (2, .iconst 0, 1), (3, .istore_n 3, 1), (4, .iload_n 3, 1), (5, .bipush 16, 2), (7, .if_icmp .ge 22, 3), (10, .lload_n 1, 1), (11, .iload_n 0, 1), (12, .iload_n 3, 1), (13, .ishr, 1), (14, .iconst 1, 1), (15, .iand, 1), (16, .i2l, 1), (17, .iconst 4, 1), (18, .iload_n 3, 1), (19, .imul, 1), (20, .lshl, 1), (21, .lor, 1), (22, .lstore_n 1, 1), (23, .iinc 3 1, 3), (26, .goto (-22), 3), (29, .lload_n 1, 1), (30, .lreturn, 1)]
def pj_r18 : List (Nat × Instr × Nat) := [(0, .lconst 0, 1), (1, .lstore_n 1, 1), (2, .iconst 1, 1), (3, .istore_n 3, 1), (4, .iload_n 3, 1), (5, .bipush 6, 2), (7, .if_icmp .gt 23, 3), (10, .lload_n 1, 1), (11, .iload_n 3, 1), (12, .i2l, 1), (13, .aload_n 0, 1), (14, .iload_n 3, 1), (15, .invokevirtual 74, 3), (18, .invokestatic 50, 3), (21, .lmul, 1), (22, .lor, 1), (23, .lstore_n 1, 1), (24, .iinc 3 1, 3), (27, .goto (-23), 3), (30, .lload_n 1, 1), (31, .lreturn, 1)]
def pj_r19 : List (Nat × Instr × Nat) := [(0, .aload_n 0, 1), (1, .getfield 32, 3), (4, .ifCond .lt 13, 3), (7, .aload_n 0, 1), (8, .getfield 32, 3), (11, .sipush 326, 3), (14, .if_icmp .lt 4, 3), (17, .return_, 1), (18, .aload_n 0, 1), (19, .getfield 15, 3), (22, .aload_n 0, 1), (23, .getfield 32, 3), (26, .lload_n 1, 1), (27, .lastore, 1), (28, .aload_n 0, 1), (29, .getfield 18, 3), (32, .aload_n 0, 1), (33, .getfield 32, 3), (36, .iload_n 3, 1), (37, .iastore, 1), (38, .aload_n 0, 1), (39, .getfield 22, 3), (42, .aload_n 0, 1), (43, .getfield 32, 3), (46, .iload 4, 2), (48, .iastore, 1), (49, .aload_n 0, 1), (50, .dup, 1), (51, .getfield 32, 3), (54, .iconst 1, 1), (55, .iadd, 1), (56, .putfield 32, 3), (59, .aload_n 0, 1), (60, .getfield 71, 3), (63, .bipush (-6), 2), (65, .if_icmp .ne 18, 3), (68, .lload_n 1, 1), (69, .aload_n 0, 1), (70, .getfield 58, 3), (73, .lcmp, 1), (74, .ifCond .ne 9, 3), (77, .aload_n 0, 1), (78, .iload 4, 2), (80, .putfield 71, 3), (83, .aload_n 0, 1), (84, .lload_n 1, 1), (85, .invokevirtual 77, 3), (88, .ifCond .eq 13, 3), (91, .aload_n 0, 1), (92, .dup, 1), (93, .getfield 68, 3), (96, .iconst 1, 1), (97, .iadd, 1), (98, .putfield 68, 3), (101, .return_, 1)]
def pj_r20 : List (Nat × Instr × Nat) := [(0, .lload_n 1, 1), (1, .ldc2_w 81, 3), (4, .lmul, 1), (5, .bipush 55, 2), (7, .lushr, 1), (8, .l2i, 1), (9, .istore_n 3, 1), (10, .iconst 0, 1), (11, .istore 4, 2), (13, .iload 4, 2), (15, .sipush 512, 3), (18, .if_icmp .ge 57, 3), (21, .iload_n 3, 1), (22, .iload 4, 2), (24, .iadd, 1), (25, .sipush 511, 3), (28, .iand, 1), (29, .istore 5, 2), (31, .aload_n 0, 1), (32, .getfield 25, 3), (35, .iload 5, 2), (37, .laload, 1), (38, .lload_n 1, 1), (39, .lcmp, 1), (40, .ifCond .ne 5, 3), (43, .iconst 0, 1), (44, .ireturn, 1), (45, .aload_n 0, 1), (46, .getfield 25, 3), (49, .iload 5, 2), (51, .laload, 1), (52, .ldc2_w 38, 3), (55, .lcmp, 1), (56, .ifCond .ne 13, 3), (59, .aload_n 0, 1), (60, .getfield 25, 3), (63, .iload 5, 2), (65, .lload_n 1, 1), (66, .lastore, 1), (67, .iconst 1, 1), (68, .ireturn, 1), (69, .iinc 4 1, 3), (72, .goto (-59), 3), (75, .iconst 0, 1), (76, .ireturn, 1)]
def pj_r21 : List (Nat × Instr × Nat) := [(0, .iconst 0, 1), (1, .istore_n 1, 1), (2, .iload_n 0, 1), (3, .bipush 10, 2), (5, .idiv, 1), (6, .istore_n 2, 1), (7, .iconst 0, 1), (8, .istore_n 3, 1), (9, .iload_n 3, 1), (10, .iconst 5, 1), (11, .if_icmp .ge 21, 3), (14, .iload_n 2, 1), (15, .ifCond .le 17, 3), (18, .iinc 1 1, 3), (21, .iload_n 2, 1), (22, .bipush 10, 2), (24, .idiv, 1), (25, .istore_n 2, 1), (26, .iinc 3 1, 3), (29, .goto (-20), 3), (32, .iload_n 1, 1), (33, .ireturn, 1)]
def pj_r22 : List (Nat × Instr × Nat) := [(0, .aload_n 0, 1), (1, .invokespecial 3, 3), (4, .aload_n 0, 1), (5, .bipush 60, 2), (7, .newarray .int, 2), (9, .putfield 11, 3), (12, .return_, 1)]
def pj_r23 : List (Nat × Instr × Nat) := [(0, .aload_n 0, 1), (1, .getfield 15, 3), (4, .ireturn, 1)]
def pj_r24 : List (Nat × Instr × Nat) := [(0, .aload_n 0, 1), (1, .iconst 0, 1), (2, .putfield 15, 3), (5, .return_, 1)]
def pj_r25 : List (Nat × Instr × Nat) := [(0, .aload_n 0, 1), (1, .getfield 15, 3), (4, .ifCond .lt 12, 3), (7, .aload_n 0, 1), (8, .getfield 15, 3), (11, .bipush 60, 2), (13, .if_icmp .lt 5, 3), (16, .iconst 0, 1), (17, .ireturn, 1), (18, .aload_n 0, 1), (19, .getfield 11, 3), (22, .aload_n 0, 1), (23, .getfield 15, 3), (26, .iload_n 1, 1), (27, .iastore, 1), (28, .aload_n 0, 1), (29, .dup, 1), (30, .getfield 15, 3), (33, .iconst 1, 1), (34, .iadd, 1), (35, .putfield 15, 3), (38, .iconst 1, 1), (39, .ireturn, 1)]
def pj_r26 : List (Nat × Instr × Nat) := [(0, .iload_n 1, 1), (1, .ifCond .lt 26, 3), (4, .iload_n 1, 1), (5, .aload_n 0, 1), (6, .getfield 15, 3), (9, .if_icmp .ge 18, 3), (12, .iload_n 1, 1), (13, .bipush 60, 2), (15, .if_icmp .ge 12, 3), (18, .aload_n 0, 1), (19, .getfield 11, 3), (22, .iload_n 1, 1), (23, .iaload, 1), (24, .goto 4, 3), (27, .iconst 0, 1), (28, .ireturn, 1)]
def pj_r27 : List (Nat × Instr × Nat) := [(0, .iconst 0, 1), (1, .istore_n 1, 1), (2, .iconst 0, 1), (3, .istore_n 2, 1), (4, .iload_n 2, 1), (5, .aload_n 0, 1), (6, .getfield 15, 3), (9, .if_icmp .ge 26, 3), (12, .iload_n 1, 1), (13, .aload_n 0, 1), (14, .iload_n 2, 1), (15, .invokevirtual 19, 3), (18, .invokestatic 23, 3), (21, .istore_n 1, 1), (22, .iload_n 1, 1), (23, .iconst 4, 1), (24, .if_icmp .ne 5, 3), (27, .iload_n 2, 1), (28, .ireturn, 1), (29, .iinc 2 1, 3), (32, .goto (-28), 3), (35, .iload_n 1, 1), (36, .ifCond .ne 8, 3), (39, .bipush (-6), 2), (41, .goto 7, 3), (44, .aload_n 0, 1), (45, .getfield 15, 3), (48, .ireturn, 1)]
def pj_r28 : List (Nat × Instr × Nat) := [(0, .iload_n 0, 1), (1, .tableswitch 90 0 3 #[31, 36, 61, 78], 31), (32, .iload_n 1, 1), (33, .invokestatic 27, 3), (36, .ireturn, 1), (37, .iload_n 1, 1), (38, .bipush 126, 2), (40, .if_icmp .ne 5, 3), (43, .iconst 0, 1), (44, .ireturn, 1), (45, .iload_n 1, 1), (46, .bipush 48, 2), (48, .bipush 51, 2), (50, .invokestatic 30, 3), (53, .ifCond .eq 7, 3), (56, .iconst 2, 1), (57, .goto 4, 3), (60, .iconst 4, 1), (61, .ireturn, 1), (62, .iload_n 1, 1), (63, .bipush 49, 2), (65, .bipush 53, 2), (67, .invokestatic 30, 3), (70, .ifCond .eq 7, 3), (73, .iconst 0, 1), (74, .goto 4, 3), (77, .iconst 4, 1), (78, .ireturn, 1), (79, .iload_n 1, 1), (80, .bipush 45, 2), (82, .if_icmp .ne 7, 3), (85, .iconst 0, 1), (86, .goto 4, 3), (89, .iconst 4, 1), (90, .ireturn, 1), (91, .iconst 4, 1), (92, .ireturn, 1)]
def pj_r29 : List (Nat × Instr × Nat) := [(0, .iload_n 0, 1), (1, .bipush 65, 2), (3, .bipush 72, 2), (5, .invokestatic 30, 3), (8, .ifCond .eq 5, 3), (11, .iconst 1, 1), (12, .ireturn, 1), (13, .iload_n 0, 1), (14, .bipush 97, 2), (16, .bipush 112, 2), (18, .invokestatic 30, 3), (21, .ifCond .eq 5, 3), (24, .iconst 3, 1), (25, .ireturn, 1), (26, .iload_n 0, 1), (27, .bipush 46, 2), (29, .if_icmp .ne 7, 3), (32, .iconst 0, 1), (33, .goto 4, 3), (36, .iconst 4, 1), (37, .ireturn, 1)]
def pj_r30 : List (Nat × Instr × Nat) := [(0, .aload_n 0, 1), (1, .iload_n 1, 1), (2, .invokevirtual 19, 3), (5, .invokestatic 27, 3), (8, .istore_n 2, 1), (9, .iload_n 2, 1), (10, .ifCond .ne 5, 3), (13, .iconst 1, 1), (14, .ireturn, 1), (15, .iload_n 2, 1), (16, .iconst 1, 1), (17, .if_icmp .ne 19, 3), (20, .aload_n 0, 1), (21, .iload_n 1, 1), (22, .iconst 1, 1), (23, .iadd, 1), (24, .invokevirtual 19, 3), (27, .bipush 126, 2), (29, .if_icmp .eq 7, 3), (32, .iconst 3, 1), (33, .goto 4, 3), (36, .iconst 2, 1), (37, .ireturn, 1)]
def pj_r31 : List (Nat × Instr × Nat) := [(0, .aload_n 0, 1), (1, .iload_n 1, 1), (2, .invokevirtual 19, 3), (5, .istore_n 3, 1), (6, .aload_n 0, 1), (7, .iload_n 1, 1), (8, .iconst 1, 1), (9, .iadd, 1), (10, .invokevirtual 19, 3), (13, .istore 4, 2), (15, .iload_n 3, 1), (16, .invokestatic 27, 3), (19, .lookupswitch 74 #[(1, 25), (3, 65)], 25), (44, .iload 4, 2), (46, .bipush 126, 2), (48, .if_icmp .ne 12, 3), (51, .aload_n 2, 1), (52, .iload_n 3, 1), (53, .bipush 65, 2), (55, .isub, 1), (56, .invokevirtual 34, 3), (59, .ireturn, 1), (60, .aload_n 2, 1), (61, .iload_n 3, 1), (62, .bipush 65, 2), (64, .isub, 1), (65, .iload 4, 2), (67, .bipush 48, 2), (69, .isub, 1), (70, .aload_n 0, 1), (71, .iload_n 1, 1), (72, .iconst 2, 1), (73, .iadd, 1), (74, .invokevirtual 19, 3), (77, .bipush 48, 2), (79, .isub, 1), (80, .invokevirtual 39, 3), (83, .ireturn, 1), (84, .aload_n 2, 1), (85, .iload_n 3, 1), (86, .bipush 97, 2), (88, .isub, 1), (89, .invokevirtual 43, 3), (92, .ireturn, 1), (93, .aload_n 2, 1), (94, .invokevirtual 46, 3), (97, .ireturn, 1)]
def pj_r32 : List (Nat × Instr × Nat) := [(0, .aload_n 0, 1), (1, .invokespecial 3, 3), (4, .aload_n 0, 1), (5, .bipush 7, 2), (7, .newarray .int, 2), (9, .putfield 9, 3), (12, .aload_n 0, 1), (13, .bipush 8, 2), (15, .newarray .int, 2), (17, .putfield 15, 3), (20, .aload_n 0, 1), (21, .bipush 6, 2), (23, .newarray .int, 2), (25, .putfield 18, 3), (28, .aload_n 0, 1), (29, .getfield 9, 3), (32, .iconst 0, 1), (33, .ldc 21, 2), (35, .iastore, 1), (36, .aload_n 0, 1), (37, .getfield 18, 3), (40, .bipush 50, 2), (42, .invokestatic 22, 3), (45, .return_, 1)]
def pj_r33 : List (Nat × Instr × Nat) := [(0, .aload_n 1, 1), (1, .getfield 9, 3), (4, .iconst 0, 1), (5, .aload_n 0, 1), (6, .getfield 9, 3), (9, .iconst 0, 1), (10, .bipush 7, 2), (12, .invokestatic 28, 3), (15, .aload_n 1, 1), (16, .getfield 15, 3), (19, .iconst 0, 1), (20, .aload_n 0, 1), (21, .getfield 15, 3), (24, .iconst 0, 1), (25, .bipush 8, 2), (27, .invokestatic 28, 3), (30, .aload_n 1, 1), (31, .getfield 18, 3), (34, .iconst 0, 1), (35, .aload_n 0, 1), (36, .getfield 18, 3), (39, .iconst 0, 1), (40, .bipush 6, 2), (42, .invokestatic 28, 3), (45, .aload_n 0, 1), (46, .aload_n 1, 1), (47, .getfield 34, 3), (50, .putfield 34, 3), (53, .aload_n 0, 1), (54, .aload_n 1, 1), (55, .getfield 38, 3), (58, .putfield 38, 3), (61, .aload_n 0, 1), (62, .aload_n 1, 1), (63, .getfield 41, 3), (66, .putfield 41, 3), (69, .aload_n 0, 1), (70, .aload_n 1, 1), (71, .getfield 44, 3), (74, .putfield 44, 3), (77, .aload_n 0, 1), (78, .aload_n 1, 1), (79, .getfield 47, 3), (82, .putfield 47, 3), (85, .aload_n 0, 1), (86, .iconst 0, 1), (87, .putfield 50, 3), (90, .aload_n 0, 1), (91, .iconst 0, 1), (92, .putfield 53, 3), (95, .return_, 1)]
def pj_r34 : List (Nat × Instr × Nat) := [(0, .iload_n 1, 1), (1, .ifCond .lt 18, 3), (4, .iload_n 1, 1), (5, .bipush 6, 2), (7, .if_icmp .gt 12, 3), (10, .aload_n 0, 1), (11, .getfield 9, 3), (14, .iload_n 1, 1), (15, .iaload, 1), (16, .goto 4, 3), (19, .iconst 0, 1), (20, .ireturn, 1)]
def pj_r35 : List (Nat × Instr × Nat) := [(0, .aload_n 0, 1), (1, .iload_n 1, 1), (2, .invokevirtual 56, 3), (5, .invokestatic 60, 3), (8, .ireturn, 1)]
def pj_r36 : List (Nat × Instr × Nat) := [(0, .iconst 1, 1), (1, .istore_n 2, 1), (2, .iload_n 2, 1), (3, .bipush 6, 2), (5, .if_icmp .gt 25, 3), (8, .aload_n 0, 1), (9, .getfield 9, 3), (12, .iload_n 2, 1), (13, .iaload, 1), (14, .iload_n 1, 1), (15, .ishr, 1), (16, .iconst 1, 1), (17, .iand, 1), (18, .iconst 1, 1), (19, .if_icmp .ne 5, 3), (22, .iload_n 2, 1), (23, .ireturn, 1), (24, .iinc 2 1, 3), (27, .goto (-25), 3), (30, .iconst 0, 1), (31, .ireturn, 1)]
def pj_r37 : List (Nat × Instr × Nat) := [(0, .iload_n 1, 1), (1, .ifCond .lt 18, 3), (4, .iload_n 1, 1), (5, .bipush 8, 2), (7, .if_icmp .ge 12, 3), (10, .aload_n 0, 1), (11, .getfield 15, 3), (14, .iload_n 1, 1), (15, .iaload, 1), (16, .goto 4, 3), (19, .iconst 0, 1), (20, .ireturn, 1)]
def pj_r38 : List (Nat × Instr × Nat) := [(0, .iconst 0, 1), (1, .istore_n 2, 1), (2, .iconst 0, 1), (3, .istore_n 3, 1), (4, .iload_n 3, 1), (5, .bipush 8, 2), (7, .if_icmp .ge 27, 3), (10, .iload_n 1, 1), (11, .iload_n 3, 1), (12, .ishr, 1), (13, .iconst 1, 1), (14, .iand, 1), (15, .iconst 1, 1), (16, .if_icmp .ne 12, 3), (19, .iload_n 2, 1), (20, .aload_n 0, 1), (21, .getfield 15, 3), (24, .iload_n 3, 1), (25, .iaload, 1), (26, .ior, 1), (27, .istore_n 2, 1), (28, .iinc 3 1, 3), (31, .goto (-27), 3), (34, .iload_n 2, 1), (35, .ireturn, 1)]
def pj_r39 : List (Nat × Instr × Nat) := [(0, .iload_n 1, 1), (1, .iconst 1, 1), (2, .if_icmp .lt 17, 3), (5, .iload_n 1, 1), (6, .iconst 5, 1), (7, .if_icmp .gt 12, 3), (10, .aload_n 0, 1), (11, .getfield 18, 3), (14, .iload_n 1, 1), (15, .iaload, 1), (16, .goto 4, 3), (19, .iconst 0, 1), (20, .ireturn, 1)]
def pj_r40 : List (Nat × Instr × Nat) := [(0, .iconst 0, 1), (1, .istore_n 3, 1), (2, .iload_n 3, 1), (3, .bipush 6, 2), (5, .if_icmp .gt 41, 3), (8, .aload_n 0, 1), (9, .getfield 9, 3), (12, .iload_n 3, 1), (13, .iaload, 1), (14, .iload_n 1, 1), (15, .iconst (-1), 1), (16, .ixor, 1), (17, .iand, 1), (18, .istore 4, 2), (20, .aload_n 0, 1), (21, .getfield 9, 3), (24, .iload_n 3, 1), (25, .iload_n 3, 1), (26, .iload_n 2, 1), (27, .if_icmp .ne 10, 3), (30, .iload 4, 2), (32, .iload_n 1, 1), (33, .ior, 1), (34, .goto 5, 3), (37, .iload 4, 2), (39, .iastore, 1), (40, .iinc 3 1, 3), (43, .goto (-41), 3), (46, .return_, 1)]
def pj_r41 : List (Nat × Instr × Nat) := [(0, .aload_n 0, 1), (1, .iload_n 2, 1), (2, .ifCond .eq 12, 3), (5, .aload_n 0, 1), (6, .getfield 34, 3), (9, .iload_n 1, 1), (10, .ior, 1), (11, .goto 11, 3), (14, .aload_n 0, 1), (15, .getfield 34, 3), (18, .iload_n 1, 1), (19, .iconst (-1), 1), (20, .ixor, 1), (21, .iand, 1), (22, .putfield 34, 3), (25, .return_, 1)]
def pj_r42 : List (Nat × Instr × Nat) := [(0, .iload_n 1, 1), (1, .ifCond .lt 16, 3), (4, .iload_n 1, 1), (5, .bipush 8, 2), (7, .if_icmp .ge 10, 3), (10, .aload_n 0, 1), (11, .getfield 15, 3), (14, .iload_n 1, 1), (15, .iload_n 2, 1), (16, .iastore, 1), (17, .return_, 1)]
def pj_r43 : List (Nat × Instr × Nat) := [(0, .iload_n 1, 1), (1, .iconst 1, 1), (2, .if_icmp .lt 15, 3), (5, .iload_n 1, 1), (6, .iconst 5, 1), (7, .if_icmp .gt 10, 3), (10, .aload_n 0, 1), (11, .getfield 18, 3), (14, .iload_n 1, 1), (15, .iload_n 2, 1), (16, .iastore, 1), (17, .return_, 1)]
def pj_r44 : List (Nat × Instr × Nat) := [(0, .aload_n 0, 1), (1, .dup, 1), (2, .getfield 41, 3), (5, .iconst 1, 1), (6, .iadd, 1), (7, .putfield 41, 3), (10, .iload_n 2, 1), (11, .ifCond .eq 18, 3), (14, .aload_n 0, 1), (15, .dup, 1), (16, .getfield 44, 3), (19, .iconst 1, 1), (20, .iload_n 1, 1), (21, .ishl, 1), (22, .ior, 1), (23, .putfield 44, 3), (26, .goto 15, 3), (29, .aload_n 0, 1), (30, .dup, 1), (31, .getfield 47, 3), (34, .iconst 1, 1), (35, .iload_n 1, 1), (36, .ishl, 1), (37, .ior, 1), (38, .putfield 47, 3), (41, .return_, 1)]
def pj_r45 : List (Nat × Instr × Nat) := [(0, .aload_n 0, 1), (1, .iconst 0, 1), (2, .putfield 41, 3), (5, .aload_n 0, 1), (6, .iconst 0, 1), (7, .putfield 44, 3), (10, .aload_n 0, 1), (11, .iconst 0, 1), (12, .putfield 47, 3), (15, .return_, 1)]
def pj_r46 : List (Nat × Instr × Nat) := [(0, .aload_n 0, 1), (1, .getfield 44, 3), (4, .iload_n 1, 1), (5, .iconst (-1), 1), (6, .ixor, 1), (7, .iand, 1), (8, .ifCond .ne 16, 3), (11, .aload_n 0, 1), (12, .getfield 47, 3), (15, .iload_n 1, 1), (16, .iand, 1), (17, .ifCond .ne 7, 3), (20, .iconst 1, 1), (21, .goto 4, 3), (24, .iconst 0, 1), (25, .ireturn, 1)]
def pj_r47 : List (Nat × Instr × Nat) := [(0, .aload_n 0, 1), (1, .iload_n 1, 1), (2, .invokevirtual 65, 3), (5, .iload_n 2, 1), (6, .invokestatic 68, 3), (9, .istore 4, 2), (11, .iload 4, 2), (13, .invokestatic 60, 3), (16, .istore 5, 2), (18, .iload 5, 2), (20, .ifCond .ne 5, 3), (23, .iconst 1, 1), (24, .ireturn, 1), (25, .aload_n 0, 1), (26, .iload_n 3, 1), (27, .invokevirtual 74, 3), (30, .iload 5, 2), (32, .if_icmp .ge 5, 3), (35, .iconst 2, 1), (36, .ireturn, 1), (37, .iload 4, 2), (39, .aload_n 0, 1), (40, .getfield 34, 3), (43, .iand, 1), (44, .aload_n 0, 1), (45, .iload_n 3, 1), (46, .invokevirtual 56, 3), (49, .iconst (-1), 1), (50, .ixor, 1), (51, .iand, 1), (52, .istore 6, 2), (54, .aload_n 0, 1), (55, .iload 6, 2), (57, .aload_n 0, 1), (58, .bipush 6, 2), (60, .invokevirtual 56, 3), (63, .iconst (-1), 1), (64, .ixor, 1), (65, .iand, 1), (66, .putfield 53, 3), (69, .aload_n 0, 1), (70, .iload 4, 2), (72, .iload_n 3, 1), (73, .invokevirtual 77, 3), (76, .aload_n 0, 1), (77, .iload 6, 2), (79, .bipush 6, 2), (81, .invokevirtual 77, 3), (84, .aload_n 0, 1), (85, .iload 4, 2), (87, .iconst 1, 1), (88, .invokevirtual 81, 3), (91, .aload_n 0, 1), (92, .iload_n 3, 1), (93, .aload_n 0, 1), (94, .iload_n 3, 1), (95, .invokevirtual 74, 3), (98, .iload 5, 2), (100, .isub, 1), (101, .invokevirtual 85, 3), (104, .aload_n 0, 1), (105, .dup, 1), (106, .getfield 50, 3), (109, .iload 5, 2), (111, .iadd, 1), (112, .putfield 50, 3), (115, .iconst 0, 1), (116, .ireturn, 1)]
def pj_r48 : List (Nat × Instr × Nat) := [(0, .aload_n 0, 1), (1, .iload_n 1, 1), (2, .invokevirtual 65, 3), (5, .invokestatic 87, 3), (8, .istore_n 2, 1), (9, .iload_n 2, 1), (10, .aload_n 0, 1), (11, .iload_n 1, 1), (12, .invokevirtual 65, 3), (15, .if_icmp .ne 5, 3), (18, .iconst 3, 1), (19, .ireturn, 1), (20, .aload_n 0, 1), (21, .iload_n 1, 1), (22, .iload_n 2, 1), (23, .invokevirtual 90, 3), (26, .iconst 0, 1), (27, .ireturn, 1)]
def pj_r49 : List (Nat × Instr × Nat) := [(0, .aload_n 0, 1), (1, .iload_n 1, 1), (2, .invokevirtual 93, 3), (5, .ifCond .ne 5, 3), (8, .iconst 4, 1), (9, .ireturn, 1), (10, .aload_n 0, 1), (11, .iconst 1, 1), (12, .iload_n 1, 1), (13, .ishl, 1), (14, .iconst 0, 1), (15, .invokevirtual 77, 3), (18, .aload_n 0, 1), (19, .iconst 1, 1), (20, .iload_n 1, 1), (21, .ishl, 1), (22, .iconst 0, 1), (23, .invokevirtual 81, 3), (26, .iconst 0, 1), (27, .ireturn, 1)]
def pj_r50 : List (Nat × Instr × Nat) := [(0, .aload_n 0, 1), (1, .getfield 38, 3), (4, .bipush 99, 2), (6, .if_icmp .lt 5, 3), (9, .iconst 5, 1), (10, .ireturn, 1), (11, .aload_n 0, 1), (12, .dup, 1), (13, .getfield 38, 3), (16, .iconst 1, 1), (17, .iadd, 1), (18, .putfield 38, 3), (21, .aload_n 0, 1), (22, .iconst 0, 1), (23, .putfield 34, 3), (26, .iconst 0, 1), (27, .ireturn, 1)]
def pj_r51 : List (Nat × Instr × Nat) := [(0, .iconst 0, 1), (1, .istore_n 1, 1), (2, .iconst 1, 1), (3, .istore_n 2, 1), (4, .iload_n 2, 1), (5, .bipush 6, 2), (7, .if_icmp .gt 59, 3), (10, .aload_n 0, 1), (11, .iload_n 2, 1), (12, .invokevirtual 9, 3), (15, .istore_n 3, 1), (16, .iconst 0, 1), (17, .istore 4, 2), (19, .iload 4, 2), (21, .bipush 16, 2), (23, .if_icmp .ge 37, 3), (26, .iload_n 3, 1), (27, .ifCond .eq 33, 3), (30, .iload_n 3, 1), (31, .iload_n 3, 1), (32, .ineg, 1), (33, .iand, 1), (34, .iload_n 3, 1), (35, .invokestatic 15, 3), (38, .istore 5, 2), (40, .iload_n 1, 1), (41, .iload 5, 2), (43, .invokestatic 21, 3), (46, .istore_n 1, 1), (47, .iload_n 3, 1), (48, .iload 5, 2), (50, .iconst (-1), 1), (51, .ixor, 1), (52, .iand, 1), (53, .istore_n 3, 1), (54, .iinc 4 1, 3), (57, .goto (-38), 3), (60, .iinc 2 1, 3), (63, .goto (-59), 3), (66, .iload_n 1, 1), (67, .ireturn, 1)]
def pj_r52 : List (Nat × Instr × Nat) := [(0, .iload_n 0, 1), (1, .istore_n 2, 1), (2, .iconst 0, 1), (3, .istore_n 3, 1), (4, .iload_n 3, 1), (5, .bipush 16, 2), (7, .if_icmp .ge 18, 3), (10, .iload_n 2, 1), (11, .iload_n 2, 1), (12, .invokestatic 24, 3), (15, .iload_n 1, 1), (16, .iand, 1), (17, .ior, 1), (18, .istore_n 2, 1), (19, .iinc 3 1, 3), (22, .goto (-18), 3), (25, .iload_n 2, 1), (26, .ireturn, 1)]
def pj_r53 : List (Nat × Instr × Nat) := [(0, .iload_n 0, 1), (1, .ldc 27, 2), (3, .iand, 1), (4, .iconst 1, 1), (5, .ishl, 1), (6, .iload_n 0, 1), (7, .sipush (-4370), 3), (10, .iand, 1), (11, .iconst 1, 1), (12, .ishr, 1), (13, .ior, 1), (14, .istore_n 1, 1), (15, .iload_n 1, 1), (16, .iload_n 0, 1), (17, .iconst 4, 1), (18, .ishl, 1), (19, .ior, 1), (20, .iload_n 0, 1), (21, .iconst 4, 1), (22, .ishr, 1), (23, .ior, 1), (24, .ireturn, 1)]
def pj_r54 : List (Nat × Instr × Nat) := [(0, .iconst 0, 1), (1, .istore_n 1, 1), (2, .iconst 0, 1), (3, .istore_n 2, 1), (4, .iload_n 2, 1), (5, .iconst 4, 1), (6, .if_icmp .ge 44, 3), (9, .iload_n 2, 1), (10, .istore_n 3, 1), (11, .iload_n 3, 1), (12, .iconst 4, 1), (13, .if_icmp .ge 31, 3), (16, .iconst 1, 1), (17, .iload_n 3, 1), (18, .iconst 1, 1), (19, .iadd, 1), (20, .ishl, 1), (21, .iconst 1, 1), (22, .iload_n 2, 1), (23, .ishl, 1), (24, .isub, 1), (25, .istore 4, 2), (27, .iload_n 1, 1), (28, .iload 4, 2), (30, .aload_n 0, 1), (31, .invokestatic 28, 3), (34, .invokestatic 21, 3), (37, .istore_n 1, 1), (38, .iinc 3 1, 3), (41, .goto (-30), 3), (44, .iinc 2 1, 3), (47, .goto (-43), 3), (50, .iload_n 1, 1), (51, .ireturn, 1)]
def pj_r55 : List (Nat × Instr × Nat) := [(0, .iconst 0, 1), (1, .istore_n 2, 1), (2, .iconst 0, 1), (3, .istore_n 3, 1), (4, .iload_n 3, 1), (5, .iconst 4, 1), (6, .if_icmp .ge 54, 3), (9, .iconst 0, 1), (10, .istore 4, 2), (12, .iload_n 3, 1), (13, .istore 5, 2), (15, .iload 5, 2), (17, .iconst 4, 1), (18, .if_icmp .ge 36, 3), (21, .iload 4, 2), (23, .iload_n 0, 1), (24, .iconst 4, 1), (25, .iload 5, 2), (27, .imul, 1), (28, .ishl, 1), (29, .ior, 1), (30, .istore 4, 2), (32, .iload 4, 2), (34, .aload_n 1, 1), (35, .invokestatic 32, 3), (38, .ifCond .eq 10, 3), (41, .iload_n 2, 1), (42, .iload 4, 2), (44, .invokestatic 21, 3), (47, .istore_n 2, 1), (48, .iinc 5 1, 3), (51, .goto (-36), 3), (54, .iinc 3 1, 3), (57, .goto (-53), 3), (60, .iload_n 2, 1), (61, .ireturn, 1)]
def pj_r56 : List (Nat × Instr × Nat) := [(0, .iconst 1, 1), (1, .istore_n 2, 1), (2, .iload_n 2, 1), (3, .bipush 6, 2), (5, .if_icmp .gt 23, 3), (8, .iload_n 0, 1), (9, .aload_n 1, 1), (10, .iload_n 2, 1), (11, .invokevirtual 9, 3), (14, .iconst (-1), 1), (15, .ixor, 1), (16, .iand, 1), (17, .ifCond .ne 5, 3), (20, .iconst 1, 1), (21, .ireturn, 1), (22, .iinc 2 1, 3), (25, .goto (-23), 3), (28, .iconst 0, 1), (29, .ireturn, 1)]
def pj_r57 : List (Nat × Instr × Nat) := [(0, .iload_n 0, 1), (1, .invokestatic 36, 3), (4, .iload_n 1, 1), (5, .invokestatic 36, 3), (8, .isub, 1), (9, .istore_n 2, 1), (10, .iload_n 2, 1), (11, .ifCond .ne 9, 3), (14, .iload_n 0, 1), (15, .iload_n 1, 1), (16, .invokestatic 41, 3), (19, .ireturn, 1), (20, .iload_n 2, 1), (21, .ifCond .le 7, 3), (24, .iload_n 0, 1), (25, .goto 4, 3), (28, .iload_n 1, 1), (29, .ireturn, 1)]
def pj_r58 : List (Nat × Instr × Nat) := [(0, .iconst 1, 1), (1, .istore_n 1, 1), (2, .iload_n 1, 1), (3, .iconst 5, 1), (4, .if_icmp .gt 44, 3), (7, .iload_n 1, 1), (8, .iload_n 0, 1), (9, .invokestatic 11, 3), (12, .istore_n 2, 1), (13, .iconst 1, 1), (14, .istore_n 3, 1), (15, .iload_n 3, 1), (16, .iload_n 2, 1), (17, .if_icmp .gt 25, 3), (20, .iload_n 0, 1), (21, .iload_n 1, 1), (22, .iload_n 3, 1), (23, .invokestatic 15, 3), (26, .ifCond .ne 10, 3), (29, .bipush 10, 2), (31, .iload_n 1, 1), (32, .imul, 1), (33, .iload_n 3, 1), (34, .iadd, 1), (35, .ireturn, 1), (36, .iinc 3 1, 3), (39, .goto (-24), 3), (42, .iinc 1 1, 3), (45, .goto (-43), 3), (48, .bipush (-6), 2), (50, .ireturn, 1)]
def pj_r59 : List (Nat × Instr × Nat) := [(0, .iload_n 1, 1), (1, .istore_n 2, 1), (2, .iload_n 0, 1), (3, .istore_n 3, 1), (4, .iload_n 3, 1), (5, .iconst 5, 1), (6, .if_icmp .ge 14, 3), (9, .iload_n 2, 1), (10, .bipush 10, 2), (12, .idiv, 1), (13, .istore_n 2, 1), (14, .iinc 3 1, 3), (17, .goto (-13), 3), (20, .iload_n 2, 1), (21, .bipush 10, 2), (23, .irem, 1), (24, .ireturn, 1)]
def pj_r60 : List (Nat × Instr × Nat) := [(0, .iconst 0, 1), (1, .istore_n 3, 1), (2, .iconst 1, 1), (3, .istore 4, 2), (5, .iload 4, 2), (7, .iconst 5, 1), (8, .if_icmp .gt 51, 3), (11, .iload 4, 2), (13, .iload_n 0, 1), (14, .invokestatic 11, 3), (17, .istore 5, 2), (19, .iload 4, 2), (21, .iload_n 1, 1), (22, .if_icmp .ne 12, 3), (25, .iload 5, 2), (27, .iload_n 2, 1), (28, .isub, 1), (29, .istore 5, 2), (31, .goto 17, 3), (34, .iload 4, 2), (36, .iload_n 1, 1), (37, .iconst 1, 1), (38, .isub, 1), (39, .if_icmp .ne 9, 3), (42, .iload 5, 2), (44, .iload_n 2, 1), (45, .iadd, 1), (46, .istore 5, 2), (48, .iload_n 3, 1), (49, .iload 5, 2), (51, .ixor, 1), (52, .istore_n 3, 1), (53, .iinc 4 2, 3), (56, .goto (-51), 3), (59, .iload_n 3, 1), (60, .ireturn, 1)]
def pj_r61 : List (Nat × Instr × Nat) := [(0, .iload_n 0, 1), (1, .istore_n 2, 1), (2, .iconst 0, 1), (3, .istore_n 3, 1), (4, .iload_n 3, 1), (5, .iload_n 1, 1), (6, .if_icmp .ge 19, 3), (9, .iload_n 3, 1), (10, .iconst 4, 1), (11, .if_icmp .ge 14, 3), (14, .iload_n 2, 1), (15, .invokestatic 9, 3), (18, .istore_n 2, 1), (19, .iinc 3 1, 3), (22, .goto (-18), 3), (25, .iload_n 2, 1), (26, .ireturn, 1)]
def pj_r62 : List (Nat × Instr × Nat) := [(0, .iconst 0, 1), (1, .istore_n 1, 1), (2, .iconst 0, 1), (3, .istore_n 2, 1), (4, .iload_n 2, 1), (5, .iconst 4, 1), (6, .if_icmp .ge 48, 3), (9, .iconst 0, 1), (10, .istore_n 3, 1), (11, .iload_n 3, 1), (12, .iconst 4, 1), (13, .if_icmp .ge 35, 3), (16, .iload_n 0, 1), (17, .iconst 4, 1), (18, .iload_n 2, 1), (19, .imul, 1), (20, .iload_n 3, 1), (21, .iadd, 1), (22, .ishr, 1), (23, .iconst 1, 1), (24, .iand, 1), (25, .istore 4, 2), (27, .iload_n 1, 1), (28, .iload 4, 2), (30, .iconst 4, 1), (31, .iload_n 3, 1), (32, .imul, 1), (33, .iconst 4, 1), (34, .iadd, 1), (35, .iconst 1, 1), (36, .isub, 1), (37, .iload_n 2, 1), (38, .isub, 1), (39, .ishl, 1), (40, .ior, 1), (41, .istore_n 1, 1), (42, .iinc 3 1, 3), (45, .goto (-34), 3), (48, .iinc 2 1, 3), (51, .goto (-47), 3), (54, .iload_n 1, 1), (55, .ireturn, 1)]
def pj_r63 : List (Nat × Instr × Nat) := [(0, .iload_n 0, 1), (1, .sipush 4369, 3), (4, .iand, 1), (5, .iconst 3, 1), (6, .ishl, 1), (7, .iload_n 0, 1), (8, .ldc 15, 2), (10, .iand, 1), (11, .iconst 3, 1), (12, .ishr, 1), (13, .ior, 1), (14, .istore_n 1, 1), (15, .iload_n 0, 1), (16, .sipush 8738, 3), (19, .iand, 1), (20, .iconst 1, 1), (21, .ishl, 1), (22, .iload_n 0, 1), (23, .sipush 17476, 3), (26, .iand, 1), (27, .iconst 1, 1), (28, .ishr, 1), (29, .ior, 1), (30, .istore_n 2, 1), (31, .iload_n 1, 1), (32, .iload_n 2, 1), (33, .ior, 1), (34, .ireturn, 1)]
def pj_r64 : List (Nat × Instr × Nat) := [(0, .iload_n 1, 1), (1, .istore_n 3, 1), (2, .iconst 0, 1), (3, .istore 4, 2), (5, .iload 4, 2), (7, .iload_n 2, 1), (8, .if_icmp .ge 32, 3), (11, .bipush 75, 2), (13, .iload_n 3, 1), (14, .imul, 1), (15, .bipush 74, 2), (17, .iadd, 1), (18, .ldc 9, 2), (20, .irem, 1), (21, .istore_n 3, 1), (22, .iload_n 3, 1), (23, .bipush 8, 2), (25, .irem, 1), (26, .iload_n 3, 1), (27, .bipush 8, 2), (29, .idiv, 1), (30, .aload_n 0, 1), (31, .invokestatic 10, 3), (34, .iinc 4 1, 3), (37, .goto (-32), 3), (40, .return_, 1)]
def pj_r65 : List (Nat × Instr × Nat) := [(0, .iload_n 0, 1), (1, .tableswitch 59 5 7 #[27, 39, 51], 27), (28, .aload_n 2, 1), (29, .iload_n 1, 1), (30, .bipush 8, 2), (32, .irem, 1), (33, .invokevirtual 16, 3), (36, .pop, 1), (37, .goto 46, 3), (40, .aload_n 2, 1), (41, .iload_n 1, 1), (42, .bipush 16, 2), (44, .irem, 1), (45, .invokevirtual 22, 3), (48, .pop, 1), (49, .goto 34, 3), (52, .aload_n 2, 1), (53, .invokevirtual 25, 3), (56, .pop, 1), (57, .goto 26, 3), (60, .aload_n 2, 1), (61, .iload_n 1, 1), (62, .bipush 8, 2), (64, .irem, 1), (65, .iload_n 1, 1), (66, .bipush 8, 2), (68, .idiv, 1), (69, .iconst 4, 1), (70, .irem, 1), (71, .iconst 1, 1), (72, .iload_n 1, 1), (73, .bipush 32, 2), (75, .idiv, 1), (76, .iconst 5, 1), (77, .irem, 1), (78, .iadd, 1), (79, .invokevirtual 29, 3), (82, .pop, 1), (83, .return_, 1)]
def pj_r66 : List (Nat × Instr × Nat) := [(0, .aload_n 0, 1), (1, .invokespecial 1, 3), (4, .aload_n 0, 1), (5, .new 7, 3), (8, .dup, 1), (9, .invokespecial 9, 3), (12, .putfield 10, 3), (15, .aload_n 0, 1), (16, .new 7, 3), (19, .dup, 1), (20, .invokespecial 9, 3), (23, .putfield 16, 3), (26, .aload_n 0, 1), (27, .new 7, 3), (30, .dup, 1), (31, .invokespecial 9, 3), (34, .putfield 19, 3), (37, .aload_n 0, 1), (38, .new 7, 3), (41, .dup, 1), (42, .invokespecial 9, 3), (45, .putfield 22, 3), (48, .aload_n 0, 1), (49, .new 25, 3), (52, .dup, 1), (53, .invokespecial 27, 3), (56, .putfield 28, 3), (59, .aload_n 0, 1), (60, .new 32, 3), (63, .dup, 1), (64, .invokespecial 34, 3), (67, .putfield 35, 3), (70, .aload_n 0, 1), (71, .new 39, 3), (74, .dup, 1), (75, .invokespecial 41, 3), (78, .putfield 42, 3), (81, .aload_n 0, 1), (82, .new 46, 3), (85, .dup, 1), (86, .invokespecial 48, 3), (89, .putfield 49, 3), (92, .aload_n 0, 1), (93, .new 53, 3), (96, .dup, 1), (97, .invokespecial 55, 3), (100, .putfield 56, 3), (103, .return_, 1)]
def pj_r67 : List (Nat × Instr × Nat) := [(0, .iload_n 1, 1), (1, .invokestatic 60, 3), (4, .ifCond .ne 5, 3), (7, .iconst (-1), 1), (8, .ireturn, 1), (9, .iload_n 2, 1), (10, .ifCond .ne 7, 3), (13, .iconst 0, 1), (14, .goto 4, 3), (17, .iconst 1, 1), (18, .istore 4, 2), (20, .iload_n 2, 1), (21, .iconst 0, 1), (22, .bipush 6, 2), (24, .invokestatic 64, 3), (27, .ifCond .eq 13, 3), (30, .iload_n 3, 1), (31, .iconst 0, 1), (32, .iload 4, 2), (34, .invokestatic 64, 3), (37, .ifCond .ne 6, 3), (40, .bipush (-2), 2), (42, .ireturn, 1), (43, .aload_n 0, 1), (44, .getfield 10, 3), (47, .iload_n 1, 1), (48, .invokevirtual 68, 3), (51, .istore 5, 2), (53, .aload_n 0, 1), (54, .getfield 10, 3), (57, .iconst 1, 1), (58, .iload_n 1, 1), (59, .ishl, 1), (60, .iload_n 2, 1), (61, .invokevirtual 72, 3), (64, .aload_n 0, 1), (65, .getfield 10, 3), (68, .iconst 1, 1), (69, .iload_n 1, 1), (70, .ishl, 1), (71, .iload_n 3, 1), (72, .iconst 1, 1), (73, .if_icmp .ne 7, 3), (76, .iconst 1, 1), (77, .goto 4, 3), (80, .iconst 0, 1), (81, .invokevirtual 76, 3), (84, .iload 5, 2), (86, .ireturn, 1)]
def pj_r68 : List (Nat × Instr × Nat) := [(0, .iload_n 1, 1), (1, .invokestatic 80, 3), (4, .ifCond .ne 5, 3), (7, .iconst (-1), 1), (8, .ireturn, 1), (9, .iload_n 2, 1), (10, .iconst 0, 1), (11, .ldc 83, 2), (13, .invokestatic 64, 3), (16, .ifCond .ne 6, 3), (19, .bipush (-2), 2), (21, .ireturn, 1), (22, .aload_n 0, 1), (23, .getfield 10, 3), (26, .iload_n 1, 1), (27, .invokevirtual 84, 3), (30, .istore_n 3, 1), (31, .aload_n 0, 1), (32, .getfield 10, 3), (35, .iload_n 1, 1), (36, .iload_n 2, 1), (37, .invokevirtual 87, 3), (40, .iload_n 3, 1), (41, .ireturn, 1)]
def pj_r69 : List (Nat × Instr × Nat) := [(0, .iload_n 1, 1), (1, .invokestatic 90, 3), (4, .ifCond .ne 5, 3), (7, .iconst (-1), 1), (8, .ireturn, 1), (9, .iload_n 2, 1), (10, .iconst 0, 1), (11, .sipush 999, 3), (14, .invokestatic 64, 3), (17, .ifCond .ne 6, 3), (20, .bipush (-2), 2), (22, .ireturn, 1), (23, .aload_n 0, 1), (24, .getfield 10, 3), (27, .iload_n 1, 1), (28, .invokevirtual 93, 3), (31, .istore_n 3, 1), (32, .aload_n 0, 1), (33, .getfield 10, 3), (36, .iload_n 1, 1), (37, .iload_n 2, 1), (38, .invokevirtual 96, 3), (41, .iload_n 3, 1), (42, .ireturn, 1)]
def pj_r70 : List (Nat × Instr × Nat) := [(0, .iload_n 1, 1), (1, .bipush 33, 2), (3, .bipush 126, 2), (5, .invokestatic 64, 3), (8, .ifCond .ne 6, 3), (11, .bipush (-2), 2), (13, .ireturn, 1), (14, .aload_n 0, 1), (15, .getfield 28, 3), (18, .iload_n 1, 1), (19, .invokevirtual 99, 3), (22, .ifCond .eq 13, 3), (25, .aload_n 0, 1), (26, .getfield 28, 3), (29, .invokevirtual 102, 3), (32, .goto 5, 3), (35, .bipush (-4), 2), (37, .ireturn, 1)]
def pj_r71 : List (Nat × Instr × Nat) := [(0, .aload_n 0, 1), (1, .getfield 28, 3), (4, .invokevirtual 102, 3), (7, .istore_n 1, 1), (8, .aload_n 0, 1), (9, .getfield 28, 3), (12, .invokevirtual 106, 3), (15, .iload_n 1, 1), (16, .ireturn, 1)]
def pj_r72 : List (Nat × Instr × Nat) := [(0, .aload_n 0, 1), (1, .getfield 28, 3), (4, .invokevirtual 109, 3), (7, .ireturn, 1)]
def pj_r73 : List (Nat × Instr × Nat) := [(0, .iload_n 1, 1), (1, .iconst 0, 1), (2, .iconst 1, 1), (3, .invokestatic 64, 3), (6, .ifCond .ne 6, 3), (9, .bipush (-2), 2), (11, .ireturn, 1), (12, .aload_n 0, 1), (13, .getfield 28, 3), (16, .invokevirtual 109, 3), (19, .bipush (-6), 2), (21, .if_icmp .eq 6, 3), (24, .bipush (-5), 2), (26, .ireturn, 1), (27, .aload_n 0, 1), (28, .getfield 35, 3), (31, .aload_n 0, 1), (32, .getfield 28, 3), (35, .aload_n 0, 1), (36, .getfield 10, 3), (39, .aload_n 0, 1), (40, .getfield 16, 3), (43, .invokevirtual 112, 3), (46, .iload_n 1, 1), (47, .ifCond .ne 13, 3), (50, .aload_n 0, 1), (51, .getfield 35, 3), (54, .getfield 116, 3), (57, .goto 10, 3), (60, .aload_n 0, 1), (61, .getfield 35, 3), (64, .getfield 120, 3), (67, .ireturn, 1)]
def pj_r74 : List (Nat × Instr × Nat) := [(0, .aload_n 0, 1), (1, .invokevirtual 123, 3), (4, .ifCond .ne 6, 3), (7, .bipush (-5), 2), (9, .ireturn, 1), (10, .aload_n 0, 1), (11, .getfield 10, 3), (14, .aload_n 0, 1), (15, .getfield 16, 3), (18, .invokevirtual 127, 3), (21, .aload_n 0, 1), (22, .getfield 28, 3), (25, .invokevirtual 106, 3), (28, .aload_n 0, 1), (29, .getfield 35, 3), (32, .getfield 131, 3), (35, .ireturn, 1)]
def pj_r75 : List (Nat × Instr × Nat) := [(0, .iload_n 1, 1), (1, .invokestatic 60, 3), (4, .ifCond .ne 5, 3), (7, .iconst (-1), 1), (8, .ireturn, 1), (9, .iload_n 2, 1), (10, .iconst 0, 1), (11, .iconst 1, 1), (12, .invokestatic 64, 3), (15, .ifCond .ne 6, 3), (18, .bipush (-2), 2), (20, .ireturn, 1), (21, .aload_n 0, 1), (22, .invokevirtual 123, 3), (25, .ifCond .ne 6, 3), (28, .bipush (-5), 2), (30, .ireturn, 1), (31, .iload_n 2, 1), (32, .ifCond .ne 14, 3), (35, .aload_n 0, 1), (36, .getfield 16, 3), (39, .iload_n 1, 1), (40, .invokevirtual 68, 3), (43, .goto 14, 3), (46, .aload_n 0, 1), (47, .getfield 16, 3), (50, .getfield 134, 3), (53, .iload_n 1, 1), (54, .ishr, 1), (55, .iconst 1, 1), (56, .iand, 1), (57, .ireturn, 1)]
def pj_r76 : List (Nat × Instr × Nat) := [(0, .iload_n 1, 1), (1, .invokestatic 90, 3), (4, .ifCond .ne 5, 3), (7, .iconst (-1), 1), (8, .ireturn, 1), (9, .aload_n 0, 1), (10, .invokevirtual 123, 3), (13, .ifCond .eq 14, 3), (16, .aload_n 0, 1), (17, .getfield 16, 3), (20, .iload_n 1, 1), (21, .invokevirtual 93, 3), (24, .goto 5, 3), (27, .bipush (-5), 2), (29, .ireturn, 1)]
def pj_r77 : List (Nat × Instr × Nat) := [(0, .iload_n 1, 1), (1, .iconst 0, 1), (2, .bipush 6, 2), (4, .invokestatic 64, 3), (7, .ifCond .ne 6, 3), (10, .bipush (-2), 2), (12, .ireturn, 1), (13, .aload_n 0, 1), (14, .invokevirtual 123, 3), (17, .ifCond .ne 6, 3), (20, .bipush (-5), 2), (22, .ireturn, 1), (23, .iload_n 1, 1), (24, .tableswitch 91 0 5 #[40, 50, 59, 67, 75, 83], 40), (64, .aload_n 0, 1), (65, .getfield 16, 3), (68, .bipush 6, 2), (70, .invokevirtual 137, 3), (73, .ireturn, 1), (74, .aload_n 0, 1), (75, .getfield 16, 3), (78, .iconst 0, 1), (79, .invokevirtual 137, 3), (82, .ireturn, 1), (83, .aload_n 0, 1), (84, .getfield 16, 3), (87, .getfield 134, 3), (90, .ireturn, 1), (91, .aload_n 0, 1), (92, .getfield 16, 3), (95, .getfield 140, 3), (98, .ireturn, 1), (99, .aload_n 0, 1), (100, .getfield 16, 3), (103, .getfield 143, 3), (106, .ireturn, 1), (107, .aload_n 0, 1), (108, .getfield 35, 3), (111, .getfield 146, 3), (114, .ireturn, 1), (115, .aload_n 0, 1), (116, .getfield 35, 3), (119, .getfield 149, 3), (122, .ireturn, 1)]
def pj_r78 : List (Nat × Instr × Nat) := [(0, .iload_n 1, 1), (1, .invokestatic 80, 3), (4, .ifCond .ne 5, 3), (7, .iconst (-1), 1), (8, .ireturn, 1), (9, .iload_n 2, 1), (10, .iconst 0, 1), (11, .bipush 7, 2), (13, .invokestatic 64, 3), (16, .ifCond .ne 6, 3), (19, .bipush (-2), 2), (21, .ireturn, 1), (22, .aload_n 0, 1), (23, .getfield 10, 3), (26, .iload_n 1, 1), (27, .invokevirtual 84, 3), (30, .istore_n 3, 1), (31, .iload_n 2, 1), (32, .iconst 4, 1), (33, .if_icmp .ge 11, 3), (36, .iload_n 3, 1), (37, .iload_n 2, 1), (38, .invokestatic 152, 3), (41, .goto 13, 3), (44, .iload_n 3, 1), (45, .invokestatic 158, 3), (48, .iload_n 2, 1), (49, .iconst 4, 1), (50, .isub, 1), (51, .invokestatic 152, 3), (54, .ireturn, 1)]
def pj_r79 : List (Nat × Instr × Nat) := [(0, .iload_n 1, 1), (1, .iconst 0, 1), (2, .iconst 1, 1), (3, .invokestatic 64, 3), (6, .ifCond .eq 17, 3), (9, .aload_n 0, 1), (10, .getfield 10, 3), (13, .invokestatic 161, 3), (16, .iload_n 1, 1), (17, .invokestatic 167, 3), (20, .goto 5, 3), (23, .bipush (-2), 2), (25, .ireturn, 1)]
def pj_r80 : List (Nat × Instr × Nat) := [(0, .iload_n 1, 1), (1, .iconst 0, 1), (2, .iconst 1, 1), (3, .invokestatic 64, 3), (6, .ifCond .eq 17, 3), (9, .aload_n 0, 1), (10, .getfield 10, 3), (13, .invokestatic 170, 3), (16, .iload_n 1, 1), (17, .invokestatic 167, 3), (20, .goto 5, 3), (23, .bipush (-2), 2), (25, .ireturn, 1)]
def pj_r81 : List (Nat × Instr × Nat) := [(0, .iload_n 1, 1), (1, .iconst 1, 1), (2, .ldc 83, 2), (4, .invokestatic 64, 3), (7, .ifCond .eq 12, 3), (10, .iload_n 2, 1), (11, .iconst 0, 1), (12, .iconst 1, 1), (13, .invokestatic 64, 3), (16, .ifCond .ne 6, 3), (19, .bipush (-2), 2), (21, .ireturn, 1), (22, .aload_n 0, 1), (23, .iload_n 1, 1), (24, .invokevirtual 173, 3), (27, .istore_n 3, 1), (28, .iload_n 3, 1), (29, .ifCond .ne 8, 3), (32, .bipush (-6), 2), (34, .goto 8, 3), (37, .iload_n 3, 1), (38, .iload_n 2, 1), (39, .invokestatic 167, 3), (42, .ireturn, 1)]
def pj_r82 : List (Nat × Instr × Nat) := [(0, .aload_n 0, 1), (1, .getfield 42, 3), (4, .aload_n 0, 1), (5, .getfield 10, 3), (8, .invokevirtual 176, 3), (11, .aload_n 0, 1), (12, .getfield 42, 3), (15, .getfield 179, 3), (18, .ireturn, 1)]
def pj_r83 : List (Nat × Instr × Nat) := [(0, .iload_n 1, 1), (1, .iconst 0, 1), (2, .iconst 1, 1), (3, .invokestatic 64, 3), (6, .ifCond .ne 6, 3), (9, .bipush (-2), 2), (11, .ireturn, 1), (12, .aload_n 0, 1), (13, .getfield 42, 3), (16, .aload_n 0, 1), (17, .getfield 10, 3), (20, .invokevirtual 176, 3), (23, .aload_n 0, 1), (24, .getfield 42, 3), (27, .getfield 182, 3), (30, .bipush (-6), 2), (32, .if_icmp .ne 6, 3), (35, .bipush (-6), 2), (37, .ireturn, 1), (38, .iload_n 1, 1), (39, .ifCond .ne 16, 3), (42, .aload_n 0, 1), (43, .getfield 42, 3), (46, .getfield 182, 3), (49, .invokestatic 185, 3), (52, .goto 10, 3), (55, .aload_n 0, 1), (56, .getfield 42, 3), (59, .getfield 182, 3), (62, .ireturn, 1)]
def pj_r84 : List (Nat × Instr × Nat) := [(0, .iload_n 1, 1), (1, .invokestatic 60, 3), (4, .ifCond .ne 5, 3), (7, .iconst (-1), 1), (8, .ireturn, 1), (9, .aload_n 0, 1), (10, .getfield 10, 3), (13, .getfield 188, 3), (16, .bipush 8, 2), (18, .if_icmp .lt 6, 3), (21, .bipush (-4), 2), (23, .ireturn, 1), (24, .aload_n 0, 1), (25, .getfield 10, 3), (28, .iload_n 1, 1), (29, .iload_n 2, 1), (30, .invokevirtual 191, 3), (33, .aload_n 0, 1), (34, .getfield 10, 3), (37, .getfield 188, 3), (40, .ireturn, 1)]
def pj_r85 : List (Nat × Instr × Nat) := [(0, .aload_n 0, 1), (1, .getfield 10, 3), (4, .getfield 188, 3), (7, .istore_n 1, 1), (8, .aload_n 0, 1), (9, .getfield 10, 3), (12, .invokevirtual 194, 3), (15, .iload_n 1, 1), (16, .ireturn, 1)]
def pj_r86 : List (Nat × Instr × Nat) := [(0, .aload_n 0, 1), (1, .getfield 49, 3), (4, .aload_n 0, 1), (5, .getfield 10, 3), (8, .invokevirtual 197, 3), (11, .iload_n 1, 1), (12, .iconst (-1), 1), (13, .if_icmp .ne 13, 3), (16, .aload_n 0, 1), (17, .getfield 49, 3), (20, .getfield 200, 3), (23, .goto 11, 3), (26, .aload_n 0, 1), (27, .getfield 49, 3), (30, .iload_n 1, 1), (31, .invokevirtual 203, 3), (34, .ireturn, 1)]
def pj_r87 : List (Nat × Instr × Nat) := [(0, .iload_n 1, 1), (1, .iconst 0, 1), (2, .iconst 1, 1), (3, .invokestatic 64, 3), (6, .ifCond .ne 6, 3), (9, .bipush (-2), 2), (11, .ireturn, 1), (12, .aload_n 0, 1), (13, .getfield 49, 3), (16, .aload_n 0, 1), (17, .getfield 10, 3), (20, .invokevirtual 197, 3), (23, .aload_n 0, 1), (24, .getfield 49, 3), (27, .getfield 200, 3), (30, .ifCond .ne 6, 3), (33, .bipush (-6), 2), (35, .ireturn, 1), (36, .aload_n 0, 1), (37, .getfield 49, 3), (40, .invokevirtual 206, 3), (43, .istore_n 2, 1), (44, .iload_n 1, 1), (45, .ifCond .ne 7, 3), (48, .iload_n 2, 1), (49, .goto 11, 3), (52, .aload_n 0, 1), (53, .getfield 49, 3), (56, .iload_n 2, 1), (57, .invokevirtual 209, 3), (60, .ireturn, 1)]
def pj_r88 : List (Nat × Instr × Nat) := [(0, .iload_n 1, 1), (1, .iconst 0, 1), (2, .ldc 212, 2), (4, .invokestatic 64, 3), (7, .ifCond .eq 12, 3), (10, .iload_n 2, 1), (11, .iconst 0, 1), (12, .iconst 1, 1), (13, .invokestatic 64, 3), (16, .ifCond .ne 6, 3), (19, .bipush (-2), 2), (21, .ireturn, 1), (22, .iload_n 1, 1), (23, .invokestatic 213, 3), (26, .istore_n 3, 1), (27, .iload_n 2, 1), (28, .ifCond .ne 15, 3), (31, .iload_n 3, 1), (32, .bipush (-6), 2), (34, .if_icmp .ne 7, 3), (37, .iconst 0, 1), (38, .goto 4, 3), (41, .iconst 1, 1), (42, .ireturn, 1), (43, .iload_n 3, 1), (44, .ireturn, 1)]
def pj_r89 : List (Nat × Instr × Nat) := [(0, .iload_n 1, 1), (1, .iconst 0, 1), (2, .bipush 10, 2), (4, .invokestatic 64, 3), (7, .ifCond .eq 32, 3), (10, .iload_n 2, 1), (11, .iconst 0, 1), (12, .bipush 16, 2), (14, .invokestatic 64, 3), (17, .ifCond .eq 22, 3), (20, .iload_n 3, 1), (21, .iconst 0, 1), (22, .iconst 1, 1), (23, .invokestatic 64, 3), (26, .ifCond .eq 13, 3), (29, .iload 4, 2), (31, .iconst 0, 1), (32, .iconst 1, 1), (33, .invokestatic 64, 3), (36, .ifCond .ne 7, 3), (39, .ldc2_w 218, 3), (42, .lreturn, 1), (43, .iload_n 3, 1), (44, .ifCond .ne 15, 3), (47, .aload_n 0, 1), (48, .getfield 56, 3), (51, .iload_n 1, 1), (52, .iload_n 2, 1), (53, .invokevirtual 220, 3), (56, .goto 7, 3), (59, .iload_n 1, 1), (60, .invokestatic 224, 3), (63, .lstore 5, 2), (65, .lload 5, 2), (67, .bipush 16, 2), (69, .iload_n 1, 1), (70, .invokestatic 228, 3), (73, .iload 4, 2), (75, .invokestatic 231, 3), (78, .lreturn, 1)]
def pj_r90 : List (Nat × Instr × Nat) := [(0, .iload_n 1, 1), (1, .iconst 0, 1), (2, .sipush 9999, 3), (5, .invokestatic 64, 3), (8, .ifCond .eq 22, 3), (11, .iload_n 2, 1), (12, .iconst 1, 1), (13, .bipush 99, 2), (15, .invokestatic 64, 3), (18, .ifCond .eq 12, 3), (21, .iload_n 3, 1), (22, .iconst 0, 1), (23, .iconst 2, 1), (24, .invokestatic 64, 3), (27, .ifCond .ne 6, 3), (30, .bipush (-2), 2), (32, .ireturn, 1), (33, .aload_n 0, 1), (34, .getfield 16, 3), (37, .aload_n 0, 1), (38, .getfield 10, 3), (41, .invokevirtual 127, 3), (44, .aload_n 0, 1), (45, .getfield 16, 3), (48, .iload_n 1, 1), (49, .iload_n 2, 1), (50, .invokestatic 235, 3), (53, .iload_n 3, 1), (54, .iconst 2, 1), (55, .if_icmp .ne 11, 3), (58, .aload_n 0, 1), (59, .getfield 16, 3), (62, .getfield 143, 3), (65, .ireturn, 1), (66, .aload_n 0, 1), (67, .getfield 16, 3), (70, .iload_n 3, 1), (71, .ifCond .ne 8, 3), (74, .bipush 6, 2), (76, .goto 4, 3), (79, .iconst 0, 1), (80, .invokevirtual 137, 3), (83, .ireturn, 1)]
def pj_r91 : List (Nat × Instr × Nat) := [(0, .iload_n 1, 1), (1, .iconst 0, 1), (2, .iconst 1, 1), (3, .invokestatic 64, 3), (6, .ifCond .ne 6, 3), (9, .bipush (-2), 2), (11, .ireturn, 1), (12, .iload_n 1, 1), (13, .ifCond .ne 22, 3), (16, .aload_n 0, 1), (17, .getfield 19, 3), (20, .aload_n 0, 1), (21, .getfield 10, 3), (24, .invokevirtual 127, 3), (27, .aload_n 0, 1), (28, .iconst 1, 1), (29, .putfield 240, 3), (32, .goto 19, 3), (35, .aload_n 0, 1), (36, .getfield 22, 3), (39, .aload_n 0, 1), (40, .getfield 10, 3), (43, .invokevirtual 127, 3), (46, .aload_n 0, 1), (47, .iconst 1, 1), (48, .putfield 244, 3), (51, .iconst 1, 1), (52, .ireturn, 1)]
def pj_r92 : List (Nat × Instr × Nat) := [(0, .iload_n 1, 1), (1, .iconst 0, 1), (2, .iconst 1, 1), (3, .invokestatic 64, 3), (6, .ifCond .ne 6, 3), (9, .bipush (-2), 2), (11, .ireturn, 1), (12, .iload_n 1, 1), (13, .ifCond .ne 10, 3), (16, .aload_n 0, 1), (17, .getfield 240, 3), (20, .goto 7, 3), (23, .aload_n 0, 1), (24, .getfield 244, 3), (27, .istore_n 2, 1), (28, .iload_n 2, 1), (29, .ifCond .ne 6, 3), (32, .bipush (-3), 2), (34, .ireturn, 1), (35, .aload_n 0, 1), (36, .getfield 10, 3), (39, .iload_n 1, 1), (40, .ifCond .ne 10, 3), (43, .aload_n 0, 1), (44, .getfield 19, 3), (47, .goto 7, 3), (50, .aload_n 0, 1), (51, .getfield 22, 3), (54, .invokevirtual 127, 3), (57, .iconst 1, 1), (58, .ireturn, 1)]
def pj_r93 : List (Nat × Instr × Nat) := [(0, .iload_n 1, 1), (1, .bipush 10, 2), (3, .bipush 25, 2), (5, .invokestatic 64, 3), (8, .ifCond .eq 15, 3), (11, .aload_n 0, 1), (12, .getfield 10, 3), (15, .iload_n 1, 1), (16, .bipush 10, 2), (18, .isub, 1), (19, .invokevirtual 68, 3), (22, .ireturn, 1), (23, .iload_n 1, 1), (24, .bipush 30, 2), (26, .bipush 37, 2), (28, .invokestatic 64, 3), (31, .ifCond .eq 15, 3), (34, .aload_n 0, 1), (35, .getfield 10, 3), (38, .iload_n 1, 1), (39, .bipush 30, 2), (41, .isub, 1), (42, .invokevirtual 84, 3), (45, .ireturn, 1), (46, .iload_n 1, 1), (47, .bipush 41, 2), (49, .bipush 45, 2), (51, .invokestatic 64, 3), (54, .ifCond .eq 15, 3), (57, .aload_n 0, 1), (58, .getfield 10, 3), (61, .iload_n 1, 1), (62, .bipush 40, 2), (64, .isub, 1), (65, .invokevirtual 93, 3), (68, .ireturn, 1), (69, .iload_n 1, 1), (70, .tableswitch 62 0 3 #[30, 38, 46, 54], 30), (100, .aload_n 0, 1), (101, .getfield 28, 3), (104, .invokevirtual 102, 3), (107, .ireturn, 1), (108, .aload_n 0, 1), (109, .getfield 10, 3), (112, .getfield 134, 3), (115, .ireturn, 1), (116, .aload_n 0, 1), (117, .getfield 10, 3), (120, .getfield 140, 3), (123, .ireturn, 1), (124, .aload_n 0, 1), (125, .getfield 10, 3), (128, .getfield 188, 3), (131, .ireturn, 1), (132, .bipush (-2), 2), (134, .ireturn, 1)]
def pj_r94 : List (Nat × Instr × Nat) := [(0, .iload_n 0, 1), (1, .iload_n 1, 1), (2, .if_icmp .lt 12, 3), (5, .iload_n 0, 1), (6, .iload_n 2, 1), (7, .if_icmp .gt 7, 3), (10, .iconst 1, 1), (11, .goto 4, 3), (14, .iconst 0, 1), (15, .ireturn, 1)]
def pj_r95 : List (Nat × Instr × Nat) := [(0, .iload_n 0, 1), (1, .iconst 0, 1), (2, .bipush 15, 2), (4, .invokestatic 64, 3), (7, .ireturn, 1)]
def pj_r96 : List (Nat × Instr × Nat) := [(0, .iload_n 0, 1), (1, .iconst 0, 1), (2, .bipush 7, 2), (4, .invokestatic 64, 3), (7, .ireturn, 1)]
def pj_r97 : List (Nat × Instr × Nat) := [(0, .iload_n 0, 1), (1, .iconst 1, 1), (2, .iconst 5, 1), (3, .invokestatic 64, 3), (6, .ireturn, 1)]
def pj_r98 : List (Nat × Instr × Nat) := [(0, .iload_n 1, 1), (1, .ifCond .ne 10, 3), (4, .iload_n 0, 1), (5, .invokestatic 247, 3), (8, .goto 4, 3), (11, .iload_n 0, 1), (12, .ireturn, 1)]
def pj_r99 : List (Nat × Instr × Nat) := [(0, .aload_n 0, 1), (1, .getfield 28, 3), (4, .invokevirtual 109, 3), (7, .bipush (-6), 2), (9, .if_icmp .eq 5, 3), (12, .iconst 0, 1), (13, .ireturn, 1), (14, .aload_n 0, 1), (15, .getfield 35, 3), (18, .aload_n 0, 1), (19, .getfield 28, 3), (22, .aload_n 0, 1), (23, .getfield 10, 3), (26, .aload_n 0, 1), (27, .getfield 16, 3), (30, .invokevirtual 112, 3), (33, .aload_n 0, 1), (34, .getfield 35, 3), (37, .getfield 116, 3), (40, .bipush (-6), 2), (42, .if_icmp .ne 7, 3), (45, .iconst 1, 1), (46, .goto 4, 3), (49, .iconst 0, 1), (50, .ireturn, 1)]
def pj_r100 : List (Nat × Instr × Nat) := [(0, .iconst 0, 1), (1, .istore_n 2, 1), (2, .iconst 1, 1), (3, .istore_n 3, 1), (4, .iload_n 3, 1), (5, .sipush 256, 3), (8, .if_icmp .ge 53, 3), (11, .iload_n 2, 1), (12, .ifCond .eq 14, 3), (15, .iload_n 3, 1), (16, .invokestatic 247, 3), (19, .iload_n 2, 1), (20, .invokestatic 247, 3), (23, .if_icmp .ge 7, 3), (26, .iconst 1, 1), (27, .goto 4, 3), (30, .iconst 0, 1), (31, .istore 4, 2), (33, .iload 4, 2), (35, .ifCond .eq 20, 3), (38, .iload_n 1, 1), (39, .aload_n 0, 1), (40, .getfield 10, 3), (43, .iload_n 3, 1), (44, .invokevirtual 252, 3), (47, .iconst (-1), 1), (48, .ixor, 1), (49, .iand, 1), (50, .ifCond .ne 5, 3), (53, .iload_n 3, 1), (54, .istore_n 2, 1), (55, .iinc 3 1, 3), (58, .goto (-54), 3), (61, .iload_n 2, 1), (62, .ireturn, 1)]
def pj_r101 : List (Nat × Instr × Nat) := [(0, .aload_n 0, 1), (1, .invokespecial 1, 3), (4, .aload_n 0, 1), (5, .bipush 32, 2), (7, .newarray .int, 2), (9, .putfield 7, 3), (12, .aload_n 0, 1), (13, .bipush 32, 2), (15, .newarray .int, 2), (17, .putfield 13, 3), (20, .aload_n 0, 1), (21, .bipush 16, 2), (23, .newarray .int, 2), (25, .putfield 16, 3), (28, .aload_n 0, 1), (29, .bipush 60, 2), (31, .newarray .int, 2), (33, .putfield 19, 3), (36, .aload_n 0, 1), (37, .sipush 326, 3), (40, .newarray .long, 2), (42, .putfield 22, 3), (45, .aload_n 0, 1), (46, .bipush 6, 2), (48, .newarray .int, 2), (50, .putfield 26, 3), (53, .aload_n 0, 1), (54, .bipush 18, 2), (56, .newarray .long, 2), (58, .putfield 29, 3), (61, .aload_n 0, 1), (62, .bipush 100, 2), (64, .newarray .int, 2), (66, .putfield 32, 3), (69, .aload_n 0, 1), (70, .iconst 2, 1), (71, .newarray .boolean, 2), (73, .putfield 35, 3), (76, .iconst 1, 1), (77, .istore_n 1, 1), (78, .iload_n 1, 1), (79, .bipush 6, 2), (81, .if_icmp .ge 20, 3), (84, .aload_n 0, 1), (85, .getfield 7, 3), (88, .bipush 24, 2), (90, .iload_n 1, 1), (91, .iadd, 1), (92, .bipush 50, 2), (94, .iastore, 1), (95, .iinc 1 1, 3), (98, .goto (-20), 3), (101, .return_, 1)]
def pj_r102 : List (Nat × Instr × Nat) := [(0, .iload_n 0, 1), (1, .iload_n 1, 1), (2, .if_icmp .lt 12, 3), (5, .iload_n 0, 1), (6, .iload_n 2, 1), (7, .if_icmp .gt 7, 3), (10, .iconst 1, 1), (11, .goto 4, 3), (14, .iconst 0, 1), (15, .ireturn, 1)]
def pj_r103 : List (Nat × Instr × Nat) := [(0, .iload_n 0, 1), (1, .iload_n 1, 1), (2, .ishr, 1), (3, .iconst 1, 1), (4, .iand, 1), (5, .iconst 1, 1), (6, .if_icmp .ne 7, 3), (9, .iconst 1, 1), (10, .goto 4, 3), (13, .iconst 0, 1), (14, .ireturn, 1)]
def pj_r104 : List (Nat × Instr × Nat) := [(0, .iconst 0, 1), (1, .istore_n 1, 1), (2, .iconst 0, 1), (3, .istore_n 2, 1), (4, .iload_n 2, 1), (5, .bipush 16, 2), (7, .if_icmp .ge 17, 3), (10, .iload_n 1, 1), (11, .iload_n 0, 1), (12, .iload_n 2, 1), (13, .ishr, 1), (14, .iconst 1, 1), (15, .iand, 1), (16, .iadd, 1), (17, .istore_n 1, 1), (18, .iinc 2 1, 3), (21, .goto (-17), 3), (24, .iload_n 1, 1), (25, .ireturn, 1)]
def pj_r105 : List (Nat × Instr × Nat) := [(0, .iload_n 0, 1), (1, .iconst 0, 1), (2, .bipush 15, 2), (4, .invokestatic 39, 3), (7, .ireturn, 1)]
def pj_r106 : List (Nat × Instr × Nat) := [(0, .iload_n 0, 1), (1, .iconst 0, 1), (2, .bipush 7, 2), (4, .invokestatic 39, 3), (7, .ireturn, 1)]
def pj_r107 : List (Nat × Instr × Nat) := [(0, .iload_n 1, 1), (1, .invokestatic 43, 3), (4, .ifCond .ne 5, 3), (7, .iconst (-1), 1), (8, .ireturn, 1), (9, .iload_n 2, 1), (10, .iconst 0, 1), (11, .bipush 6, 2), (13, .invokestatic 39, 3), (16, .ifCond .eq 20, 3), (19, .iload_n 3, 1), (20, .iconst 0, 1), (21, .iload_n 2, 1), (22, .ifCond .ne 7, 3), (25, .iconst 0, 1), (26, .goto 4, 3), (29, .iconst 1, 1), (30, .invokestatic 39, 3), (33, .ifCond .ne 6, 3), (36, .bipush (-2), 2), (38, .ireturn, 1), (39, .aload_n 0, 1), (40, .getfield 7, 3), (43, .iload_n 1, 1), (44, .iaload, 1), (45, .istore 4, 2), (47, .aload_n 0, 1), (48, .getfield 7, 3), (51, .iload_n 1, 1), (52, .iload_n 2, 1), (53, .iastore, 1), (54, .aload_n 0, 1), (55, .getfield 7, 3), (58, .bipush 30, 2), (60, .dup2, 1), (61, .iaload, 1), (62, .iconst 1, 1), (63, .iload_n 1, 1), (64, .ishl, 1), (65, .iconst (-1), 1), (66, .ixor, 1), (67, .iand, 1), (68, .iastore, 1), (69, .aload_n 0, 1), (70, .getfield 7, 3), (73, .bipush 30, 2), (75, .dup2, 1), (76, .iaload, 1), (77, .iload_n 3, 1), (78, .iload_n 1, 1), (79, .ishl, 1), (80, .ior, 1), (81, .iastore, 1), (82, .iload 4, 2), (84, .ireturn, 1)]
def pj_r108 : List (Nat × Instr × Nat) := [(0, .iload_n 1, 1), (1, .invokestatic 47, 3), (4, .ifCond .ne 5, 3), (7, .iconst (-1), 1), (8, .ireturn, 1), (9, .iload_n 2, 1), (10, .iconst 0, 1), (11, .ldc 50, 2), (13, .invokestatic 39, 3), (16, .ifCond .ne 6, 3), (19, .bipush (-2), 2), (21, .ireturn, 1), (22, .aload_n 0, 1), (23, .getfield 7, 3), (26, .bipush 16, 2), (28, .iload_n 1, 1), (29, .iadd, 1), (30, .iaload, 1), (31, .istore_n 3, 1), (32, .aload_n 0, 1), (33, .getfield 7, 3), (36, .bipush 16, 2), (38, .iload_n 1, 1), (39, .iadd, 1), (40, .iload_n 2, 1), (41, .iastore, 1), (42, .iload_n 3, 1), (43, .ireturn, 1)]
def pj_r109 : List (Nat × Instr × Nat) := [(0, .iload_n 1, 1), (1, .iconst 1, 1), (2, .iconst 5, 1), (3, .invokestatic 39, 3), (6, .ifCond .ne 5, 3), (9, .iconst (-1), 1), (10, .ireturn, 1), (11, .iload_n 2, 1), (12, .iconst 0, 1), (13, .sipush 999, 3), (16, .invokestatic 39, 3), (19, .ifCond .ne 6, 3), (22, .bipush (-2), 2), (24, .ireturn, 1), (25, .aload_n 0, 1), (26, .getfield 7, 3), (29, .bipush 24, 2), (31, .iload_n 1, 1), (32, .iadd, 1), (33, .iaload, 1), (34, .istore_n 3, 1), (35, .aload_n 0, 1), (36, .getfield 7, 3), (39, .bipush 24, 2), (41, .iload_n 1, 1), (42, .iadd, 1), (43, .iload_n 2, 1), (44, .iastore, 1), (45, .iload_n 3, 1), (46, .ireturn, 1)]
def pj_r110 : List (Nat × Instr × Nat) := [(0, .iload_n 1, 1), (1, .bipush 33, 2), (3, .bipush 126, 2), (5, .invokestatic 39, 3), (8, .ifCond .ne 6, 3), (11, .bipush (-2), 2), (13, .ireturn, 1), (14, .aload_n 0, 1), (15, .getfield 51, 3), (18, .bipush 60, 2), (20, .if_icmp .ne 6, 3), (23, .bipush (-4), 2), (25, .ireturn, 1), (26, .aload_n 0, 1), (27, .getfield 19, 3), (30, .aload_n 0, 1), (31, .getfield 51, 3), (34, .iload_n 1, 1), (35, .iastore, 1), (36, .aload_n 0, 1), (37, .dup, 1), (38, .getfield 51, 3), (41, .iconst 1, 1), (42, .iadd, 1), (43, .putfield 51, 3), (46, .aload_n 0, 1), (47, .getfield 51, 3), (50, .ireturn, 1)]
def pj_r111 : List (Nat × Instr × Nat) := [(0, .aload_n 0, 1), (1, .getfield 51, 3), (4, .istore_n 1, 1), (5, .aload_n 0, 1), (6, .iconst 0, 1), (7, .putfield 51, 3), (10, .iload_n 1, 1), (11, .ireturn, 1)]
def pj_r112 : List (Nat × Instr × Nat) := [(0, .iload_n 0, 1), (1, .tableswitch 116 0 2 #[27, 70, 98], 27), (28, .iload_n 1, 1), (29, .bipush 65, 2), (31, .bipush 72, 2), (33, .invokestatic 39, 3), (36, .ifCond .eq 7, 3), (39, .iconst 1, 1), (40, .goto 30, 3), (43, .iload_n 1, 1), (44, .bipush 97, 2), (46, .bipush 112, 2), (48, .invokestatic 39, 3), (51, .ifCond .eq 7, 3), (54, .iconst 3, 1), (55, .goto 15, 3), (58, .iload_n 1, 1), (59, .bipush 46, 2), (61, .if_icmp .ne 7, 3), (64, .iconst 0, 1), (65, .goto 5, 3), (68, .bipush (-6), 2), (70, .ireturn, 1), (71, .iload_n 1, 1), (72, .bipush 48, 2), (74, .bipush 51, 2), (76, .invokestatic 39, 3), (79, .ifCond .eq 7, 3), (82, .iconst 2, 1), (83, .goto 15, 3), (86, .iload_n 1, 1), (87, .bipush 126, 2), (89, .if_icmp .ne 7, 3), (92, .iconst 0, 1), (93, .goto 5, 3), (96, .bipush (-6), 2), (98, .ireturn, 1), (99, .iload_n 1, 1), (100, .bipush 49, 2), (102, .bipush 53, 2), (104, .invokestatic 39, 3), (107, .ifCond .eq 7, 3), (110, .iconst 0, 1), (111, .goto 5, 3), (114, .bipush (-6), 2), (116, .ireturn, 1), (117, .iload_n 1, 1), (118, .bipush 45, 2), (120, .if_icmp .ne 7, 3), (123, .iconst 0, 1), (124, .goto 5, 3), (127, .bipush (-6), 2), (129, .ireturn, 1)]
def pj_r113 : List (Nat × Instr × Nat) := [(0, .iconst 0, 1), (1, .istore_n 1, 1), (2, .iconst 0, 1), (3, .istore_n 2, 1), (4, .iload_n 2, 1), (5, .aload_n 0, 1), (6, .getfield 51, 3), (9, .if_icmp .ge 26, 3), (12, .iload_n 1, 1), (13, .aload_n 0, 1), (14, .getfield 19, 3), (17, .iload_n 2, 1), (18, .iaload, 1), (19, .invokestatic 55, 3), (22, .istore_n 1, 1), (23, .iload_n 1, 1), (24, .ifCond .ge 5, 3), (27, .iload_n 2, 1), (28, .ireturn, 1), (29, .iinc 2 1, 3), (32, .goto (-28), 3), (35, .iload_n 1, 1), (36, .ifCond .ne 8, 3), (39, .bipush (-6), 2), (41, .goto 7, 3), (44, .aload_n 0, 1), (45, .getfield 51, 3), (48, .ireturn, 1)]
def pj_r114 : List (Nat × Instr × Nat) := [(0, .aload_n 0, 1), (1, .invokevirtual 59, 3), (4, .ireturn, 1)]
def pj_r115 : List (Nat × Instr × Nat) := [(0, .iconst 0, 1), (1, .istore_n 1, 1), (2, .iconst 0, 1), (3, .istore_n 2, 1), (4, .iload_n 2, 1), (5, .bipush 16, 2), (7, .if_icmp .ge 37, 3), (10, .iload_n 1, 1), (11, .iload_n 0, 1), (12, .iload_n 2, 1), (13, .invokestatic 63, 3), (16, .ifCond .eq 19, 3), (19, .iconst 1, 1), (20, .iconst 4, 1), (21, .iload_n 2, 1), (22, .iconst 4, 1), (23, .irem, 1), (24, .imul, 1), (25, .iconst 3, 1), (26, .iadd, 1), (27, .iload_n 2, 1), (28, .iconst 4, 1), (29, .idiv, 1), (30, .isub, 1), (31, .ishl, 1), (32, .goto 4, 3), (35, .iconst 0, 1), (36, .ior, 1), (37, .istore_n 1, 1), (38, .iinc 2 1, 3), (41, .goto (-37), 3), (44, .iload_n 1, 1), (45, .ireturn, 1)]
def pj_r116 : List (Nat × Instr × Nat) := [(0, .iconst 0, 1), (1, .istore_n 1, 1), (2, .iconst 0, 1), (3, .istore_n 2, 1), (4, .iload_n 2, 1), (5, .bipush 16, 2), (7, .if_icmp .ge 37, 3), (10, .iload_n 1, 1), (11, .iload_n 0, 1), (12, .iload_n 2, 1), (13, .invokestatic 63, 3), (16, .ifCond .eq 19, 3), (19, .iconst 1, 1), (20, .iload_n 2, 1), (21, .iconst 4, 1), (22, .idiv, 1), (23, .iconst 4, 1), (24, .imul, 1), (25, .iconst 3, 1), (26, .iadd, 1), (27, .iload_n 2, 1), (28, .iconst 4, 1), (29, .irem, 1), (30, .isub, 1), (31, .ishl, 1), (32, .goto 4, 3), (35, .iconst 0, 1), (36, .ior, 1), (37, .istore_n 1, 1), (38, .iinc 2 1, 3), (41, .goto (-37), 3), (44, .iload_n 1, 1), (45, .ireturn, 1)]
def pj_r117 : List (Nat × Instr × Nat) := [(0, .iload_n 0, 1), (1, .istore_n 2, 1), (2, .iconst 0, 1), (3, .istore_n 3, 1), (4, .iload_n 3, 1), (5, .iload_n 1, 1), (6, .if_icmp .ge 14, 3), (9, .iload_n 2, 1), (10, .invokestatic 67, 3), (13, .istore_n 2, 1), (14, .iinc 3 1, 3), (17, .goto (-13), 3), (20, .iload_n 2, 1), (21, .ireturn, 1)]
def pj_r118 : List (Nat × Instr × Nat) := [(0, .iload_n 1, 1), (1, .invokestatic 47, 3), (4, .ifCond .ne 5, 3), (7, .iconst (-1), 1), (8, .ireturn, 1), (9, .iload_n 2, 1), (10, .iconst 0, 1), (11, .bipush 7, 2), (13, .invokestatic 39, 3), (16, .ifCond .ne 6, 3), (19, .bipush (-2), 2), (21, .ireturn, 1), (22, .iload_n 2, 1), (23, .iconst 3, 1), (24, .if_icmp .le 18, 3), (27, .aload_n 0, 1), (28, .getfield 7, 3), (31, .bipush 16, 2), (33, .iload_n 1, 1), (34, .iadd, 1), (35, .iaload, 1), (36, .invokestatic 71, 3), (39, .goto 12, 3), (42, .aload_n 0, 1), (43, .getfield 7, 3), (46, .bipush 16, 2), (48, .iload_n 1, 1), (49, .iadd, 1), (50, .iaload, 1), (51, .iload_n 2, 1), (52, .iconst 4, 1), (53, .irem, 1), (54, .invokestatic 74, 3), (57, .ireturn, 1)]
def pj_r119 : List (Nat × Instr × Nat) := [(0, .iconst 0, 1), (1, .istore_n 1, 1), (2, .iload_n 1, 1), (3, .bipush 32, 2), (5, .if_icmp .ge 21, 3), (8, .aload_n 0, 1), (9, .getfield 13, 3), (12, .iload_n 1, 1), (13, .aload_n 0, 1), (14, .getfield 7, 3), (17, .iload_n 1, 1), (18, .iaload, 1), (19, .iastore, 1), (20, .iinc 1 1, 3), (23, .goto (-21), 3), (26, .aload_n 0, 1), (27, .iconst 0, 1), (28, .putfield 77, 3), (31, .aload_n 0, 1), (32, .bipush (-6), 2), (34, .putfield 80, 3), (37, .aload_n 0, 1), (38, .bipush (-6), 2), (40, .putfield 83, 3), (43, .return_, 1)]
def pj_r120 : List (Nat × Instr × Nat) := [(0, .iconst 0, 1), (1, .istore_n 2, 1), (2, .iconst 0, 1), (3, .istore_n 3, 1), (4, .iload_n 3, 1), (5, .bipush 16, 2), (7, .if_icmp .ge 29, 3), (10, .iload_n 2, 1), (11, .aload_n 0, 1), (12, .getfield 13, 3), (15, .iload_n 3, 1), (16, .iaload, 1), (17, .iload_n 1, 1), (18, .if_icmp .ne 9, 3), (21, .iconst 1, 1), (22, .iload_n 3, 1), (23, .ishl, 1), (24, .goto 4, 3), (27, .iconst 0, 1), (28, .ior, 1), (29, .istore_n 2, 1), (30, .iinc 3 1, 3), (33, .goto (-29), 3), (36, .iload_n 2, 1), (37, .ireturn, 1)]
def pj_r121 : List (Nat × Instr × Nat) := [(0, .aload_n 0, 1), (1, .getfield 13, 3), (4, .bipush 16, 2), (6, .iload_n 1, 1), (7, .iadd, 1), (8, .iaload, 1), (9, .iload_n 2, 1), (10, .invokestatic 74, 3), (13, .istore 4, 2), (15, .iload 4, 2), (17, .ifCond .ne 5, 3), (20, .iconst 1, 1), (21, .ireturn, 1), (22, .aload_n 0, 1), (23, .getfield 13, 3), (26, .bipush 24, 2), (28, .iload_n 3, 1), (29, .iadd, 1), (30, .iaload, 1), (31, .iload 4, 2), (33, .invokestatic 86, 3), (36, .if_icmp .ge 5, 3), (39, .iconst 2, 1), (40, .ireturn, 1), (41, .iconst 0, 1), (42, .istore 5, 2), (44, .iload 5, 2), (46, .bipush 16, 2), (48, .if_icmp .ge 58, 3), (51, .iload 4, 2), (53, .iload 5, 2), (55, .invokestatic 63, 3), (58, .ifCond .eq 42, 3), (61, .aload_n 0, 1), (62, .getfield 13, 3), (65, .iload 5, 2), (67, .aload_n 0, 1), (68, .getfield 13, 3), (71, .bipush 30, 2), (73, .iaload, 1), (74, .iload 5, 2), (76, .invokestatic 63, 3), (79, .ifCond .eq 19, 3), (82, .aload_n 0, 1), (83, .getfield 13, 3), (86, .iload 5, 2), (88, .iaload, 1), (89, .iload_n 3, 1), (90, .if_icmp .eq 8, 3), (93, .bipush 6, 2), (95, .goto 4, 3), (98, .iload_n 3, 1), (99, .iastore, 1), (100, .iinc 5 1, 3), (103, .goto (-59), 3), (106, .aload_n 0, 1), (107, .getfield 13, 3), (110, .bipush 30, 2), (112, .dup2, 1), (113, .iaload, 1), (114, .iload 4, 2), (116, .ior, 1), (117, .iastore, 1), (118, .aload_n 0, 1), (119, .getfield 13, 3), (122, .bipush 24, 2), (124, .iload_n 3, 1), (125, .iadd, 1), (126, .dup2, 1), (127, .iaload, 1), (128, .iload 4, 2), (130, .invokestatic 86, 3), (133, .isub, 1), (134, .iastore, 1), (135, .aload_n 0, 1), (136, .dup, 1), (137, .getfield 77, 3), (140, .iload 4, 2), (142, .invokestatic 86, 3), (145, .iadd, 1), (146, .putfield 77, 3), (149, .iconst 0, 1), (150, .ireturn, 1)]
def pj_r122 : List (Nat × Instr × Nat) := [(0, .aload_n 0, 1), (1, .getfield 13, 3), (4, .bipush 16, 2), (6, .iload_n 1, 1), (7, .iadd, 1), (8, .iaload, 1), (9, .invokestatic 71, 3), (12, .istore_n 2, 1), (13, .iload_n 2, 1), (14, .aload_n 0, 1), (15, .getfield 13, 3), (18, .bipush 16, 2), (20, .iload_n 1, 1), (21, .iadd, 1), (22, .iaload, 1), (23, .if_icmp .ne 5, 3), (26, .iconst 3, 1), (27, .ireturn, 1), (28, .aload_n 0, 1), (29, .getfield 13, 3), (32, .bipush 16, 2), (34, .iload_n 1, 1), (35, .iadd, 1), (36, .iload_n 2, 1), (37, .iastore, 1), (38, .iconst 0, 1), (39, .ireturn, 1)]
def pj_r123 : List (Nat × Instr × Nat) := [(0, .aload_n 0, 1), (1, .getfield 13, 3), (4, .iload_n 1, 1), (5, .iaload, 1), (6, .ifCond .ne 5, 3), (9, .iconst 4, 1), (10, .ireturn, 1), (11, .aload_n 0, 1), (12, .getfield 13, 3), (15, .iload_n 1, 1), (16, .iconst 0, 1), (17, .iastore, 1), (18, .aload_n 0, 1), (19, .getfield 13, 3), (22, .bipush 30, 2), (24, .dup2, 1), (25, .iaload, 1), (26, .iconst 1, 1), (27, .iload_n 1, 1), (28, .ishl, 1), (29, .iconst (-1), 1), (30, .ixor, 1), (31, .iand, 1), (32, .iastore, 1), (33, .iconst 0, 1), (34, .ireturn, 1)]
def pj_r124 : List (Nat × Instr × Nat) := [(0, .aload_n 0, 1), (1, .getfield 13, 3), (4, .bipush 31, 2), (6, .iaload, 1), (7, .bipush 99, 2), (9, .if_icmp .ne 5, 3), (12, .iconst 5, 1), (13, .ireturn, 1), (14, .aload_n 0, 1), (15, .getfield 13, 3), (18, .bipush 31, 2), (20, .dup2, 1), (21, .iaload, 1), (22, .iconst 1, 1), (23, .iadd, 1), (24, .iastore, 1), (25, .aload_n 0, 1), (26, .getfield 13, 3), (29, .bipush 30, 2), (31, .iconst 0, 1), (32, .iastore, 1), (33, .iconst 0, 1), (34, .ireturn, 1)]
def pj_r125 : List (Nat × Instr × Nat) := [(0, .aload_n 0, 1), (1, .getfield 19, 3), (4, .iload_n 1, 1), (5, .iaload, 1), (6, .istore_n 2, 1), (7, .iload_n 2, 1), (8, .bipush 97, 2), (10, .bipush 112, 2), (12, .invokestatic 39, 3), (15, .ifCond .eq 12, 3), (18, .aload_n 0, 1), (19, .iload_n 2, 1), (20, .bipush 97, 2), (22, .isub, 1), (23, .invokevirtual 89, 3), (26, .ireturn, 1), (27, .aload_n 0, 1), (28, .getfield 19, 3), (31, .iload_n 1, 1), (32, .iconst 1, 1), (33, .iadd, 1), (34, .iaload, 1), (35, .bipush 126, 2), (37, .if_icmp .ne 14, 3), (40, .aload_n 0, 1), (41, .iload_n 2, 1), (42, .bipush 65, 2), (44, .isub, 1), (45, .invokevirtual 92, 3), (48, .goto 33, 3), (51, .aload_n 0, 1), (52, .iload_n 2, 1), (53, .bipush 65, 2), (55, .isub, 1), (56, .aload_n 0, 1), (57, .getfield 19, 3), (60, .iload_n 1, 1), (61, .iconst 1, 1), (62, .iadd, 1), (63, .iaload, 1), (64, .bipush 48, 2), (66, .isub, 1), (67, .aload_n 0, 1), (68, .getfield 19, 3), (71, .iload_n 1, 1), (72, .iconst 2, 1), (73, .iadd, 1), (74, .iaload, 1), (75, .bipush 48, 2), (77, .isub, 1), (78, .invokevirtual 95, 3), (81, .ireturn, 1)]
def pj_r126 : List (Nat × Instr × Nat) := [(0, .aload_n 0, 1), (1, .invokevirtual 99, 3), (4, .aload_n 0, 1), (5, .iconst 0, 1), (6, .putfield 102, 3), (9, .iconst 0, 1), (10, .istore_n 1, 1), (11, .iload_n 1, 1), (12, .aload_n 0, 1), (13, .getfield 51, 3), (16, .if_icmp .ge 173, 3), (19, .aload_n 0, 1), (20, .bipush 6, 2), (22, .invokevirtual 105, 3), (25, .istore_n 2, 1), (26, .aload_n 0, 1), (27, .getfield 19, 3), (30, .iload_n 1, 1), (31, .iaload, 1), (32, .bipush 46, 2), (34, .if_icmp .ne 7, 3), (37, .iconst 1, 1), (38, .goto 4, 3), (41, .iconst 0, 1), (42, .istore_n 3, 1), (43, .aload_n 0, 1), (44, .iload_n 3, 1), (45, .ifCond .eq 10, 3), (48, .aload_n 0, 1), (49, .invokevirtual 108, 3), (52, .goto 8, 3), (55, .aload_n 0, 1), (56, .iload_n 1, 1), (57, .invokevirtual 111, 3), (60, .putfield 114, 3), (63, .iload_n 1, 1), (64, .iload_n 3, 1), (65, .ifCond .eq 7, 3), (68, .iconst 1, 1), (69, .goto 34, 3), (72, .aload_n 0, 1), (73, .getfield 19, 3), (76, .iload_n 1, 1), (77, .iconst 1, 1), (78, .iadd, 1), (79, .iaload, 1), (80, .bipush 126, 2), (82, .if_icmp .eq 16, 3), (85, .aload_n 0, 1), (86, .getfield 19, 3), (89, .iload_n 1, 1), (90, .iconst 1, 1), (91, .iadd, 1), (92, .iaload, 1), (93, .bipush 45, 2), (95, .if_icmp .ne 7, 3), (98, .iconst 2, 1), (99, .goto 4, 3), (102, .iconst 3, 1), (103, .iadd, 1), (104, .istore_n 1, 1), (105, .aload_n 0, 1), (106, .getfield 114, 3), (109, .ifCond .le 8, 3), (112, .aload_n 0, 1), (113, .getfield 102, 3), (116, .ireturn, 1), (117, .aload_n 0, 1), (118, .bipush 6, 2), (120, .invokevirtual 105, 3), (123, .iload_n 2, 1), (124, .iconst (-1), 1), (125, .ixor, 1), (126, .iand, 1), (127, .istore 4, 2), (129, .iconst 0, 1), (130, .istore 5, 2), (132, .iload 5, 2), (134, .bipush 16, 2), (136, .if_icmp .ge 40, 3), (139, .aload_n 0, 1), (140, .getfield 80, 3), (143, .ifCond .ge 33, 3), (146, .iload 4, 2), (148, .iload 5, 2), (150, .invokestatic 63, 3), (153, .ifCond .eq 17, 3), (156, .aload_n 0, 1), (157, .aload_n 0, 1), (158, .getfield 102, 3), (161, .putfield 80, 3), (164, .aload_n 0, 1), (165, .iload 5, 2), (167, .putfield 83, 3), (170, .iinc 5 1, 3), (173, .goto (-41), 3), (176, .aload_n 0, 1), (177, .dup, 1), (178, .getfield 102, 3), (181, .iconst 1, 1), (182, .iadd, 1), (183, .putfield 102, 3), (186, .goto (-175), 3), (189, .bipush (-6), 2), (191, .ireturn, 1)]
def pj_r127 : List (Nat × Instr × Nat) := [(0, .iload_n 1, 1), (1, .iconst 0, 1), (2, .iconst 1, 1), (3, .invokestatic 39, 3), (6, .ifCond .ne 6, 3), (9, .bipush (-2), 2), (11, .ireturn, 1), (12, .aload_n 0, 1), (13, .invokevirtual 59, 3), (16, .ifCond .lt 6, 3), (19, .bipush (-5), 2), (21, .ireturn, 1), (22, .aload_n 0, 1), (23, .invokevirtual 117, 3), (26, .istore_n 2, 1), (27, .iload_n 2, 1), (28, .ifCond .lt 7, 3), (31, .iload_n 1, 1), (32, .ifCond .ne 7, 3), (35, .iload_n 2, 1), (36, .goto 7, 3), (39, .aload_n 0, 1), (40, .getfield 114, 3), (43, .ireturn, 1)]
def pj_r128 : List (Nat × Instr × Nat) := [(0, .aload_n 0, 1), (1, .invokevirtual 59, 3), (4, .ifCond .ge 10, 3), (7, .aload_n 0, 1), (8, .invokevirtual 117, 3), (11, .ifCond .lt 8, 3), (14, .bipush (-5), 2), (16, .goto 4, 3), (19, .iconst 0, 1), (20, .ireturn, 1)]
def pj_r129 : List (Nat × Instr × Nat) := [(0, .aload_n 0, 1), (1, .invokevirtual 120, 3), (4, .ifCond .ge 6, 3), (7, .bipush (-5), 2), (9, .ireturn, 1), (10, .iconst 0, 1), (11, .istore_n 1, 1), (12, .iload_n 1, 1), (13, .bipush 32, 2), (15, .if_icmp .ge 21, 3), (18, .aload_n 0, 1), (19, .getfield 7, 3), (22, .iload_n 1, 1), (23, .aload_n 0, 1), (24, .getfield 13, 3), (27, .iload_n 1, 1), (28, .iaload, 1), (29, .iastore, 1), (30, .iinc 1 1, 3), (33, .goto (-21), 3), (36, .aload_n 0, 1), (37, .iconst 0, 1), (38, .putfield 51, 3), (41, .aload_n 0, 1), (42, .getfield 102, 3), (45, .ireturn, 1)]
def pj_r130 : List (Nat × Instr × Nat) := [(0, .iload_n 1, 1), (1, .invokestatic 43, 3), (4, .ifCond .ne 5, 3), (7, .iconst (-1), 1), (8, .ireturn, 1), (9, .iload_n 2, 1), (10, .iconst 0, 1), (11, .iconst 1, 1), (12, .invokestatic 39, 3), (15, .ifCond .ne 6, 3), (18, .bipush (-2), 2), (20, .ireturn, 1), (21, .aload_n 0, 1), (22, .invokevirtual 120, 3), (25, .ifCond .ge 8, 3), (28, .bipush (-5), 2), (30, .goto 27, 3), (33, .iload_n 2, 1), (34, .ifCond .ne 12, 3), (37, .aload_n 0, 1), (38, .getfield 13, 3), (41, .iload_n 1, 1), (42, .iaload, 1), (43, .goto 14, 3), (46, .aload_n 0, 1), (47, .getfield 13, 3), (50, .bipush 30, 2), (52, .iaload, 1), (53, .iload_n 1, 1), (54, .ishr, 1), (55, .iconst 1, 1), (56, .iand, 1), (57, .ireturn, 1)]
def pj_r131 : List (Nat × Instr × Nat) := [(0, .iload_n 1, 1), (1, .iconst 1, 1), (2, .iconst 5, 1), (3, .invokestatic 39, 3), (6, .ifCond .ne 5, 3), (9, .iconst (-1), 1), (10, .ireturn, 1), (11, .aload_n 0, 1), (12, .invokevirtual 120, 3), (15, .ifCond .ge 8, 3), (18, .bipush (-5), 2), (20, .goto 12, 3), (23, .aload_n 0, 1), (24, .getfield 13, 3), (27, .bipush 24, 2), (29, .iload_n 1, 1), (30, .iadd, 1), (31, .iaload, 1), (32, .ireturn, 1)]
def pj_r132 : List (Nat × Instr × Nat) := [(0, .iload_n 1, 1), (1, .iconst 0, 1), (2, .bipush 6, 2), (4, .invokestatic 39, 3), (7, .ifCond .ne 6, 3), (10, .bipush (-2), 2), (12, .ireturn, 1), (13, .aload_n 0, 1), (14, .invokevirtual 120, 3), (17, .ifCond .ge 6, 3), (20, .bipush (-5), 2), (22, .ireturn, 1), (23, .iload_n 1, 1), (24, .tableswitch 70 0 4 #[36, 46, 55, 55, 65], 36), (60, .aload_n 0, 1), (61, .bipush 6, 2), (63, .invokevirtual 105, 3), (66, .invokestatic 86, 3), (69, .ireturn, 1), (70, .aload_n 0, 1), (71, .iconst 0, 1), (72, .invokevirtual 105, 3), (75, .invokestatic 86, 3), (78, .ireturn, 1), (79, .aload_n 0, 1), (80, .getfield 13, 3), (83, .bipush 28, 2), (85, .iload_n 1, 1), (86, .iadd, 1), (87, .iaload, 1), (88, .ireturn, 1), (89, .aload_n 0, 1), (90, .getfield 77, 3), (93, .ireturn, 1), (94, .iload_n 1, 1), (95, .iconst 5, 1), (96, .if_icmp .ne 10, 3), (99, .aload_n 0, 1), (100, .getfield 80, 3), (103, .goto 7, 3), (106, .aload_n 0, 1), (107, .getfield 83, 3), (110, .ireturn, 1)]
def pj_r133 : List (Nat × Instr × Nat) := [(0, .iload_n 0, 1), (1, .istore_n 2, 1), (2, .iconst 0, 1), (3, .istore_n 3, 1), (4, .iload_n 2, 1), (5, .iload_n 3, 1), (6, .if_icmp .eq 128, 3), (9, .iload_n 2, 1), (10, .istore_n 3, 1), (11, .iconst 0, 1), (12, .istore 4, 2), (14, .iload 4, 2), (16, .bipush 16, 2), (18, .if_icmp .ge 113, 3), (21, .iload 4, 2), (23, .iconst 4, 1), (24, .irem, 1), (25, .ifCond .le 14, 3), (28, .iload_n 3, 1), (29, .iload 4, 2), (31, .iconst 1, 1), (32, .isub, 1), (33, .invokestatic 63, 3), (36, .ifCond .ne 57, 3), (39, .iload 4, 2), (41, .iconst 4, 1), (42, .irem, 1), (43, .iconst 3, 1), (44, .if_icmp .ge 14, 3), (47, .iload_n 3, 1), (48, .iload 4, 2), (50, .iconst 1, 1), (51, .iadd, 1), (52, .invokestatic 63, 3), (55, .ifCond .ne 38, 3), (58, .iload 4, 2), (60, .iconst 3, 1), (61, .if_icmp .le 14, 3), (64, .iload_n 3, 1), (65, .iload 4, 2), (67, .iconst 4, 1), (68, .isub, 1), (69, .invokestatic 63, 3), (72, .ifCond .ne 21, 3), (75, .iload 4, 2), (77, .bipush 12, 2), (79, .if_icmp .ge 18, 3), (82, .iload_n 3, 1), (83, .iload 4, 2), (85, .iconst 4, 1), (86, .iadd, 1), (87, .invokestatic 63, 3), (90, .ifCond .eq 7, 3), (93, .iconst 1, 1), (94, .goto 4, 3), (97, .iconst 0, 1), (98, .istore 5, 2), (100, .iload_n 2, 1), (101, .iload 5, 2), (103, .ifCond .eq 19, 3), (106, .iload_n 1, 1), (107, .iload 4, 2), (109, .invokestatic 63, 3), (112, .ifCond .eq 10, 3), (115, .iconst 1, 1), (116, .iload 4, 2), (118, .ishl, 1), (119, .goto 4, 3), (122, .iconst 0, 1), (123, .ior, 1), (124, .istore_n 2, 1), (125, .iinc 4 1, 3), (128, .goto (-114), 3), (131, .goto (-127), 3), (134, .iload_n 2, 1), (135, .ireturn, 1)]
def pj_r134 : List (Nat × Instr × Nat) := [(0, .iload_n 1, 1), (1, .iconst 0, 1), (2, .iconst 1, 1), (3, .invokestatic 39, 3), (6, .ifCond .ne 6, 3), (9, .bipush (-2), 2), (11, .ireturn, 1), (12, .aload_n 0, 1), (13, .invokevirtual 99, 3), (16, .iconst 0, 1), (17, .istore_n 2, 1), (18, .iconst 0, 1), (19, .istore_n 3, 1), (20, .iload_n 3, 1), (21, .bipush 16, 2), (23, .if_icmp .ge 77, 3), (26, .aload_n 0, 1), (27, .getfield 13, 3), (30, .iload_n 3, 1), (31, .iaload, 1), (32, .ifCond .ne 7, 3), (35, .iconst 0, 1), (36, .goto 19, 3), (39, .iconst 1, 1), (40, .iload_n 3, 1), (41, .ishl, 1), (42, .aload_n 0, 1), (43, .aload_n 0, 1), (44, .getfield 13, 3), (47, .iload_n 3, 1), (48, .iaload, 1), (49, .invokevirtual 105, 3), (52, .invokestatic 123, 3), (55, .istore 4, 2), (57, .iload 4, 2), (59, .invokestatic 86, 3), (62, .iload_n 2, 1), (63, .invokestatic 86, 3), (66, .if_icmp .gt 21, 3), (69, .iload 4, 2), (71, .invokestatic 86, 3), (74, .iload_n 2, 1), (75, .invokestatic 86, 3), (78, .if_icmp .ne 14, 3), (81, .iload 4, 2), (83, .iload_n 2, 1), (84, .if_icmp .ge 8, 3), (87, .iload 4, 2), (89, .goto 4, 3), (92, .iload_n 2, 1), (93, .istore_n 2, 1), (94, .iinc 3 1, 3), (97, .goto (-77), 3), (100, .iload_n 1, 1), (101, .ifCond .ne 10, 3), (104, .iload_n 2, 1), (105, .invokestatic 86, 3), (108, .goto 4, 3), (111, .iload_n 2, 1), (112, .ireturn, 1)]
def pj_r135 : List (Nat × Instr × Nat) := [(0, .iload_n 1, 1), (1, .iconst 0, 1), (2, .iconst 1, 1), (3, .invokestatic 39, 3), (6, .ifCond .ne 6, 3), (9, .bipush (-2), 2), (11, .ireturn, 1), (12, .aload_n 0, 1), (13, .invokevirtual 99, 3), (16, .iconst 0, 1), (17, .istore_n 2, 1), (18, .iconst 0, 1), (19, .istore_n 3, 1), (20, .iload_n 3, 1), (21, .bipush 16, 2), (23, .if_icmp .ge 211, 3), (26, .iload_n 3, 1), (27, .istore 4, 2), (29, .iload 4, 2), (31, .bipush 16, 2), (33, .if_icmp .ge 195, 3), (36, .iconst 0, 1), (37, .istore 5, 2), (39, .aload_n 0, 1), (40, .getfield 13, 3), (43, .iload_n 3, 1), (44, .iaload, 1), (45, .ifCond .le 7, 3), (48, .iconst 1, 1), (49, .goto 4, 3), (52, .iconst 0, 1), (53, .istore 6, 2), (55, .iload_n 3, 1), (56, .istore 7, 2), (58, .iload 7, 2), (60, .iload 4, 2), (62, .if_icmp .gt 101, 3), (65, .iload 7, 2), (67, .iconst 4, 1), (68, .idiv, 1), (69, .iload_n 3, 1), (70, .iconst 4, 1), (71, .idiv, 1), (72, .iload 4, 2), (74, .iconst 4, 1), (75, .idiv, 1), (76, .invokestatic 39, 3), (79, .ifCond .eq 24, 3), (82, .iload 7, 2), (84, .iconst 4, 1), (85, .irem, 1), (86, .iload_n 3, 1), (87, .iconst 4, 1), (88, .irem, 1), (89, .iload 4, 2), (91, .iconst 4, 1), (92, .irem, 1), (93, .invokestatic 39, 3), (96, .ifCond .eq 7, 3), (99, .iconst 1, 1), (100, .goto 4, 3), (103, .iconst 0, 1), (104, .istore 8, 2), (106, .iload 5, 2), (108, .iload 8, 2), (110, .ifCond .eq 10, 3), (113, .iconst 1, 1), (114, .iload 7, 2), (116, .ishl, 1), (117, .goto 4, 3), (120, .iconst 0, 1), (121, .ior, 1), (122, .istore 5, 2), (124, .iload 6, 2), (126, .ifCond .eq 28, 3), (129, .iload 8, 2), (131, .ifCond .eq 19, 3), (134, .aload_n 0, 1), (135, .getfield 13, 3), (138, .iload 7, 2), (140, .iaload, 1), (141, .aload_n 0, 1), (142, .getfield 13, 3), (145, .iload_n 3, 1), (146, .iaload, 1), (147, .if_icmp .ne 7, 3), (150, .iconst 1, 1), (151, .goto 4, 3), (154, .iconst 0, 1), (155, .istore 6, 2), (157, .iinc 7 1, 3), (160, .goto (-102), 3), (163, .iload 5, 2), (165, .invokestatic 86, 3), (168, .iload_n 2, 1), (169, .invokestatic 86, 3), (172, .if_icmp .gt 21, 3), (175, .iload 5, 2), (177, .invokestatic 86, 3), (180, .iload_n 2, 1), (181, .invokestatic 86, 3), (184, .if_icmp .ne 13, 3), (187, .iload 5, 2), (189, .iload_n 2, 1), (190, .if_icmp .ge 7, 3), (193, .iconst 1, 1), (194, .goto 4, 3), (197, .iconst 0, 1), (198, .istore 7, 2), (200, .iload 6, 2), (202, .ifCond .eq 18, 3), (205, .iload 5, 2), (207, .ifCond .eq 13, 3), (210, .iload 7, 2), (212, .ifCond .eq 8, 3), (215, .iload 5, 2), (217, .goto 4, 3), (220, .iload_n 2, 1), (221, .istore_n 2, 1), (222, .iinc 4 1, 3), (225, .goto (-196), 3), (228, .iinc 3 1, 3), (231, .goto (-211), 3), (234, .iload_n 1, 1), (235, .ifCond .ne 10, 3), (238, .iload_n 2, 1), (239, .invokestatic 86, 3), (242, .goto 4, 3), (245, .iload_n 2, 1), (246, .ireturn, 1)]
def pj_r136 : List (Nat × Instr × Nat) := [(0, .iload_n 1, 1), (1, .iconst 1, 1), (2, .ldc 50, 2), (4, .invokestatic 39, 3), (7, .ifCond .eq 12, 3), (10, .iload_n 2, 1), (11, .iconst 0, 1), (12, .iconst 1, 1), (13, .invokestatic 39, 3), (16, .ifCond .ne 6, 3), (19, .bipush (-2), 2), (21, .ireturn, 1), (22, .bipush (-6), 2), (24, .istore_n 3, 1), (25, .iconst 1, 1), (26, .istore 4, 2), (28, .iload 4, 2), (30, .sipush 256, 3), (33, .if_icmp .ge 89, 3), (36, .iconst 0, 1), (37, .istore 5, 2), (39, .iconst 0, 1), (40, .istore 6, 2), (42, .iload 6, 2), (44, .bipush 8, 2), (46, .if_icmp .ge 38, 3), (49, .iload 5, 2), (51, .iload 4, 2), (53, .iload 6, 2), (55, .invokestatic 63, 3), (58, .ifCond .eq 16, 3), (61, .aload_n 0, 1), (62, .getfield 7, 3), (65, .bipush 16, 2), (67, .iload 6, 2), (69, .iadd, 1), (70, .iaload, 1), (71, .goto 4, 3), (74, .iconst 0, 1), (75, .ior, 1), (76, .istore 5, 2), (78, .iinc 6 1, 3), (81, .goto (-39), 3), (84, .iload_n 1, 1), (85, .iload 5, 2), (87, .iconst (-1), 1), (88, .ixor, 1), (89, .iand, 1), (90, .ifCond .ne 24, 3), (93, .iload_n 3, 1), (94, .ifCond .lt 15, 3), (97, .iload 4, 2), (99, .invokestatic 86, 3), (102, .iload_n 3, 1), (103, .invokestatic 86, 3), (106, .if_icmp .ge 8, 3), (109, .iload 4, 2), (111, .goto 4, 3), (114, .iload_n 3, 1), (115, .istore_n 3, 1), (116, .iinc 4 1, 3), (119, .goto (-91), 3), (122, .iload_n 3, 1), (123, .ifCond .lt 8, 3), (126, .iload_n 2, 1), (127, .iconst 1, 1), (128, .if_icmp .ne 7, 3), (131, .iload_n 3, 1), (132, .goto 7, 3), (135, .iload_n 3, 1), (136, .invokestatic 86, 3), (139, .ireturn, 1)]
def pj_r137 : List (Nat × Instr × Nat) := [(0, .lconst 0, 1), (1, .lstore_n 3, 1), (2, .iconst 0, 1), (3, .istore 5, 2), (5, .iconst 1, 1), (6, .istore 6, 2), (8, .iconst 1, 1), (9, .istore 7, 2), (11, .iload 7, 2), (13, .iload_n 2, 1), (14, .if_icmp .ge 15, 3), (17, .iload 6, 2), (19, .iconst 5, 1), (20, .imul, 1), (21, .istore 6, 2), (23, .iinc 7 1, 3), (26, .goto (-15), 3), (29, .iconst 0, 1), (30, .istore 7, 2), (32, .iload 7, 2), (34, .iload_n 2, 1), (35, .if_icmp .ge 118, 3), (38, .iload_n 1, 1), (39, .iload 6, 2), (41, .idiv, 1), (42, .iconst 5, 1), (43, .irem, 1), (44, .istore 8, 2), (46, .iload 6, 2), (48, .iconst 1, 1), (49, .if_icmp .le 10, 3), (52, .iload 6, 2), (54, .iconst 5, 1), (55, .idiv, 1), (56, .goto 4, 3), (59, .iconst 1, 1), (60, .istore 6, 2), (62, .iload 5, 2), (64, .iload 8, 2), (66, .invokestatic 63, 3), (69, .ifCond .eq 7, 3), (72, .ldc2_w 126, 3), (75, .lreturn, 1), (76, .iload 5, 2), (78, .iconst 1, 1), (79, .iload 8, 2), (81, .ishl, 1), (82, .ior, 1), (83, .istore 5, 2), (85, .iconst 0, 1), (86, .istore 9, 2), (88, .iload 9, 2), (90, .bipush 16, 2), (92, .if_icmp .ge 55, 3), (95, .aload_n 0, 1), (96, .getfield 7, 3), (99, .bipush 16, 2), (101, .iload 8, 2), (103, .iadd, 1), (104, .iaload, 1), (105, .iload 9, 2), (107, .invokestatic 63, 3), (110, .ifCond .eq 31, 3), (113, .lload_n 3, 1), (114, .ldc2_w 128, 3), (117, .iconst 3, 1), (118, .iload 9, 2), (120, .imul, 1), (121, .lshl, 1), (122, .ldc2_w 126, 3), (125, .lxor, 1), (126, .land, 1), (127, .lstore_n 3, 1), (128, .lload_n 3, 1), (129, .iload 8, 2), (131, .iconst 1, 1), (132, .iadd, 1), (133, .i2l, 1), (134, .iconst 3, 1), (135, .iload 9, 2), (137, .imul, 1), (138, .lshl, 1), (139, .lor, 1), (140, .lstore_n 3, 1), (141, .iinc 9 1, 3), (144, .goto (-56), 3), (147, .iinc 7 1, 3), (150, .goto (-118), 3), (153, .lload_n 3, 1), (154, .lreturn, 1)]
def pj_r138 : List (Nat × Instr × Nat) := [(0, .iconst 1, 1), (1, .istore_n 1, 1), (2, .iconst 0, 1), (3, .istore_n 2, 1), (4, .iload_n 2, 1), (5, .iload_n 0, 1), (6, .if_icmp .ge 13, 3), (9, .iload_n 1, 1), (10, .iconst 5, 1), (11, .imul, 1), (12, .istore_n 1, 1), (13, .iinc 2 1, 3), (16, .goto (-12), 3), (19, .iload_n 1, 1), (20, .ireturn, 1)]
def pj_r139 : List (Nat × Instr × Nat) := [(0, .iconst 0, 1), (1, .istore_n 1, 1), (2, .iconst 0, 1), (3, .istore_n 2, 1), (4, .iload_n 2, 1), (5, .bipush 6, 2), (7, .if_icmp .ge 103, 3), (10, .iconst 0, 1), (11, .istore_n 3, 1), (12, .iload_n 3, 1), (13, .iload_n 2, 1), (14, .invokestatic 130, 3), (17, .if_icmp .ge 87, 3), (20, .aload_n 0, 1), (21, .iload_n 3, 1), (22, .iload_n 2, 1), (23, .invokevirtual 133, 3), (26, .lstore 4, 2), (28, .lload 4, 2), (30, .lconst 0, 1), (31, .lcmp, 1), (32, .ifCond .lt 7, 3), (35, .iconst 1, 1), (36, .goto 4, 3), (39, .iconst 0, 1), (40, .istore 6, 2), (42, .iconst 0, 1), (43, .istore 7, 2), (45, .iload 7, 2), (47, .iload_n 1, 1), (48, .if_icmp .ge 34, 3), (51, .iload 6, 2), (53, .ifCond .eq 29, 3), (56, .aload_n 0, 1), (57, .getfield 22, 3), (60, .iload 7, 2), (62, .laload, 1), (63, .lload 4, 2), (65, .lcmp, 1), (66, .ifCond .eq 7, 3), (69, .iconst 1, 1), (70, .goto 4, 3), (73, .iconst 0, 1), (74, .istore 6, 2), (76, .iinc 7 1, 3), (79, .goto (-34), 3), (82, .iload 6, 2), (84, .ifCond .eq 14, 3), (87, .aload_n 0, 1), (88, .getfield 22, 3), (91, .iload_n 1, 1), (92, .lload 4, 2), (94, .lastore, 1), (95, .iinc 1 1, 3), (98, .iinc 3 1, 3), (101, .goto (-89), 3), (104, .iinc 2 1, 3), (107, .goto (-103), 3), (110, .iload_n 1, 1), (111, .ireturn, 1)]
def pj_r140 : List (Nat × Instr × Nat) := [(0, .iload_n 1, 1), (1, .iconst 0, 1), (2, .iconst 1, 1), (3, .invokestatic 39, 3), (6, .ifCond .ne 6, 3), (9, .bipush (-2), 2), (11, .ireturn, 1), (12, .lconst 0, 1), (13, .lstore_n 2, 1), (14, .iconst 0, 1), (15, .istore 4, 2), (17, .iload 4, 2), (19, .bipush 16, 2), (21, .if_icmp .ge 25, 3), (24, .lload_n 2, 1), (25, .aload_n 0, 1), (26, .getfield 7, 3), (29, .iload 4, 2), (31, .iaload, 1), (32, .i2l, 1), (33, .iconst 3, 1), (34, .iload 4, 2), (36, .imul, 1), (37, .lshl, 1), (38, .lor, 1), (39, .lstore_n 2, 1), (40, .iinc 4 1, 3), (43, .goto (-26), 3), (46, .iconst 0, 1), (47, .istore 4, 2), (49, .iload 4, 2), (51, .bipush 6, 2), (53, .if_icmp .ge 58, 3), (56, .iconst 0, 1), (57, .istore 5, 2), (59, .iload 5, 2), (61, .iload 4, 2), (63, .invokestatic 130, 3), (66, .if_icmp .ge 39, 3), (69, .aload_n 0, 1), (70, .iload 5, 2), (72, .iload 4, 2), (74, .invokevirtual 133, 3), (77, .lload_n 2, 1), (78, .lcmp, 1), (79, .ifCond .ne 20, 3), (82, .iload_n 1, 1), (83, .ifCond .ne 8, 3), (86, .iload 4, 2), (88, .goto 10, 3), (91, .iload 5, 2), (93, .iload 4, 2), (95, .invokestatic 137, 3), (98, .ireturn, 1), (99, .iinc 5 1, 3), (102, .goto (-43), 3), (105, .iinc 4 1, 3), (108, .goto (-59), 3), (111, .bipush (-6), 2), (113, .ireturn, 1)]
def pj_r141 : List (Nat × Instr × Nat) := [(0, .iconst 0, 1), (1, .istore_n 2, 1), (2, .iconst 1, 1), (3, .istore_n 3, 1), (4, .iload_n 0, 1), (5, .istore 4, 2), (7, .iconst 0, 1), (8, .istore 5, 2), (10, .iload 5, 2), (12, .iload_n 1, 1), (13, .if_icmp .ge 29, 3), (16, .iload_n 2, 1), (17, .iload_n 3, 1), (18, .iload 4, 2), (20, .iconst 5, 1), (21, .irem, 1), (22, .imul, 1), (23, .iadd, 1), (24, .istore_n 2, 1), (25, .iload 4, 2), (27, .iconst 5, 1), (28, .idiv, 1), (29, .istore 4, 2), (31, .iload_n 3, 1), (32, .bipush 10, 2), (34, .imul, 1), (35, .istore_n 3, 1), (36, .iinc 5 1, 3), (39, .goto (-29), 3), (42, .iload_n 3, 1), (43, .iload_n 2, 1), (44, .iadd, 1), (45, .ireturn, 1)]
def pj_r142 : List (Nat × Instr × Nat) := [(0, .iload_n 1, 1), (1, .invokestatic 43, 3), (4, .ifCond .ne 5, 3), (7, .iconst (-1), 1), (8, .ireturn, 1), (9, .aload_n 0, 1), (10, .getfield 140, 3), (13, .bipush 8, 2), (15, .if_icmp .ne 6, 3), (18, .bipush (-4), 2), (20, .ireturn, 1), (21, .aload_n 0, 1), (22, .getfield 16, 3), (25, .iconst 2, 1), (26, .aload_n 0, 1), (27, .getfield 140, 3), (30, .imul, 1), (31, .iload_n 1, 1), (32, .iastore, 1), (33, .aload_n 0, 1), (34, .getfield 16, 3), (37, .iconst 2, 1), (38, .aload_n 0, 1), (39, .getfield 140, 3), (42, .imul, 1), (43, .iconst 1, 1), (44, .iadd, 1), (45, .iload_n 2, 1), (46, .ifCond .eq 7, 3), (49, .iconst 1, 1), (50, .goto 4, 3), (53, .iconst 0, 1), (54, .iastore, 1), (55, .aload_n 0, 1), (56, .dup, 1), (57, .getfield 140, 3), (60, .iconst 1, 1), (61, .iadd, 1), (62, .putfield 140, 3), (65, .aload_n 0, 1), (66, .getfield 140, 3), (69, .ireturn, 1)]
def pj_r143 : List (Nat × Instr × Nat) := [(0, .aload_n 0, 1), (1, .getfield 140, 3), (4, .istore_n 1, 1), (5, .aload_n 0, 1), (6, .iconst 0, 1), (7, .putfield 140, 3), (10, .iload_n 1, 1), (11, .ireturn, 1)]
def pj_r144 : List (Nat × Instr × Nat) := [(0, .aload_n 0, 1), (1, .getfield 7, 3), (4, .bipush 16, 2), (6, .iload_n 1, 1), (7, .bipush 10, 2), (9, .idiv, 1), (10, .iadd, 1), (11, .iaload, 1), (12, .iload_n 1, 1), (13, .bipush 10, 2), (15, .irem, 1), (16, .invokestatic 74, 3), (19, .ireturn, 1)]
def pj_r145 : List (Nat × Instr × Nat) := [(0, .iload_n 1, 1), (1, .bipush 10, 2), (3, .irem, 1), (4, .iconst 4, 1), (5, .if_icmp .ge 7, 3), (8, .iconst 1, 1), (9, .goto 4, 3), (12, .iconst 0, 1), (13, .istore_n 2, 1), (14, .iconst 0, 1), (15, .istore_n 3, 1), (16, .iload_n 3, 1), (17, .aload_n 0, 1), (18, .getfield 140, 3), (21, .if_icmp .ge 57, 3), (24, .iload_n 2, 1), (25, .ifCond .eq 53, 3), (28, .aload_n 0, 1), (29, .iload_n 1, 1), (30, .invokevirtual 143, 3), (33, .aload_n 0, 1), (34, .getfield 16, 3), (37, .iconst 2, 1), (38, .iload_n 3, 1), (39, .imul, 1), (40, .iaload, 1), (41, .invokestatic 63, 3), (44, .aload_n 0, 1), (45, .getfield 16, 3), (48, .iconst 2, 1), (49, .iload_n 3, 1), (50, .imul, 1), (51, .iconst 1, 1), (52, .iadd, 1), (53, .iaload, 1), (54, .iconst 1, 1), (55, .if_icmp .ne 7, 3), (58, .iconst 1, 1), (59, .goto 4, 3), (62, .iconst 0, 1), (63, .if_icmp .ne 7, 3), (66, .iconst 1, 1), (67, .goto 4, 3), (70, .iconst 0, 1), (71, .istore_n 2, 1), (72, .iinc 3 1, 3), (75, .goto (-59), 3), (78, .iload_n 2, 1), (79, .ireturn, 1)]
def pj_r146 : List (Nat × Instr × Nat) := [(0, .iconst 0, 1), (1, .istore_n 2, 1), (2, .iconst 0, 1), (3, .istore_n 3, 1), (4, .iload_n 3, 1), (5, .bipush 80, 2), (7, .if_icmp .ge 27, 3), (10, .aload_n 0, 1), (11, .iload_n 3, 1), (12, .invokevirtual 146, 3), (15, .ifCond .eq 13, 3), (18, .iload_n 2, 1), (19, .iload_n 1, 1), (20, .if_icmp .ne 5, 3), (23, .iload_n 3, 1), (24, .ireturn, 1), (25, .iinc 2 1, 3), (28, .iinc 3 1, 3), (31, .goto (-27), 3), (34, .iload_n 1, 1), (35, .iconst (-1), 1), (36, .if_icmp .ne 7, 3), (39, .iload_n 2, 1), (40, .goto 5, 3), (43, .bipush (-6), 2), (45, .ireturn, 1)]
def pj_r147 : List (Nat × Instr × Nat) := [(0, .iload_n 1, 1), (1, .iconst 0, 1), (2, .iconst 1, 1), (3, .invokestatic 39, 3), (6, .ifCond .ne 6, 3), (9, .bipush (-2), 2), (11, .ireturn, 1), (12, .bipush (-6), 2), (14, .istore_n 2, 1), (15, .ldc 149, 2), (17, .istore_n 3, 1), (18, .iconst 0, 1), (19, .istore 4, 2), (21, .iload 4, 2), (23, .bipush 16, 2), (25, .if_icmp .ge 131, 3), (28, .iconst 0, 1), (29, .istore 5, 2), (31, .iconst 0, 1), (32, .istore 6, 2), (34, .iconst 0, 1), (35, .istore 7, 2), (37, .iload 7, 2), (39, .bipush 80, 2), (41, .if_icmp .ge 45, 3), (44, .aload_n 0, 1), (45, .iload 7, 2), (47, .invokevirtual 146, 3), (50, .ifCond .eq 30, 3), (53, .iinc 5 1, 3), (56, .iload 6, 2), (58, .aload_n 0, 1), (59, .iload 7, 2), (61, .invokevirtual 143, 3), (64, .iload 4, 2), (66, .invokestatic 63, 3), (69, .ifCond .eq 7, 3), (72, .iconst 1, 1), (73, .goto 4, 3), (76, .iconst 0, 1), (77, .iadd, 1), (78, .istore 6, 2), (80, .iinc 7 1, 3), (83, .goto (-46), 3), (86, .iload 6, 2), (88, .iload 5, 2), (90, .iload 6, 2), (92, .isub, 1), (93, .if_icmp .le 8, 3), (96, .iload 6, 2), (98, .goto 8, 3), (101, .iload 5, 2), (103, .iload 6, 2), (105, .isub, 1), (106, .istore 7, 2), (108, .iload 5, 2), (110, .ifCond .le 13, 3), (113, .iload 7, 2), (115, .iload_n 3, 1), (116, .if_icmp .ge 7, 3), (119, .iconst 1, 1), (120, .goto 4, 3), (123, .iconst 0, 1), (124, .istore 8, 2), (126, .iload 8, 2), (128, .ifCond .eq 8, 3), (131, .iload 4, 2), (133, .goto 4, 3), (136, .iload_n 2, 1), (137, .istore_n 2, 1), (138, .iload 8, 2), (140, .ifCond .eq 8, 3), (143, .iload 7, 2), (145, .goto 4, 3), (148, .iload_n 3, 1), (149, .istore_n 3, 1), (150, .iinc 4 1, 3), (153, .goto (-132), 3), (156, .iload_n 2, 1), (157, .ifCond .lt 7, 3), (160, .iload_n 1, 1), (161, .ifCond .ne 7, 3), (164, .iload_n 2, 1), (165, .goto 4, 3), (168, .iload_n 3, 1), (169, .ireturn, 1)]
def pj_r148 : List (Nat × Instr × Nat) := [(0, .iload_n 1, 1), (1, .iconst 0, 1), (2, .ldc 150, 2), (4, .invokestatic 39, 3), (7, .ifCond .eq 12, 3), (10, .iload_n 2, 1), (11, .iconst 0, 1), (12, .iconst 1, 1), (13, .invokestatic 39, 3), (16, .ifCond .ne 6, 3), (19, .bipush (-2), 2), (21, .ireturn, 1), (22, .iload_n 1, 1), (23, .istore_n 3, 1), (24, .iconst 5, 1), (25, .istore 4, 2), (27, .iload 4, 2), (29, .ifCond .le 25, 3), (32, .aload_n 0, 1), (33, .getfield 26, 3), (36, .iload 4, 2), (38, .iload_n 3, 1), (39, .bipush 10, 2), (41, .irem, 1), (42, .iastore, 1), (43, .iload_n 3, 1), (44, .bipush 10, 2), (46, .idiv, 1), (47, .istore_n 3, 1), (48, .iinc 4 (-1), 3), (51, .goto (-24), 3), (54, .aload_n 0, 1), (55, .getfield 26, 3), (58, .iconst 1, 1), (59, .iaload, 1), (60, .aload_n 0, 1), (61, .getfield 26, 3), (64, .iconst 3, 1), (65, .iaload, 1), (66, .ixor, 1), (67, .aload_n 0, 1), (68, .getfield 26, 3), (71, .iconst 5, 1), (72, .iaload, 1), (73, .ixor, 1), (74, .istore 4, 2), (76, .iconst 1, 1), (77, .istore 5, 2), (79, .iload 5, 2), (81, .bipush 6, 2), (83, .if_icmp .ge 112, 3), (86, .iload_n 2, 1), (87, .iconst 1, 1), (88, .if_icmp .ne 107, 3), (91, .iconst 1, 1), (92, .istore 6, 2), (94, .iload 6, 2), (96, .aload_n 0, 1), (97, .getfield 26, 3), (100, .iload 5, 2), (102, .iaload, 1), (103, .if_icmp .gt 86, 3), (106, .iload 5, 2), (108, .iconst 2, 1), (109, .irem, 1), (110, .iconst 1, 1), (111, .if_icmp .ne 8, 3), (114, .iload 5, 2), (116, .goto 7, 3), (119, .iload 5, 2), (121, .iconst 1, 1), (122, .isub, 1), (123, .istore 7, 2), (125, .iload 5, 2), (127, .iconst 2, 1), (128, .irem, 1), (129, .iconst 1, 1), (130, .if_icmp .ne 16, 3), (133, .aload_n 0, 1), (134, .getfield 26, 3), (137, .iload 7, 2), (139, .iaload, 1), (140, .iload 6, 2), (142, .isub, 1), (143, .goto 13, 3), (146, .aload_n 0, 1), (147, .getfield 26, 3), (150, .iload 7, 2), (152, .iaload, 1), (153, .iload 6, 2), (155, .iadd, 1), (156, .istore 8, 2), (158, .iload 4, 2), (160, .aload_n 0, 1), (161, .getfield 26, 3), (164, .iload 7, 2), (166, .iaload, 1), (167, .ixor, 1), (168, .iload 8, 2), (170, .ixor, 1), (171, .ifCond .ne 12, 3), (174, .bipush 10, 2), (176, .iload 5, 2), (178, .imul, 1), (179, .iload 6, 2), (181, .iadd, 1), (182, .ireturn, 1), (183, .iinc 6 1, 3), (186, .goto (-92), 3), (189, .iinc 5 1, 3), (192, .goto (-113), 3), (195, .iload_n 2, 1), (196, .iconst 1, 1), (197, .if_icmp .ne 8, 3), (200, .bipush (-6), 2), (202, .goto 13, 3), (205, .iload 4, 2), (207, .ifCond .ne 7, 3), (210, .iconst 0, 1), (211, .goto 4, 3), (214, .iconst 1, 1), (215, .ireturn, 1)]
def pj_r149 : List (Nat × Instr × Nat) := [(0, .iload_n 1, 1), (1, .iconst 0, 1), (2, .bipush 10, 2), (4, .invokestatic 39, 3), (7, .ifCond .eq 32, 3), (10, .iload_n 2, 1), (11, .iconst 0, 1), (12, .bipush 16, 2), (14, .invokestatic 39, 3), (17, .ifCond .eq 22, 3), (20, .iload_n 3, 1), (21, .iconst 0, 1), (22, .iconst 1, 1), (23, .invokestatic 39, 3), (26, .ifCond .eq 13, 3), (29, .iload 4, 2), (31, .iconst 0, 1), (32, .iconst 1, 1), (33, .invokestatic 39, 3), (36, .ifCond .ne 7, 3), (39, .ldc2_w 151, 3), (42, .lreturn, 1), (43, .lconst 1, 1), (44, .lstore 5, 2), (46, .iconst 0, 1), (47, .istore 7, 2), (49, .iload 7, 2), (51, .bipush 18, 2), (53, .if_icmp .ge 26, 3), (56, .aload_n 0, 1), (57, .getfield 29, 3), (60, .iload 7, 2), (62, .iload 7, 2), (64, .ifCond .ne 7, 3), (67, .lconst 1, 1), (68, .goto 4, 3), (71, .lconst 0, 1), (72, .lastore, 1), (73, .iinc 7 1, 3), (76, .goto (-27), 3), (79, .iconst 0, 1), (80, .istore 7, 2), (82, .iload 7, 2), (84, .iload_n 1, 1), (85, .if_icmp .ge 76, 3), (88, .lload 5, 2), (90, .ldc2_w 153, 3), (93, .lmul, 1), (94, .lstore 5, 2), (96, .bipush 16, 2), (98, .istore 8, 2), (100, .iload 8, 2), (102, .ifCond .lt 53, 3), (105, .aload_n 0, 1), (106, .getfield 29, 3), (109, .iload 8, 2), (111, .aload_n 0, 1), (112, .getfield 29, 3), (115, .iload 8, 2), (117, .laload, 1), (118, .iload 8, 2), (120, .i2l, 1), (121, .lmul, 1), (122, .iload 8, 2), (124, .ifCond .le 22, 3), (127, .aload_n 0, 1), (128, .getfield 29, 3), (131, .iload 8, 2), (133, .iconst 1, 1), (134, .isub, 1), (135, .laload, 1), (136, .bipush 17, 2), (138, .iload 8, 2), (140, .isub, 1), (141, .i2l, 1), (142, .lmul, 1), (143, .goto 4, 3), (146, .lconst 0, 1), (147, .ladd, 1), (148, .lastore, 1), (149, .iinc 8 (-1), 3), (152, .goto (-52), 3), (155, .iinc 7 1, 3), (158, .goto (-76), 3), (161, .aload_n 0, 1), (162, .getfield 29, 3), (165, .iload_n 2, 1), (166, .laload, 1), (167, .lstore 7, 2), (169, .iload_n 3, 1), (170, .iconst 1, 1), (171, .if_icmp .ne 38, 3), (174, .lconst 0, 1), (175, .lstore 7, 2), (177, .iconst 0, 1), (178, .istore 9, 2), (180, .iload 9, 2), (182, .bipush 17, 2), (184, .if_icmp .ge 25, 3), (187, .lload 7, 2), (189, .iload 9, 2), (191, .i2l, 1), (192, .aload_n 0, 1), (193, .getfield 29, 3), (196, .iload 9, 2), (198, .laload, 1), (199, .lmul, 1), (200, .ladd, 1), (201, .lstore 7, 2), (203, .iinc 9 1, 3), (206, .goto (-26), 3), (209, .lload 7, 2), (211, .lstore 9, 2), (213, .lload 5, 2), (215, .lstore 11, 2), (217, .lload 11, 2), (219, .lconst 0, 1), (220, .lcmp, 1), (221, .ifCond .eq 21, 3), (224, .lload 9, 2), (226, .lload 11, 2), (228, .lrem, 1), (229, .lstore 13, 2), (231, .lload 11, 2), (233, .lstore 9, 2), (235, .lload 13, 2), (237, .lstore 11, 2), (239, .goto (-22), 3), (242, .iload 4, 2), (244, .ifCond .ne 11, 3), (247, .lload 7, 2), (249, .lload 9, 2), (251, .ldiv, 1), (252, .goto 8, 3), (255, .lload 5, 2), (257, .lload 9, 2), (259, .ldiv, 1), (260, .lreturn, 1)]
def pj_r150 : List (Nat × Instr × Nat) := [(0, .iload_n 1, 1), (1, .iconst 0, 1), (2, .sipush 9999, 3), (5, .invokestatic 39, 3), (8, .ifCond .eq 22, 3), (11, .iload_n 2, 1), (12, .iconst 1, 1), (13, .bipush 99, 2), (15, .invokestatic 39, 3), (18, .ifCond .eq 12, 3), (21, .iload_n 3, 1), (22, .iconst 0, 1), (23, .iconst 2, 1), (24, .invokestatic 39, 3), (27, .ifCond .ne 6, 3), (30, .bipush (-2), 2), (32, .ireturn, 1), (33, .aload_n 0, 1), (34, .invokevirtual 99, 3), (37, .iload_n 1, 1), (38, .istore 4, 2), (40, .iconst 0, 1), (41, .istore 5, 2), (43, .iload 5, 2), (45, .iload_n 2, 1), (46, .if_icmp .ge 123, 3), (49, .bipush 75, 2), (51, .iload 4, 2), (53, .imul, 1), (54, .bipush 74, 2), (56, .iadd, 1), (57, .ldc 155, 2), (59, .irem, 1), (60, .istore 4, 2), (62, .iload 4, 2), (64, .bipush 8, 2), (66, .irem, 1), (67, .istore 6, 2), (69, .iload 4, 2), (71, .bipush 8, 2), (73, .idiv, 1), (74, .istore 7, 2), (76, .iload 6, 2), (78, .iconst 5, 1), (79, .if_icmp .ge 35, 3), (82, .aload_n 0, 1), (83, .aload_n 0, 1), (84, .iload 7, 2), (86, .bipush 8, 2), (88, .irem, 1), (89, .iload 7, 2), (91, .bipush 8, 2), (93, .idiv, 1), (94, .iconst 4, 1), (95, .irem, 1), (96, .iconst 1, 1), (97, .iload 7, 2), (99, .bipush 32, 2), (101, .idiv, 1), (102, .iconst 5, 1), (103, .irem, 1), (104, .iadd, 1), (105, .invokevirtual 95, 3), (108, .putfield 114, 3), (111, .goto 52, 3), (114, .iload 6, 2), (116, .iconst 5, 1), (117, .if_icmp .ne 19, 3), (120, .aload_n 0, 1), (121, .aload_n 0, 1), (122, .iload 7, 2), (124, .bipush 8, 2), (126, .irem, 1), (127, .invokevirtual 92, 3), (130, .putfield 114, 3), (133, .goto 30, 3), (136, .aload_n 0, 1), (137, .iload 6, 2), (139, .bipush 6, 2), (141, .if_icmp .ne 15, 3), (144, .aload_n 0, 1), (145, .iload 7, 2), (147, .bipush 16, 2), (149, .irem, 1), (150, .invokevirtual 89, 3), (153, .goto 7, 3), (156, .aload_n 0, 1), (157, .invokevirtual 108, 3), (160, .putfield 114, 3), (163, .iinc 5 1, 3), (166, .goto (-123), 3), (169, .iload_n 3, 1), (170, .ifCond .ne 15, 3), (173, .aload_n 0, 1), (174, .bipush 6, 2), (176, .invokevirtual 105, 3), (179, .invokestatic 86, 3), (182, .goto 23, 3), (185, .iload_n 3, 1), (186, .iconst 1, 1), (187, .if_icmp .ne 14, 3), (190, .aload_n 0, 1), (191, .iconst 0, 1), (192, .invokevirtual 105, 3), (195, .invokestatic 86, 3), (198, .goto 7, 3), (201, .aload_n 0, 1), (202, .getfield 77, 3), (205, .ireturn, 1)]
def pj_r151 : List (Nat × Instr × Nat) := [(0, .iload_n 1, 1), (1, .iconst 0, 1), (2, .iconst 1, 1), (3, .invokestatic 39, 3), (6, .ifCond .ne 6, 3), (9, .bipush (-2), 2), (11, .ireturn, 1), (12, .bipush 50, 2), (14, .iload_n 1, 1), (15, .imul, 1), (16, .istore_n 2, 1), (17, .iconst 0, 1), (18, .istore_n 3, 1), (19, .iload_n 3, 1), (20, .bipush 32, 2), (22, .if_icmp .ge 23, 3), (25, .aload_n 0, 1), (26, .getfield 32, 3), (29, .iload_n 2, 1), (30, .iload_n 3, 1), (31, .iadd, 1), (32, .aload_n 0, 1), (33, .getfield 7, 3), (36, .iload_n 3, 1), (37, .iaload, 1), (38, .iastore, 1), (39, .iinc 3 1, 3), (42, .goto (-23), 3), (45, .iconst 0, 1), (46, .istore_n 3, 1), (47, .iload_n 3, 1), (48, .bipush 16, 2), (50, .if_icmp .ge 26, 3), (53, .aload_n 0, 1), (54, .getfield 32, 3), (57, .iload_n 2, 1), (58, .bipush 32, 2), (60, .iadd, 1), (61, .iload_n 3, 1), (62, .iadd, 1), (63, .aload_n 0, 1), (64, .getfield 16, 3), (67, .iload_n 3, 1), (68, .iaload, 1), (69, .iastore, 1), (70, .iinc 3 1, 3), (73, .goto (-26), 3), (76, .aload_n 0, 1), (77, .getfield 32, 3), (80, .iload_n 2, 1), (81, .bipush 49, 2), (83, .iadd, 1), (84, .aload_n 0, 1), (85, .getfield 140, 3), (88, .iastore, 1), (89, .aload_n 0, 1), (90, .getfield 35, 3), (93, .iload_n 1, 1), (94, .iconst 1, 1), (95, .bastore, 1), (96, .iconst 1, 1), (97, .ireturn, 1)]
def pj_r152 : List (Nat × Instr × Nat) := [(0, .iload_n 1, 1), (1, .iconst 0, 1), (2, .iconst 1, 1), (3, .invokestatic 39, 3), (6, .ifCond .ne 6, 3), (9, .bipush (-2), 2), (11, .ireturn, 1), (12, .aload_n 0, 1), (13, .getfield 35, 3), (16, .iload_n 1, 1), (17, .baload, 1), (18, .ifCond .ne 6, 3), (21, .bipush (-3), 2), (23, .ireturn, 1), (24, .bipush 50, 2), (26, .iload_n 1, 1), (27, .imul, 1), (28, .istore_n 2, 1), (29, .iconst 0, 1), (30, .istore_n 3, 1), (31, .iload_n 3, 1), (32, .bipush 32, 2), (34, .if_icmp .ge 23, 3), (37, .aload_n 0, 1), (38, .getfield 7, 3), (41, .iload_n 3, 1), (42, .aload_n 0, 1), (43, .getfield 32, 3), (46, .iload_n 2, 1), (47, .iload_n 3, 1), (48, .iadd, 1), (49, .iaload, 1), (50, .iastore, 1), (51, .iinc 3 1, 3), (54, .goto (-23), 3), (57, .iconst 0, 1), (58, .istore_n 3, 1), (59, .iload_n 3, 1), (60, .bipush 16, 2), (62, .if_icmp .ge 26, 3), (65, .aload_n 0, 1), (66, .getfield 16, 3), (69, .iload_n 3, 1), (70, .aload_n 0, 1), (71, .getfield 32, 3), (74, .iload_n 2, 1), (75, .bipush 32, 2), (77, .iadd, 1), (78, .iload_n 3, 1), (79, .iadd, 1), (80, .iaload, 1), (81, .iastore, 1), (82, .iinc 3 1, 3), (85, .goto (-26), 3), (88, .aload_n 0, 1), (89, .aload_n 0, 1), (90, .getfield 32, 3), (93, .iload_n 2, 1), (94, .bipush 49, 2), (96, .iadd, 1), (97, .iaload, 1), (98, .putfield 140, 3), (101, .iconst 1, 1), (102, .ireturn, 1)]
def pj_r153 : List (Nat × Instr × Nat) := [(0, .iload_n 1, 1), (1, .bipush 40, 2), (3, .if_icmp .lt 29, 3), (6, .iload_n 1, 1), (7, .bipush 41, 2), (9, .bipush 45, 2), (11, .invokestatic 39, 3), (14, .ifCond .eq 15, 3), (17, .aload_n 0, 1), (18, .getfield 7, 3), (21, .iload_n 1, 1), (22, .bipush 16, 2), (24, .isub, 1), (25, .iaload, 1), (26, .goto 5, 3), (29, .bipush (-2), 2), (31, .ireturn, 1), (32, .iload_n 1, 1), (33, .bipush 30, 2), (35, .if_icmp .lt 24, 3), (38, .iload_n 1, 1), (39, .bipush 38, 2), (41, .if_icmp .ge 15, 3), (44, .aload_n 0, 1), (45, .getfield 7, 3), (48, .iload_n 1, 1), (49, .bipush 14, 2), (51, .isub, 1), (52, .iaload, 1), (53, .goto 5, 3), (56, .bipush (-2), 2), (58, .ireturn, 1), (59, .iload_n 1, 1), (60, .bipush 10, 2), (62, .if_icmp .lt 24, 3), (65, .iload_n 1, 1), (66, .bipush 26, 2), (68, .if_icmp .ge 15, 3), (71, .aload_n 0, 1), (72, .getfield 7, 3), (75, .iload_n 1, 1), (76, .bipush 10, 2), (78, .isub, 1), (79, .iaload, 1), (80, .goto 5, 3), (83, .bipush (-2), 2), (85, .ireturn, 1), (86, .iload_n 1, 1), (87, .tableswitch 40 0 2 #[25, 30, 30], 25), (112, .aload_n 0, 1), (113, .getfield 51, 3), (116, .ireturn, 1), (117, .aload_n 0, 1), (118, .getfield 7, 3), (121, .bipush 29, 2), (123, .iload_n 1, 1), (124, .iadd, 1), (125, .iaload, 1), (126, .ireturn, 1), (127, .iload_n 1, 1), (128, .iconst 3, 1), (129, .if_icmp .ne 10, 3), (132, .aload_n 0, 1), (133, .getfield 140, 3), (136, .goto 5, 3), (139, .bipush (-2), 2), (141, .ireturn, 1)]
def pj_r154 : List (Nat × Instr × Nat) := [(0, .iload_n 0, 1), (1, .iconst (-1), 1), (2, .ixor, 1), (3, .iload_n 0, 1), (4, .iconst 1, 1), (5, .isub, 1), (6, .iand, 1), (7, .istore_n 0, 1), (8, .iload_n 0, 1), (9, .ifCond .gt 8, 3), (12, .iload_n 0, 1), (13, .bipush 32, 2), (15, .iand, 1), (16, .ireturn, 1), (17, .iconst 1, 1), (18, .istore_n 1, 1), (19, .iload_n 0, 1), (20, .ldc_w 264, 3), (23, .if_icmp .le 11, 3), (26, .iinc 1 16, 3), (29, .iload_n 0, 1), (30, .bipush 16, 2), (32, .iushr, 1), (33, .istore_n 0, 1), (34, .iload_n 0, 1), (35, .sipush 256, 3), (38, .if_icmp .le 11, 3), (41, .iinc 1 8, 3), (44, .iload_n 0, 1), (45, .bipush 8, 2), (47, .iushr, 1), (48, .istore_n 0, 1), (49, .iload_n 0, 1), (50, .bipush 16, 2), (52, .if_icmp .le 10, 3), (55, .iinc 1 4, 3), (58, .iload_n 0, 1), (59, .iconst 4, 1), (60, .iushr, 1), (61, .istore_n 0, 1), (62, .iload_n 0, 1), (63, .iconst 4, 1), (64, .if_icmp .le 10, 3), (67, .iinc 1 2, 3), (70, .iload_n 0, 1), (71, .iconst 2, 1), (72, .iushr, 1), (73, .istore_n 0, 1), (74, .iload_n 1, 1), (75, .iload_n 0, 1), (76, .iconst 1, 1), (77, .iushr, 1), (78, .iadd, 1), (79, .ireturn, 1)]
def pj_r155 : List (Nat × Instr × Nat) := [(0, .iload_n 0, 1), (1, .iload_n 0, 1), (2, .iconst 1, 1), (3, .iushr, 1), (4, .ldc_w 265, 3), (7, .iand, 1), (8, .isub, 1), (9, .istore_n 0, 1), (10, .iload_n 0, 1), (11, .ldc_w 266, 3), (14, .iand, 1), (15, .iload_n 0, 1), (16, .iconst 2, 1), (17, .iushr, 1), (18, .ldc_w 266, 3), (21, .iand, 1), (22, .iadd, 1), (23, .istore_n 0, 1), (24, .iload_n 0, 1), (25, .iload_n 0, 1), (26, .iconst 4, 1), (27, .iushr, 1), (28, .iadd, 1), (29, .ldc_w 267, 3), (32, .iand, 1), (33, .istore_n 0, 1), (34, .iload_n 0, 1), (35, .iload_n 0, 1), (36, .bipush 8, 2), (38, .iushr, 1), (39, .iadd, 1), (40, .istore_n 0, 1), (41, .iload_n 0, 1), (42, .iload_n 0, 1), (43, .bipush 16, 2), (45, .iushr, 1), (46, .iadd, 1), (47, .istore_n 0, 1), (48, .iload_n 0, 1), (49, .bipush 63, 2), (51, .iand, 1), (52, .ireturn, 1)]
def pj_r156 : List (Nat × Instr × Nat) := [(0, .iconst 0, 1), (1, .istore_n 3, 1), (2, .aload_n 0, 1), (3, .arraylength, 1), (4, .istore 4, 2), (6, .iload_n 3, 1), (7, .iload 4, 2), (9, .if_icmp .ge 13, 3), (12, .aload_n 0, 1), (13, .iload_n 3, 1), (14, .lload_n 1, 1), (15, .lastore, 1), (16, .iinc 3 1, 3), (19, .goto (-13), 3), (22, .return_, 1)]
def pj_r157 : List (Nat × Instr × Nat) := [(0, .iconst 0, 1), (1, .istore_n 2, 1), (2, .aload_n 0, 1), (3, .arraylength, 1), (4, .istore_n 3, 1), (5, .iload_n 2, 1), (6, .iload_n 3, 1), (7, .if_icmp .ge 13, 3), (10, .aload_n 0, 1), (11, .iload_n 2, 1), (12, .iload_n 1, 1), (13, .iastore, 1), (14, .iinc 2 1, 3), (17, .goto (-12), 3), (20, .return_, 1)]
def pj_r158 : List (Nat × Instr × Nat) := [(0, .new 7, 3), (3, .dup, 1), (4, .invokespecial 9, 3), (7, .astore_n 1, 1), (8, .new 10, 3), (11, .dup, 1), (12, .invokespecial 12, 3), (15, .astore_n 2, 1), (16, .iconst 0, 1), (17, .istore_n 3, 1), (18, .iload_n 3, 1), (19, .aload_n 0, 1), (20, .arraylength, 1), (21, .iconst 5, 1), (22, .isub, 1), (23, .if_icmp .gt 867, 3), (26, .aload_n 0, 1), (27, .iload_n 3, 1), (28, .iaload, 1), (29, .bipush 31, 2), (31, .iand, 1), (32, .tableswitch 852 0 26 #[124, 167, 200, 233, 256, 269, 282, 305, 318, 351, 374, 397, 430, 453, 476, 509, 522, 545, 594, 607, 630, 653, 686, 740, 783, 806, 829], 124), (156, .aload_n 1, 1), (157, .aload_n 0, 1), (158, .iload_n 3, 1), (159, .iconst 1, 1), (160, .iadd, 1), (161, .iaload, 1), (162, .aload_n 0, 1), (163, .iload_n 3, 1), (164, .iconst 2, 1), (165, .iadd, 1), (166, .iaload, 1), (167, .aload_n 0, 1), (168, .iload_n 3, 1), (169, .iconst 3, 1), (170, .iadd, 1), (171, .iaload, 1), (172, .invokevirtual 13, 3), (175, .aload_n 2, 1), (176, .aload_n 0, 1), (177, .iload_n 3, 1), (178, .iconst 1, 1), (179, .iadd, 1), (180, .iaload, 1), (181, .aload_n 0, 1), (182, .iload_n 3, 1), (183, .iconst 2, 1), (184, .iadd, 1), (185, .iaload, 1), (186, .aload_n 0, 1), (187, .iload_n 3, 1), (188, .iconst 3, 1), (189, .iadd, 1), (190, .iaload, 1), (191, .invokevirtual 17, 3), (194, .if_icmp .eq 690, 3), (197, .iconst 0, 1), (198, .ireturn, 1), (199, .aload_n 1, 1), (200, .aload_n 0, 1), (201, .iload_n 3, 1), (202, .iconst 1, 1), (203, .iadd, 1), (204, .iaload, 1), (205, .aload_n 0, 1), (206, .iload_n 3, 1), (207, .iconst 2, 1), (208, .iadd, 1), (209, .iaload, 1), (210, .invokevirtual 18, 3), (213, .aload_n 2, 1), (214, .aload_n 0, 1), (215, .iload_n 3, 1), (216, .iconst 1, 1), (217, .iadd, 1), (218, .iaload, 1), (219, .aload_n 0, 1), (220, .iload_n 3, 1), (221, .iconst 2, 1), (222, .iadd, 1), (223, .iaload, 1), (224, .invokevirtual 22, 3), (227, .if_icmp .eq 657, 3), (230, .iconst 0, 1), (231, .ireturn, 1), (232, .aload_n 1, 1), (233, .aload_n 0, 1), (234, .iload_n 3, 1), (235, .iconst 1, 1), (236, .iadd, 1), (237, .iaload, 1), (238, .aload_n 0, 1), (239, .iload_n 3, 1), (240, .iconst 2, 1), (241, .iadd, 1), (242, .iaload, 1), (243, .invokevirtual 23, 3), (246, .aload_n 2, 1), (247, .aload_n 0, 1), (248, .iload_n 3, 1), (249, .iconst 1, 1), (250, .iadd, 1), (251, .iaload, 1), (252, .aload_n 0, 1), (253, .iload_n 3, 1), (254, .iconst 2, 1), (255, .iadd, 1), (256, .iaload, 1), (257, .invokevirtual 26, 3), (260, .if_icmp .eq 624, 3), (263, .iconst 0, 1), (264, .ireturn, 1), (265, .aload_n 1, 1), (266, .aload_n 0, 1), (267, .iload_n 3, 1), (268, .iconst 1, 1), (269, .iadd, 1), (270, .iaload, 1), (271, .invokevirtual 27, 3), (274, .aload_n 2, 1), (275, .aload_n 0, 1), (276, .iload_n 3, 1), (277, .iconst 1, 1), (278, .iadd, 1), (279, .iaload, 1), (280, .invokevirtual 31, 3), (283, .if_icmp .eq 601, 3), (286, .iconst 0, 1), (287, .ireturn, 1), (288, .aload_n 1, 1), (289, .invokevirtual 32, 3), (292, .aload_n 2, 1), (293, .invokevirtual 36, 3), (296, .if_icmp .eq 588, 3), (299, .iconst 0, 1), (300, .ireturn, 1), (301, .aload_n 1, 1), (302, .invokevirtual 37, 3), (305, .aload_n 2, 1), (306, .invokevirtual 40, 3), (309, .if_icmp .eq 575, 3), (312, .iconst 0, 1), (313, .ireturn, 1), (314, .aload_n 1, 1), (315, .aload_n 0, 1), (316, .iload_n 3, 1), (317, .iconst 1, 1), (318, .iadd, 1), (319, .iaload, 1), (320, .invokevirtual 41, 3), (323, .aload_n 2, 1), (324, .aload_n 0, 1), (325, .iload_n 3, 1), (326, .iconst 1, 1), (327, .iadd, 1), (328, .iaload, 1), (329, .invokevirtual 44, 3), (332, .if_icmp .eq 552, 3), (335, .iconst 0, 1), (336, .ireturn, 1), (337, .aload_n 1, 1), (338, .invokevirtual 45, 3), (341, .aload_n 2, 1), (342, .invokevirtual 48, 3), (345, .if_icmp .eq 539, 3), (348, .iconst 0, 1), (349, .ireturn, 1), (350, .aload_n 1, 1), (351, .aload_n 0, 1), (352, .iload_n 3, 1), (353, .iconst 1, 1), (354, .iadd, 1), (355, .iaload, 1), (356, .aload_n 0, 1), (357, .iload_n 3, 1), (358, .iconst 2, 1), (359, .iadd, 1), (360, .iaload, 1), (361, .invokevirtual 49, 3), (364, .aload_n 2, 1), (365, .aload_n 0, 1), (366, .iload_n 3, 1), (367, .iconst 1, 1), (368, .iadd, 1), (369, .iaload, 1), (370, .aload_n 0, 1), (371, .iload_n 3, 1), (372, .iconst 2, 1), (373, .iadd, 1), (374, .iaload, 1), (375, .invokevirtual 52, 3), (378, .if_icmp .eq 506, 3), (381, .iconst 0, 1), (382, .ireturn, 1), (383, .aload_n 1, 1), (384, .aload_n 0, 1), (385, .iload_n 3, 1), (386, .iconst 1, 1), (387, .iadd, 1), (388, .iaload, 1), (389, .invokevirtual 53, 3), (392, .aload_n 2, 1), (393, .aload_n 0, 1), (394, .iload_n 3, 1), (395, .iconst 1, 1), (396, .iadd, 1), (397, .iaload, 1), (398, .invokevirtual 56, 3), (401, .if_icmp .eq 483, 3), (404, .iconst 0, 1), (405, .ireturn, 1), (406, .aload_n 1, 1), (407, .aload_n 0, 1), (408, .iload_n 3, 1), (409, .iconst 1, 1), (410, .iadd, 1), (411, .iaload, 1), (412, .invokevirtual 57, 3), (415, .aload_n 2, 1), (416, .aload_n 0, 1), (417, .iload_n 3, 1), (418, .iconst 1, 1), (419, .iadd, 1), (420, .iaload, 1), (421, .invokevirtual 60, 3), (424, .if_icmp .eq 460, 3), (427, .iconst 0, 1), (428, .ireturn, 1), (429, .aload_n 1, 1), (430, .aload_n 0, 1), (431, .iload_n 3, 1), (432, .iconst 1, 1), (433, .iadd, 1), (434, .iaload, 1), (435, .aload_n 0, 1), (436, .iload_n 3, 1), (437, .iconst 2, 1), (438, .iadd, 1), (439, .iaload, 1), (440, .invokevirtual 61, 3), (443, .aload_n 2, 1), (444, .aload_n 0, 1), (445, .iload_n 3, 1), (446, .iconst 1, 1), (447, .iadd, 1), (448, .iaload, 1), (449, .aload_n 0, 1), (450, .iload_n 3, 1), (451, .iconst 2, 1), (452, .iadd, 1), (453, .iaload, 1), (454, .invokevirtual 64, 3), (457, .if_icmp .eq 427, 3), (460, .iconst 0, 1), (461, .ireturn, 1), (462, .aload_n 1, 1), (463, .aload_n 0, 1), (464, .iload_n 3, 1), (465, .iconst 1, 1), (466, .iadd, 1), (467, .iaload, 1), (468, .invokevirtual 65, 3), (471, .aload_n 2, 1), (472, .aload_n 0, 1), (473, .iload_n 3, 1), (474, .iconst 1, 1), (475, .iadd, 1), (476, .iaload, 1), (477, .invokevirtual 68, 3), (480, .if_icmp .eq 404, 3), (483, .iconst 0, 1), (484, .ireturn, 1), (485, .aload_n 1, 1), (486, .aload_n 0, 1), (487, .iload_n 3, 1), (488, .iconst 1, 1), (489, .iadd, 1), (490, .iaload, 1), (491, .invokevirtual 69, 3), (494, .aload_n 2, 1), (495, .aload_n 0, 1), (496, .iload_n 3, 1), (497, .iconst 1, 1), (498, .iadd, 1), (499, .iaload, 1), (500, .invokevirtual 72, 3), (503, .if_icmp .eq 381, 3), (506, .iconst 0, 1), (507, .ireturn, 1), (508, .aload_n 1, 1), (509, .aload_n 0, 1), (510, .iload_n 3, 1), (511, .iconst 1, 1), (512, .iadd, 1), (513, .iaload, 1), (514, .aload_n 0, 1), (515, .iload_n 3, 1), (516, .iconst 2, 1), (517, .iadd, 1), (518, .iaload, 1), (519, .invokevirtual 73, 3), (522, .aload_n 2, 1), (523, .aload_n 0, 1), (524, .iload_n 3, 1), (525, .iconst 1, 1), (526, .iadd, 1), (527, .iaload, 1), (528, .aload_n 0, 1), (529, .iload_n 3, 1), (530, .iconst 2, 1), (531, .iadd, 1), (532, .iaload, 1), (533, .invokevirtual 76, 3), (536, .if_icmp .eq 348, 3), (539, .iconst 0, 1), (540, .ireturn, 1), (541, .aload_n 1, 1), (542, .invokevirtual 77, 3), (545, .aload_n 2, 1), (546, .invokevirtual 80, 3), (549, .if_icmp .eq 335, 3), (552, .iconst 0, 1), (553, .ireturn, 1), (554, .aload_n 1, 1), (555, .aload_n 0, 1), (556, .iload_n 3, 1), (557, .iconst 1, 1), (558, .iadd, 1), (559, .iaload, 1), (560, .invokevirtual 81, 3), (563, .aload_n 2, 1), (564, .aload_n 0, 1), (565, .iload_n 3, 1), (566, .iconst 1, 1), (567, .iadd, 1), (568, .iaload, 1), (569, .invokevirtual 84, 3), (572, .if_icmp .eq 312, 3), (575, .iconst 0, 1), (576, .ireturn, 1), (577, .aload_n 1, 1), (578, .aload_n 0, 1), (579, .iload_n 3, 1), (580, .iconst 1, 1), (581, .iadd, 1), (582, .iaload, 1), (583, .aload_n 0, 1), (584, .iload_n 3, 1), (585, .iconst 2, 1), (586, .iadd, 1), (587, .iaload, 1), (588, .ifCond .eq 7, 3), (591, .iconst 1, 1), (592, .goto 4, 3), (595, .iconst 0, 1), (596, .invokevirtual 85, 3), (599, .aload_n 2, 1), (600, .aload_n 0, 1), (601, .iload_n 3, 1), (602, .iconst 1, 1), (603, .iadd, 1), (604, .iaload, 1), (605, .aload_n 0, 1), (606, .iload_n 3, 1), (607, .iconst 2, 1), (608, .iadd, 1), (609, .iaload, 1), (610, .ifCond .eq 7, 3), (613, .iconst 1, 1), (614, .goto 4, 3), (617, .iconst 0, 1), (618, .invokevirtual 89, 3), (621, .if_icmp .eq 263, 3), (624, .iconst 0, 1), (625, .ireturn, 1), (626, .aload_n 1, 1), (627, .invokevirtual 90, 3), (630, .aload_n 2, 1), (631, .invokevirtual 93, 3), (634, .if_icmp .eq 250, 3), (637, .iconst 0, 1), (638, .ireturn, 1), (639, .aload_n 1, 1), (640, .aload_n 0, 1), (641, .iload_n 3, 1), (642, .iconst 1, 1), (643, .iadd, 1), (644, .iaload, 1), (645, .invokevirtual 94, 3), (648, .aload_n 2, 1), (649, .aload_n 0, 1), (650, .iload_n 3, 1), (651, .iconst 1, 1), (652, .iadd, 1), (653, .iaload, 1), (654, .invokevirtual 97, 3), (657, .if_icmp .eq 227, 3), (660, .iconst 0, 1), (661, .ireturn, 1), (662, .aload_n 1, 1), (663, .aload_n 0, 1), (664, .iload_n 3, 1), (665, .iconst 1, 1), (666, .iadd, 1), (667, .iaload, 1), (668, .invokevirtual 98, 3), (671, .aload_n 2, 1), (672, .aload_n 0, 1), (673, .iload_n 3, 1), (674, .iconst 1, 1), (675, .iadd, 1), (676, .iaload, 1), (677, .invokevirtual 101, 3), (680, .if_icmp .eq 204, 3), (683, .iconst 0, 1), (684, .ireturn, 1), (685, .aload_n 1, 1), (686, .aload_n 0, 1), (687, .iload_n 3, 1), (688, .iconst 1, 1), (689, .iadd, 1), (690, .iaload, 1), (691, .aload_n 0, 1), (692, .iload_n 3, 1), (693, .iconst 2, 1), (694, .iadd, 1), (695, .iaload, 1), (696, .invokevirtual 102, 3), (699, .aload_n 2, 1), (700, .aload_n 0, 1), (701, .iload_n 3, 1), (702, .iconst 1, 1), (703, .iadd, 1), (704, .iaload, 1), (705, .aload_n 0, 1), (706, .iload_n 3, 1), (707, .iconst 2, 1), (708, .iadd, 1), (709, .iaload, 1), (710, .invokevirtual 105, 3), (713, .if_icmp .eq 171, 3), (716, .iconst 0, 1), (717, .ireturn, 1), (718, .aload_n 1, 1), (719, .aload_n 0, 1), (720, .iload_n 3, 1), (721, .iconst 1, 1), (722, .iadd, 1), (723, .iaload, 1), (724, .aload_n 0, 1), (725, .iload_n 3, 1), (726, .iconst 2, 1), (727, .iadd, 1), (728, .iaload, 1), (729, .aload_n 0, 1), (730, .iload_n 3, 1), (731, .iconst 3, 1), (732, .iadd, 1), (733, .iaload, 1), (734, .aload_n 0, 1), (735, .iload_n 3, 1), (736, .iconst 4, 1), (737, .iadd, 1), (738, .iaload, 1), (739, .invokevirtual 106, 3), (742, .aload_n 2, 1), (743, .aload_n 0, 1), (744, .iload_n 3, 1), (745, .iconst 1, 1), (746, .iadd, 1), (747, .iaload, 1), (748, .aload_n 0, 1), (749, .iload_n 3, 1), (750, .iconst 2, 1), (751, .iadd, 1), (752, .iaload, 1), (753, .aload_n 0, 1), (754, .iload_n 3, 1), (755, .iconst 3, 1), (756, .iadd, 1), (757, .iaload, 1), (758, .aload_n 0, 1), (759, .iload_n 3, 1), (760, .iconst 4, 1), (761, .iadd, 1), (762, .iaload, 1), (763, .invokevirtual 110, 3), (766, .lcmp, 1), (767, .ifCond .eq 117, 3), (770, .iconst 0, 1), (771, .ireturn, 1), (772, .aload_n 1, 1), (773, .aload_n 0, 1), (774, .iload_n 3, 1), (775, .iconst 1, 1), (776, .iadd, 1), (777, .iaload, 1), (778, .aload_n 0, 1), (779, .iload_n 3, 1), (780, .iconst 2, 1), (781, .iadd, 1), (782, .iaload, 1), (783, .aload_n 0, 1), (784, .iload_n 3, 1), (785, .iconst 3, 1), (786, .iadd, 1), (787, .iaload, 1), (788, .invokevirtual 111, 3), (791, .aload_n 2, 1), (792, .aload_n 0, 1), (793, .iload_n 3, 1), (794, .iconst 1, 1), (795, .iadd, 1), (796, .iaload, 1), (797, .aload_n 0, 1), (798, .iload_n 3, 1), (799, .iconst 2, 1), (800, .iadd, 1), (801, .iaload, 1), (802, .aload_n 0, 1), (803, .iload_n 3, 1), (804, .iconst 3, 1), (805, .iadd, 1), (806, .iaload, 1), (807, .invokevirtual 114, 3), (810, .if_icmp .eq 74, 3), (813, .iconst 0, 1), (814, .ireturn, 1), (815, .aload_n 1, 1), (816, .aload_n 0, 1), (817, .iload_n 3, 1), (818, .iconst 1, 1), (819, .iadd, 1), (820, .iaload, 1), (821, .invokevirtual 115, 3), (824, .aload_n 2, 1), (825, .aload_n 0, 1), (826, .iload_n 3, 1), (827, .iconst 1, 1), (828, .iadd, 1), (829, .iaload, 1), (830, .invokevirtual 118, 3), (833, .if_icmp .eq 51, 3), (836, .iconst 0, 1), (837, .ireturn, 1), (838, .aload_n 1, 1), (839, .aload_n 0, 1), (840, .iload_n 3, 1), (841, .iconst 1, 1), (842, .iadd, 1), (843, .iaload, 1), (844, .invokevirtual 119, 3), (847, .aload_n 2, 1), (848, .aload_n 0, 1), (849, .iload_n 3, 1), (850, .iconst 1, 1), (851, .iadd, 1), (852, .iaload, 1), (853, .invokevirtual 122, 3), (856, .if_icmp .eq 28, 3), (859, .iconst 0, 1), (860, .ireturn, 1), (861, .aload_n 1, 1), (862, .aload_n 0, 1), (863, .iload_n 3, 1), (864, .iconst 1, 1), (865, .iadd, 1), (866, .iaload, 1), (867, .invokevirtual 123, 3), (870, .aload_n 2, 1), (871, .aload_n 0, 1), (872, .iload_n 3, 1), (873, .iconst 1, 1), (874, .iadd, 1), (875, .iaload, 1), (876, .invokevirtual 126, 3), (879, .if_icmp .eq 5, 3), (882, .iconst 0, 1), (883, .ireturn, 1), (884, .iinc 3 5, 3), (887, .goto (-869), 3), (890, .iconst 1, 1), (891, .ireturn, 1)]
abbrev pj_M : Type := MethodName × ByteArray × Nat × Option FieldType × Nat × Nat × List (Nat × Instr × Nat)
def pj_m0 : pj_M := (yX0_init, cX0_init, 1, none, 1, 0, pj_r0)
def pj_m1 : pj_M := (yX0_play, cX0_play, 7, none, 4, 0, pj_r1)
def pj_m2 : pj_M := (yX0_begin, cX0_begin, 1, none, 0, 0, pj_r2)
def pj_m3 : pj_M := (yX1_init, cX1_init, 1, none, 1, 1, pj_r3)
def pj_m4 : pj_M := (yX1_waysToHit, cX1_waysToHit, 5, (some .long), 1, 1, pj_r4)
def pj_m5 : pj_M := (yX1_hitsInAllWays, cX1_hitsInAllWays, 1, (some .long), 1, 1, pj_r5)
def pj_m6 : pj_M := (yX1_power, cX1_power, 5, (some .long), 0, 1, pj_r6)
def pj_m7 : pj_M := (yX1_partOf, cX1_partOf, 10, (some .long), 0, 1, pj_r7)
def pj_m8 : pj_M := (yX2_init, cX2_init, 1, none, 1, 2, pj_r8)
def pj_m9 : pj_M := (yX2_gather, cX2_gather, 5, none, 1, 2, pj_r9)
def pj_m10 : pj_M := (yX2_add, cX2_add, 3, none, 0, 2, pj_r10)
def pj_m11 : pj_M := (yX2_nameOf, cX2_nameOf, 2, (some .int), 0, 2, pj_r11)
def pj_m12 : pj_M := (yX2_bestToAsk, cX2_bestToAsk, 3, (some .int), 2, 2, pj_r12)
def pj_m13 : pj_M := (yX2_leftAtMost, cX2_leftAtMost, 4, (some .int), 1, 2, pj_r13)
def pj_m14 : pj_M := (yX3_init, cX3_init, 1, none, 1, 3, pj_r14)
def pj_m15 : pj_M := (yX3_tryAll, cX3_tryAll, 8, none, 3, 3, pj_r15)
def pj_m16 : pj_M := (yX3_begin, cX3_begin, 3, none, 2, 3, pj_r16)
def pj_m17 : pj_M := (yX3_spread, cX3_spread, 4, (some .long), 0, 3, pj_r17)
def pj_m18 : pj_M := (yX3_wallOf, cX3_wallOf, 4, (some .long), 1, 3, pj_r18)
def pj_m19 : pj_M := (yX3_add, cX3_add, 5, none, 1, 3, pj_r19)
def pj_m20 : pj_M := (yX3_isNew, cX3_isNew, 6, (some .boolean), 0, 3, pj_r20)
def pj_m21 : pj_M := (yX3_cardsIn, cX3_cardsIn, 4, (some .int), 0, 3, pj_r21)
def pj_m22 : pj_M := (yX4_init, cX4_init, 1, none, 1, 4, pj_r22)
def pj_m23 : pj_M := (yX4_length, cX4_length, 1, (some .int), 0, 4, pj_r23)
def pj_m24 : pj_M := (yX4_clear, cX4_clear, 1, none, 0, 4, pj_r24)
def pj_m25 : pj_M := (yX4_add, cX4_add, 2, (some .boolean), 0, 4, pj_r25)
def pj_m26 : pj_M := (yX4_signAt, cX4_signAt, 2, (some .int), 0, 4, pj_r26)
def pj_m27 : pj_M := (yX4_firstWrong, cX4_firstWrong, 3, (some .int), 3, 4, pj_r27)
def pj_m28 : pj_M := (yX4_readingAfter, cX4_readingAfter, 2, (some .int), 2, 4, pj_r28)
def pj_m29 : pj_M := (yX4_readingOfFirst, cX4_readingOfFirst, 1, (some .int), 1, 4, pj_r29)
def pj_m30 : pj_M := (yX4_lengthOfAct, cX4_lengthOfAct, 3, (some .int), 2, 4, pj_r30)
def pj_m31 : pj_M := (yX4_actAt, cX4_actAt, 5, (some .int), 3, 4, pj_r31)
def pj_m32 : pj_M := (yX5_init, cX5_init, 1, none, 1, 5, pj_r32)
def pj_m33 : pj_M := (yX5_copyFrom, cX5_copyFrom, 2, none, 1, 5, pj_r33)
def pj_m34 : pj_M := (yX5_cellsOf, cX5_cellsOf, 2, (some .int), 0, 5, pj_r34)
def pj_m35 : pj_M := (yX5_countOf, cX5_countOf, 2, (some .int), 1, 5, pj_r35)
def pj_m36 : pj_M := (yX5_colourOf, cX5_colourOf, 3, (some .int), 0, 5, pj_r36)
def pj_m37 : pj_M := (yX5_holesOf, cX5_holesOf, 2, (some .int), 0, 5, pj_r37)
def pj_m38 : pj_M := (yX5_holesOfAll, cX5_holesOfAll, 4, (some .int), 0, 5, pj_r38)
def pj_m39 : pj_M := (yX5_dropsOf, cX5_dropsOf, 2, (some .int), 0, 5, pj_r39)
def pj_m40 : pj_M := (yX5_paint, cX5_paint, 5, none, 0, 5, pj_r40)
def pj_m41 : pj_M := (yX5_wetten, cX5_wetten, 3, none, 0, 5, pj_r41)
def pj_m42 : pj_M := (yX5_cut, cX5_cut, 3, none, 0, 5, pj_r42)
def pj_m43 : pj_M := (yX5_fill, cX5_fill, 3, none, 0, 5, pj_r43)
def pj_m44 : pj_M := (yX5_see, cX5_see, 3, none, 0, 5, pj_r44)
def pj_m45 : pj_M := (yX5_unsee, cX5_unsee, 1, none, 0, 5, pj_r45)
def pj_m46 : pj_M := (yX5_agreesWith, cX5_agreesWith, 2, (some .boolean), 0, 5, pj_r46)
def pj_m47 : pj_M := (yX5_spray, cX5_spray, 7, (some .int), 2, 5, pj_r47)
def pj_m48 : pj_M := (yX5_turnOver, cX5_turnOver, 3, (some .int), 1, 5, pj_r48)
def pj_m49 : pj_M := (yX5_scrape, cX5_scrape, 2, (some .int), 1, 5, pj_r49)
def pj_m50 : pj_M := (yX5_waitAnHour, cX5_waitAnHour, 1, (some .int), 0, 5, pj_r50)
def pj_m51 : pj_M := (yX6_greatestPatch, cX6_greatestPatch, 6, (some .int), 2, 6, pj_r51)
def pj_m52 : pj_M := (yX6_patchFrom, cX6_patchFrom, 4, (some .int), 1, 6, pj_r52)
def pj_m53 : pj_M := (yX6_beside, cX6_beside, 2, (some .int), 0, 6, pj_r53)
def pj_m54 : pj_M := (yX6_greatestBox, cX6_greatestBox, 5, (some .int), 3, 6, pj_r54)
def pj_m55 : pj_M := (yX6_greatestBoxOf, cX6_greatestBoxOf, 6, (some .int), 2, 6, pj_r55)
def pj_m56 : pj_M := (yX6_isOfOneColour, cX6_isOfOneColour, 3, (some .boolean), 1, 6, pj_r56)
def pj_m57 : pj_M := (yX6_greater, cX6_greater, 3, (some .int), 1, 6, pj_r57)
def pj_m58 : pj_M := (yX7_leastWinningMove, cX7_leastWinningMove, 4, (some .int), 2, 7, pj_r58)
def pj_m59 : pj_M := (yX7_cansOn, cX7_cansOn, 4, (some .int), 0, 7, pj_r59)
def pj_m60 : pj_M := (yX7_oddBits, cX7_oddBits, 6, (some .int), 1, 7, pj_r60)
def pj_m61 : pj_M := (yX8_byQuarters, cX8_byQuarters, 4, (some .int), 1, 8, pj_r61)
def pj_m62 : pj_M := (yX8_byOneQuarter, cX8_byOneQuarter, 5, (some .int), 0, 8, pj_r62)
def pj_m63 : pj_M := (yX8_over, cX8_over, 3, (some .int), 0, 8, pj_r63)
def pj_m64 : pj_M := (yX9_play, cX9_play, 5, none, 4, 9, pj_r64)
def pj_m65 : pj_M := (yX9_actOf, cX9_actOf, 3, none, 3, 9, pj_r65)
def pj_m66 : pj_M := (yX10_init, cX10_init, 1, none, 2, 10, pj_r66)
def pj_m67 : pj_M := (yX10_lay, cX10_lay, 6, (some .int), 2, 10, pj_r67)
def pj_m68 : pj_M := (yX10_card, cX10_card, 4, (some .int), 2, 10, pj_r68)
def pj_m69 : pj_M := (yX10_can, cX10_can, 4, (some .int), 2, 10, pj_r69)
def pj_m70 : pj_M := (yX10_say, cX10_say, 2, (some .int), 1, 10, pj_r70)
def pj_m71 : pj_M := (yX10_wipe, cX10_wipe, 2, (some .int), 1, 10, pj_r71)
def pj_m72 : pj_M := (yX10_fault, cX10_fault, 1, (some .int), 4, 10, pj_r72)
def pj_m73 : pj_M := (yX10_judge, cX10_judge, 2, (some .int), 5, 10, pj_r73)
def pj_m74 : pj_M := (yX10_done, cX10_done, 1, (some .int), 6, 10, pj_r74)
def pj_m75 : pj_M := (yX10_behind, cX10_behind, 3, (some .int), 6, 10, pj_r75)
def pj_m76 : pj_M := (yX10_left, cX10_left, 2, (some .int), 6, 10, pj_r76)
def pj_m77 : pj_M := (yX10_then, cX10_then, 2, (some .int), 6, 10, pj_r77)
def pj_m78 : pj_M := (yX10_turned, cX10_turned, 4, (some .int), 2, 10, pj_r78)
def pj_m79 : pj_M := (yX10_patch, cX10_patch, 2, (some .int), 3, 10, pj_r79)
def pj_m80 : pj_M := (yX10_box, cX10_box, 2, (some .int), 4, 10, pj_r80)
def pj_m81 : pj_M := (yX10_cover, cX10_cover, 4, (some .int), 2, 10, pj_r81)
def pj_m82 : pj_M := (yX10_pictures, cX10_pictures, 1, (some .int), 4, 10, pj_r82)
def pj_m83 : pj_M := (yX10_made, cX10_made, 2, (some .int), 4, 10, pj_r83)
def pj_m84 : pj_M := (yX10_seen, cX10_seen, 3, (some .int), 2, 10, pj_r84)
def pj_m85 : pj_M := (yX10_forget, cX10_forget, 2, (some .int), 1, 10, pj_r85)
def pj_m86 : pj_M := (yX10_prints, cX10_prints, 2, (some .int), 2, 10, pj_r86)
def pj_m87 : pj_M := (yX10_ask, cX10_ask, 3, (some .int), 3, 10, pj_r87)
def pj_m88 : pj_M := (yX10_steps, cX10_steps, 4, (some .int), 3, 10, pj_r88)
def pj_m89 : pj_M := (yX10_fall, cX10_fall, 7, (some .long), 2, 10, pj_r89)
def pj_m90 : pj_M := (yX10_year, cX10_year, 4, (some .int), 5, 10, pj_r90)
def pj_m91 : pj_M := (yX10_image, cX10_image, 2, (some .int), 2, 10, pj_r91)
def pj_m92 : pj_M := (yX10_restore, cX10_restore, 3, (some .int), 2, 10, pj_r92)
def pj_m93 : pj_M := (yX10_told, cX10_told, 2, (some .int), 1, 10, pj_r93)
def pj_m94 : pj_M := (yX10_within, cX10_within, 3, (some .boolean), 0, 10, pj_r94)
def pj_m95 : pj_M := (yX10_isCell, cX10_isCell, 1, (some .boolean), 1, 10, pj_r95)
def pj_m96 : pj_M := (yX10_isCard, cX10_isCard, 1, (some .boolean), 1, 10, pj_r96)
def pj_m97 : pj_M := (yX10_isCan, cX10_isCan, 1, (some .boolean), 1, 10, pj_r97)
def pj_m98 : pj_M := (yX10_countOrSet, cX10_countOrSet, 2, (some .int), 1, 10, pj_r98)
def pj_m99 : pj_M := (yX10_eveningCanBe, cX10_eveningCanBe, 1, (some .boolean), 5, 10, pj_r99)
def pj_m100 : pj_M := (yX10_fewestCards, cX10_fewestCards, 5, (some .int), 1, 10, pj_r100)
def pj_m101 : pj_M := (yX11_init, cX11_init, 2, none, 1, 11, pj_r101)
def pj_m102 : pj_M := (yX11_in, cX11_in, 3, (some .boolean), 0, 11, pj_r102)
def pj_m103 : pj_M := (yX11_has, cX11_has, 2, (some .boolean), 0, 11, pj_r103)
def pj_m104 : pj_M := (yX11_bits, cX11_bits, 3, (some .int), 0, 11, pj_r104)
def pj_m105 : pj_M := (yX11_isCell, cX11_isCell, 1, (some .boolean), 1, 11, pj_r105)
def pj_m106 : pj_M := (yX11_isCard, cX11_isCard, 1, (some .boolean), 1, 11, pj_r106)
def pj_m107 : pj_M := (yX11_lay, cX11_lay, 5, (some .int), 2, 11, pj_r107)
def pj_m108 : pj_M := (yX11_card, cX11_card, 4, (some .int), 2, 11, pj_r108)
def pj_m109 : pj_M := (yX11_can, cX11_can, 4, (some .int), 1, 11, pj_r109)
def pj_m110 : pj_M := (yX11_say, cX11_say, 2, (some .int), 1, 11, pj_r110)
def pj_m111 : pj_M := (yX11_wipe, cX11_wipe, 2, (some .int), 0, 11, pj_r111)
def pj_m112 : pj_M := (yX11_step, cX11_step, 2, (some .int), 1, 11, pj_r112)
def pj_m113 : pj_M := (yX11_faultOf, cX11_faultOf, 3, (some .int), 2, 11, pj_r113)
def pj_m114 : pj_M := (yX11_fault, cX11_fault, 1, (some .int), 3, 11, pj_r114)
def pj_m115 : pj_M := (yX11_quarter, cX11_quarter, 3, (some .int), 1, 11, pj_r115)
def pj_m116 : pj_M := (yX11_over, cX11_over, 3, (some .int), 1, 11, pj_r116)
def pj_m117 : pj_M := (yX11_quarters, cX11_quarters, 4, (some .int), 2, 11, pj_r117)
def pj_m118 : pj_M := (yX11_turned, cX11_turned, 3, (some .int), 3, 11, pj_r118)
def pj_m119 : pj_M := (yX11_asNow, cX11_asNow, 2, none, 0, 11, pj_r119)
def pj_m120 : pj_M := (yX11_ones, cX11_ones, 4, (some .int), 0, 11, pj_r120)
def pj_m121 : pj_M := (yX11_spray, cX11_spray, 6, (some .int), 3, 11, pj_r121)
def pj_m122 : pj_M := (yX11_turnOver, cX11_turnOver, 3, (some .int), 2, 11, pj_r122)
def pj_m123 : pj_M := (yX11_scrape, cX11_scrape, 2, (some .int), 0, 11, pj_r123)
def pj_m124 : pj_M := (yX11_endHour, cX11_endHour, 1, (some .int), 0, 11, pj_r124)
def pj_m125 : pj_M := (yX11_oneAct, cX11_oneAct, 3, (some .int), 4, 11, pj_r125)
def pj_m126 : pj_M := (yX11_goEvenings, cX11_goEvenings, 6, (some .int), 5, 11, pj_r126)
def pj_m127 : pj_M := (yX11_judge, cX11_judge, 3, (some .int), 6, 11, pj_r127)
def pj_m128 : pj_M := (yX11_barOfEvenings, cX11_barOfEvenings, 1, (some .int), 6, 11, pj_r128)
def pj_m129 : pj_M := (yX11_done, cX11_done, 2, (some .int), 7, 11, pj_r129)
def pj_m130 : pj_M := (yX11_behind, cX11_behind, 3, (some .int), 7, 11, pj_r130)
def pj_m131 : pj_M := (yX11_left, cX11_left, 2, (some .int), 7, 11, pj_r131)
def pj_m132 : pj_M := (yX11_then, cX11_then, 2, (some .int), 7, 11, pj_r132)
def pj_m133 : pj_M := (yX11_spread, cX11_spread, 6, (some .int), 1, 11, pj_r133)
def pj_m134 : pj_M := (yX11_patch, cX11_patch, 5, (some .int), 2, 11, pj_r134)
def pj_m135 : pj_M := (yX11_box, cX11_box, 9, (some .int), 1, 11, pj_r135)
def pj_m136 : pj_M := (yX11_cover, cX11_cover, 7, (some .int), 1, 11, pj_r136)
def pj_m137 : pj_M := (yX11_wallOf, cX11_wallOf, 10, (some .long), 1, 11, pj_r137)
def pj_m138 : pj_M := (yX11_fives, cX11_fives, 3, (some .int), 0, 11, pj_r138)
def pj_m139 : pj_M := (yX11_pictures, cX11_pictures, 8, (some .int), 2, 11, pj_r139)
def pj_m140 : pj_M := (yX11_made, cX11_made, 6, (some .int), 2, 11, pj_r140)
def pj_m141 : pj_M := (yX11_orderOf, cX11_orderOf, 6, (some .int), 0, 11, pj_r141)
def pj_m142 : pj_M := (yX11_seen, cX11_seen, 3, (some .int), 2, 11, pj_r142)
def pj_m143 : pj_M := (yX11_forget, cX11_forget, 2, (some .int), 0, 11, pj_r143)
def pj_m144 : pj_M := (yX11_printOf, cX11_printOf, 2, (some .int), 3, 11, pj_r144)
def pj_m145 : pj_M := (yX11_isFit, cX11_isFit, 4, (some .boolean), 4, 11, pj_r145)
def pj_m146 : pj_M := (yX11_prints, cX11_prints, 4, (some .int), 5, 11, pj_r146)
def pj_m147 : pj_M := (yX11_ask, cX11_ask, 9, (some .int), 5, 11, pj_r147)
def pj_m148 : pj_M := (yX11_steps, cX11_steps, 9, (some .int), 1, 11, pj_r148)
def pj_m149 : pj_M := (yX11_fall, cX11_fall, 15, (some .long), 1, 11, pj_r149)
def pj_m150 : pj_M := (yX11_year, cX11_year, 8, (some .int), 4, 11, pj_r150)
def pj_m151 : pj_M := (yX11_image, cX11_image, 4, (some .int), 1, 11, pj_r151)
def pj_m152 : pj_M := (yX11_restore, cX11_restore, 4, (some .int), 1, 11, pj_r152)
def pj_m153 : pj_M := (yX11_told, cX11_told, 2, (some .int), 1, 11, pj_r153)
def pj_m154 : pj_M := (yJ6_numberOfTrailingZeros_0f7a4, cJ6_numberOfTrailingZeros_0f7a4, 2, (some .int), 0, 13, pj_r154)
def pj_m155 : pj_M := (yJ6_bitCount_0f7a4, cJ6_bitCount_0f7a4, 1, (some .int), 0, 13, pj_r155)
def pj_m156 : pj_M := (yJ7_fill_d0a16, cJ7_fill_d0a16, 5, none, 0, 14, pj_r156)
def pj_m157 : pj_M := (yJ7_fill_53178, cJ7_fill_53178, 4, none, 0, 14, pj_r157)
def pj_mL : pj_M := (yL_law, cL_law, 4, some .boolean, 8, 12, pj_r158)
def pj_ms : List pj_M := [pj_m0, pj_m1, pj_m2, pj_m3, pj_m4, pj_m5, pj_m6, pj_m7, pj_m8, pj_m9, pj_m10, pj_m11, pj_m12, pj_m13, pj_m14, pj_m15, pj_m16, pj_m17, pj_m18, pj_m19, pj_m20, pj_m21, pj_m22, pj_m23, pj_m24, pj_m25, pj_m26, pj_m27, pj_m28, pj_m29, pj_m30, pj_m31, pj_m32, pj_m33, pj_m34, pj_m35, pj_m36, pj_m37, pj_m38, pj_m39, pj_m40, pj_m41, pj_m42, pj_m43, pj_m44, pj_m45, pj_m46, pj_m47, pj_m48, pj_m49, pj_m50, pj_m51, pj_m52, pj_m53, pj_m54, pj_m55, pj_m56, pj_m57, pj_m58, pj_m59, pj_m60, pj_m61, pj_m62, pj_m63, pj_m64, pj_m65, pj_m66, pj_m67, pj_m68, pj_m69, pj_m70, pj_m71, pj_m72, pj_m73, pj_m74, pj_m75, pj_m76, pj_m77, pj_m78, pj_m79, pj_m80, pj_m81, pj_m82, pj_m83, pj_m84, pj_m85, pj_m86, pj_m87, pj_m88, pj_m89, pj_m90, pj_m91, pj_m92, pj_m93, pj_m94, pj_m95, pj_m96, pj_m97, pj_m98, pj_m99, pj_m100, pj_m101, pj_m102, pj_m103, pj_m104, pj_m105, pj_m106, pj_m107, pj_m108, pj_m109, pj_m110, pj_m111, pj_m112, pj_m113, pj_m114, pj_m115, pj_m116, pj_m117, pj_m118, pj_m119, pj_m120, pj_m121, pj_m122, pj_m123, pj_m124, pj_m125, pj_m126, pj_m127, pj_m128, pj_m129, pj_m130, pj_m131, pj_m132, pj_m133, pj_m134, pj_m135, pj_m136, pj_m137, pj_m138, pj_m139, pj_m140, pj_m141, pj_m142, pj_m143, pj_m144, pj_m145, pj_m146, pj_m147, pj_m148, pj_m149, pj_m150, pj_m151, pj_m152, pj_m153, pj_m154, pj_m155, pj_m156, pj_m157]
def pj_all : List pj_M := pj_ms ++ [pj_mL]
def pj_fl : List (Nat × Nat × Nat × Nat × Nat) := [(30, 0, 1, 0, 145), (34, 0, 2, 0, 147), (37, 0, 3, 0, 149), (40, 5, 9, 1, 100), (49, 0, 4, 0, 151), (52, 0, 0, 0, 143), (1009, 1, 0, 0, 224), (2011, 2, 0, 0, 207), (2015, 2, 1, 0, 208), (2018, 2, 2, 0, 209), (3011, 3, 0, 0, 170), (3015, 3, 1, 0, 171), (3018, 3, 2, 0, 172), (3022, 3, 3, 0, 173), (3025, 3, 4, 0, 174), (3032, 3, 5, 0, 175), (3058, 3, 6, 0, 176), (3068, 3, 7, 0, 177), (3071, 3, 8, 0, 179), (4011, 4, 0, 0, 130), (4015, 4, 1, 0, 131), (5009, 5, 0, 0, 87), (5015, 5, 1, 0, 88), (5018, 5, 2, 0, 89), (5034, 5, 3, 0, 90), (5038, 5, 4, 0, 92), (5041, 5, 5, 0, 94), (5044, 5, 6, 0, 96), (5047, 5, 7, 0, 97), (5050, 5, 8, 0, 98), (5053, 5, 9, 0, 101), (10010, 6, 0, 0, 228), (10016, 6, 1, 0, 229), (10019, 6, 2, 0, 230), (10022, 6, 3, 0, 231), (10028, 6, 6, 0, 234), (10035, 6, 7, 0, 235), (10042, 6, 8, 0, 236), (10049, 6, 9, 0, 237), (10056, 6, 10, 0, 238), (10116, 0, 1, 1, 146), (10120, 0, 2, 1, 148), (10131, 0, 0, 1, 144), (10134, 5, 3, 1, 91), (10140, 5, 4, 1, 93), (10143, 5, 8, 1, 99), (10146, 0, 3, 1, 150), (10149, 0, 4, 1, 152), (10179, 3, 7, 1, 178), (10182, 3, 8, 1, 180), (10188, 5, 5, 1, 95), (10200, 2, 2, 1, 210), (10240, 6, 4, 0, 232), (10244, 6, 5, 0, 233), (11007, 7, 0, 0, 675), (11013, 7, 1, 0, 676), (11016, 7, 3, 0, 678), (11019, 7, 5, 0, 680), (11022, 7, 11, 0, 686), (11026, 7, 12, 0, 687), (11029, 7, 13, 0, 688), (11032, 7, 14, 0, 689), (11035, 7, 15, 0, 690), (11051, 7, 4, 0, 679), (11077, 7, 6, 0, 681), (11080, 7, 7, 0, 682), (11083, 7, 8, 0, 683), (11102, 7, 10, 0, 685), (11114, 7, 9, 0, 684), (11140, 7, 2, 0, 677)]
def pj_ml : List (Nat × Nat × Nat × Nat × Nat × Nat × Nat × Nat) := [(3, 9998, 0, 0, 142, 3, 0, 0), (9, 2, 0, 0, 362, 1, 364, 13), (14, 33, 1, 1, 366, 1, 368, 14), (22, 23, 0, 1, 373, 1, 325, 8), (26, 31, 2, 1, 374, 1, 376, 15), (43, 154, 1, 0, 421, 0, 422, 0), (55, 30, 1, 1, 425, 1, 427, 21), (1003, 9998, 0, 0, 223, 3, 0, 0), (1015, 156, 2, 0, 629, 0, 533, 0), (1023, 6, 2, 0, 634, 0, 635, 0), (2003, 9998, 0, 0, 206, 3, 0, 0), (2022, 37, 1, 1, 576, 1, 294, 3), (2028, 46, 1, 1, 577, 1, 579, 33), (2032, 10, 2, 0, 581, 1, 583, 34), (2036, 62, 1, 1, 585, 0, 396, 0), (2041, 13, 1, 0, 598, 1, 600, 37), (2044, 9997, 2, 0, 602, 5, 0, 0), (3003, 9998, 0, 0, 169, 3, 0, 0), (3028, 16, 1, 0, 519, 1, 521, 27), (3040, 19, 3, 0, 535, 1, 537, 28), (3044, 37, 1, 1, 523, 1, 294, 3), (3050, 17, 1, 0, 524, 0, 525, 0), (3054, 18, 1, 0, 527, 0, 528, 0), (3062, 156, 2, 0, 532, 0, 533, 0), (3074, 34, 1, 1, 530, 1, 407, 18), (3077, 20, 1, 0, 539, 1, 541, 29), (4003, 9998, 0, 0, 129, 3, 0, 0), (4019, 26, 1, 0, 343, 1, 345, 11), (4023, 28, 2, 0, 347, 0, 348, 0), (4027, 29, 1, 0, 350, 0, 351, 0), (4030, 94, 3, 1, 353, 0, 270, 0), (4034, 48, 1, 1, 378, 1, 380, 16), (4039, 47, 3, 1, 388, 1, 390, 17), (4043, 49, 1, 1, 412, 1, 414, 19), (4046, 50, 0, 1, 417, 1, 419, 20), (5003, 9998, 0, 0, 82, 3, 0, 0), (5022, 157, 2, 0, 84, 0, 85, 0), (5028, 9999, 5, 0, 370, 4, 0, 0), (5056, 34, 1, 0, 405, 1, 407, 18), (5060, 155, 1, 0, 398, 0, 399, 0), (5065, 37, 1, 0, 382, 1, 294, 3), (5068, 61, 2, 1, 392, 0, 393, 0), (5074, 39, 1, 0, 404, 1, 309, 5), (5077, 40, 2, 0, 409, 1, 278, 1), (5081, 41, 2, 0, 410, 1, 282, 2), (5085, 43, 2, 0, 411, 1, 313, 6), (5087, 63, 1, 1, 383, 0, 384, 0), (5090, 42, 2, 0, 387, 1, 298, 4), (5093, 36, 1, 0, 416, 1, 274, 0), (6009, 34, 1, 1, 467, 1, 407, 18), (6015, 52, 2, 0, 468, 0, 469, 0), (6021, 57, 2, 0, 475, 0, 476, 0), (6024, 53, 1, 0, 471, 0, 472, 0), (6028, 55, 2, 0, 493, 0, 494, 0), (6032, 56, 2, 0, 496, 0, 497, 0), (6036, 155, 1, 0, 478, 0, 399, 0), (6041, 9996, 2, 0, 479, 6, 0, 0), (7011, 59, 2, 0, 614, 0, 615, 0), (7015, 60, 3, 0, 617, 0, 618, 0), (8009, 62, 1, 0, 395, 0, 396, 0), (9010, 65, 3, 0, 650, 0, 651, 0), (9016, 48, 1, 1, 653, 1, 380, 16), (9022, 49, 1, 1, 654, 1, 414, 19), (9025, 50, 0, 1, 655, 1, 419, 20), (9029, 47, 3, 1, 656, 1, 390, 17), (10001, 9998, 0, 0, 74, 3, 0, 0), (10009, 32, 0, 1, 79, 2, 80, 0), (10027, 22, 0, 1, 126, 2, 127, 0), (10034, 0, 0, 1, 139, 2, 140, 0), (10041, 14, 0, 1, 166, 2, 167, 0), (10048, 8, 0, 1, 203, 2, 204, 0), (10055, 3, 0, 1, 220, 2, 221, 0), (10060, 95, 1, 0, 266, 0, 267, 0), (10064, 94, 3, 0, 269, 0, 270, 0), (10068, 36, 1, 1, 272, 1, 274, 0), (10072, 40, 2, 1, 276, 1, 278, 1), (10076, 41, 2, 1, 280, 1, 282, 2), (10080, 96, 1, 0, 288, 0, 289, 0), (10084, 37, 1, 1, 292, 1, 294, 3), (10087, 42, 2, 1, 296, 1, 298, 4), (10090, 97, 1, 0, 304, 0, 305, 0), (10093, 39, 1, 1, 307, 1, 309, 5), (10096, 43, 2, 1, 311, 1, 313, 6), (10099, 25, 1, 1, 319, 1, 321, 7), (10102, 23, 0, 1, 323, 1, 325, 8), (10106, 24, 0, 1, 331, 1, 333, 9), (10109, 27, 0, 1, 339, 1, 341, 10), (10112, 1, 3, 1, 358, 1, 360, 12), (10123, 99, 0, 0, 433, 1, 435, 22), (10127, 33, 1, 1, 437, 1, 368, 14), (10137, 35, 1, 1, 450, 1, 452, 23), (10152, 61, 2, 1, 458, 0, 393, 0), (10158, 63, 1, 1, 459, 0, 384, 0), (10161, 51, 1, 1, 464, 0, 465, 0), (10167, 98, 2, 0, 482, 0, 483, 0), (10170, 54, 1, 1, 490, 0, 491, 0), (10173, 100, 1, 0, 503, 1, 505, 24), (10176, 15, 1, 1, 515, 1, 517, 26), (10185, 21, 1, 1, 549, 0, 550, 0), (10191, 44, 2, 1, 556, 1, 558, 30), (10194, 45, 0, 1, 564, 1, 566, 31), (10197, 9, 1, 1, 572, 1, 574, 32), (10203, 11, 1, 1, 586, 1, 588, 35), (10206, 12, 0, 1, 594, 1, 596, 36), (10209, 13, 1, 1, 605, 1, 600, 37), (10213, 58, 1, 1, 611, 0, 612, 0), (10220, 4, 2, 1, 625, 1, 627, 38), (10224, 5, 1, 1, 630, 0, 631, 0), (10228, 6, 2, 1, 637, 0, 635, 0), (10231, 7, 3, 1, 638, 0, 639, 0), (10235, 64, 3, 1, 646, 0, 647, 0), (10247, 155, 1, 0, 485, 0, 399, 0), (10252, 38, 1, 1, 507, 1, 509, 25), (11001, 9998, 0, 0, 674, 3, 0, 0), (11039, 102, 3, 0, 732, 0, 733, 0), (11043, 105, 1, 0, 729, 0, 730, 0), (11047, 106, 1, 0, 739, 0, 740, 0), (11055, 112, 2, 0, 763, 0, 764, 0), (11059, 113, 0, 0, 759, 1, 761, 39), (11063, 103, 2, 0, 773, 0, 774, 0), (11067, 115, 1, 0, 779, 0, 780, 0), (11071, 116, 1, 0, 770, 0, 771, 0), (11074, 117, 2, 0, 776, 0, 777, 0), (11086, 104, 1, 0, 818, 0, 819, 0), (11089, 123, 1, 0, 806, 1, 808, 45), (11092, 122, 1, 0, 810, 1, 812, 46), (11095, 121, 3, 0, 814, 1, 816, 47), (11099, 119, 0, 0, 790, 1, 792, 41), (11105, 120, 1, 0, 794, 1, 796, 42), (11108, 124, 0, 0, 798, 1, 800, 43), (11111, 125, 1, 0, 802, 1, 804, 44), (11117, 126, 0, 0, 786, 1, 788, 40), (11120, 128, 0, 0, 825, 1, 827, 48), (11123, 133, 2, 0, 845, 0, 846, 0), (11130, 138, 1, 0, 860, 0, 861, 0), (11133, 137, 2, 0, 863, 1, 865, 49), (11137, 141, 2, 0, 873, 0, 874, 0), (11143, 144, 1, 0, 892, 1, 894, 51), (11146, 145, 1, 0, 888, 1, 890, 50), (12009, 66, 0, 0, 71, 2, 72, 0), (12012, 101, 0, 0, 671, 2, 672, 0), (12013, 67, 3, 0, 262, 1, 263, 264), (12017, 107, 3, 0, 725, 1, 726, 727), (12018, 68, 2, 0, 284, 1, 285, 286), (12022, 108, 2, 0, 735, 1, 736, 737), (12023, 69, 2, 0, 300, 1, 301, 302), (12026, 109, 2, 0, 743, 1, 744, 745), (12027, 70, 1, 0, 315, 1, 316, 317), (12031, 110, 1, 0, 747, 1, 748, 749), (12032, 71, 0, 0, 327, 1, 328, 329), (12036, 111, 0, 0, 751, 1, 752, 753), (12037, 72, 0, 0, 335, 1, 336, 337), (12040, 114, 0, 0, 755, 1, 756, 757), (12041, 73, 1, 0, 354, 1, 355, 356), (12044, 127, 1, 0, 782, 1, 783, 784), (12045, 74, 0, 0, 429, 1, 430, 431), (12048, 129, 0, 0, 821, 1, 822, 823), (12049, 75, 2, 0, 438, 1, 439, 440), (12052, 130, 2, 0, 829, 1, 830, 831), (12053, 76, 1, 0, 442, 1, 443, 444), (12056, 131, 1, 0, 833, 1, 834, 835), (12057, 77, 1, 0, 446, 1, 447, 448), (12060, 132, 1, 0, 837, 1, 838, 839), (12061, 78, 2, 0, 454, 1, 455, 456), (12064, 118, 2, 0, 766, 1, 767, 768), (12065, 79, 1, 0, 460, 1, 461, 462), (12068, 134, 1, 0, 841, 1, 842, 843), (12069, 80, 1, 0, 486, 1, 487, 488), (12072, 135, 1, 0, 848, 1, 849, 850), (12073, 81, 2, 0, 499, 1, 500, 501), (12076, 136, 2, 0, 852, 1, 853, 854), (12077, 82, 0, 0, 511, 1, 512, 513), (12080, 139, 0, 0, 856, 1, 857, 858), (12081, 83, 1, 0, 545, 1, 546, 547), (12084, 140, 1, 0, 869, 1, 870, 871), (12085, 84, 2, 0, 552, 1, 553, 554), (12089, 142, 2, 0, 876, 1, 877, 878), (12090, 85, 0, 0, 560, 1, 561, 562), (12093, 143, 0, 0, 880, 1, 881, 882), (12094, 86, 1, 0, 568, 1, 569, 570), (12097, 146, 1, 0, 884, 1, 885, 886), (12098, 87, 1, 0, 590, 1, 591, 592), (12101, 147, 1, 0, 896, 1, 897, 898), (12102, 88, 2, 0, 606, 1, 607, 608), (12105, 148, 2, 0, 901, 1, 902, 903), (12106, 89, 4, 0, 620, 1, 621, 622), (12110, 149, 4, 0, 906, 1, 907, 908), (12111, 90, 3, 0, 642, 1, 643, 644), (12114, 150, 3, 0, 912, 1, 913, 914), (12115, 91, 1, 0, 657, 1, 658, 659), (12118, 151, 1, 0, 917, 1, 918, 919), (12119, 92, 1, 0, 661, 1, 662, 663), (12122, 152, 1, 0, 921, 1, 922, 923), (12123, 93, 1, 0, 665, 1, 666, 667), (12126, 153, 1, 0, 925, 1, 926, 927)]
def pj_cl : List (Nat × Nat × Nat) := [(10007, 5, 77), (10025, 4, 124), (10032, 0, 137), (10039, 3, 164), (10046, 2, 201), (10053, 1, 218), (12007, 6, 69), (12010, 7, 669)]
def pj_ci : List (Nat × Int32 × Nat) := [(5021, 65535, 83), (6027, -34953, 474), (8015, 34952, 386), (9009, 65537, 649), (10083, 65535, 291), (10212, 99999, 610), (11050, 65535, 742), (11149, 1000000, 900), (11150, 99999, 905), (11155, 65537, 916), (13264, 65536, 424), (13265, 1431655765, 401), (13266, 858993459, 402), (13267, 252645135, 403)]
def pj_cj : List (Nat × Int64 × Nat) := [(1021, 16, 633), (1027, 2, 641), (3036, 15, 544), (3038, -1, 531), (3081, -7046029254386353131, 543), (10218, -1000000000000000002, 624), (11126, -1, 867), (11128, 7, 868), (11151, -1000000000000000002, 910), (11153, 16, 911)]
def pj_T : List Jvm.Cond := lw_tbl.filter goodWord
def pj_isN : Jvm.Cond → Bool := fun w => match w with
  | .fieldLinkNest _ _ _ _ _ _ => true
  | .methodLinkNest _ _ _ _ => true
  | _ => false
def pj_N : List Jvm.Cond := lw_tbl.filter pj_isN
def pj_chk (k : Nat) (w : Jvm.Cond) : Bool := decide (lw_tbl[k]? = some w) && goodWord w
theorem pj_chk_in {k : Nat} {w : Jvm.Cond} (h : pj_chk k w = true) : w ∈ pj_T := by
  unfold pj_chk at h
  rw [Bool.and_eq_true, decide_eq_true_eq] at h
  exact List.mem_filter.mpr ⟨List.mem_of_getElem? h.1, h.2⟩
def pj_chkN (k : Nat) (w : Jvm.Cond) : Bool := decide (lw_tbl[k]? = some w) && pj_isN w
theorem pj_chkN_in {k : Nat} {w : Jvm.Cond} (h : pj_chkN k w = true) : w ∈ pj_N := by
  unfold pj_chkN at h
  rw [Bool.and_eq_true, decide_eq_true_eq] at h
  exact List.mem_filter.mpr ⟨List.mem_of_getElem? h.1, h.2⟩
/-- a field link: its class among vwCl, its place, plain or of a nest mate -/
def pj_FOK (q : Nat × Nat × Nat × Nat × Nat) : Bool := match vwCl[q.2.1]? with
  | none => false
  | some r => decide (q.2.2.1 < r.2.2) && (if q.2.2.2.1 = 0 then pj_chk q.2.2.2.2 (.fieldLink (pj_cn (q.1 / 1000)) (q.1 % 1000) (r.2.1 q.2.2.1).1 (r.2.1 q.2.2.1).2.1 (r.2.1 q.2.2.1).2.2.1) else pj_chkN q.2.2.2.2 (.fieldLinkNest (pj_cn (q.1 / 1000)) (q.1 % 1000) (r.2.1 q.2.2.1).1 (r.2.1 q.2.2.1).2.1 (r.2.1 q.2.2.1).2.2.1 "StencilWall"))
theorem pj_flok : pj_fl.all pj_FOK = true := by decide +kernel
/-- a class link -/
def pj_LOK (q : Nat × Nat × Nat) : Bool := match vwCl[q.2.1]? with
  | none => false
  | some r => pj_chk q.2.2 (.classLink (pj_cn (q.1 / 1000)) (q.1 % 1000) r.1)
theorem pj_clok : pj_cl.all pj_LOK = true := by decide +kernel
theorem pj_ciok : pj_ci.all (fun q => pj_chk q.2.2 (.constant (pj_cn (q.1 / 1000)) (q.1 % 1000) q.2.1)) = true := by decide +kernel
theorem pj_cjok : pj_cj.all (fun q => pj_chk q.2.2 (.constantLong (pj_cn (q.1 / 1000)) (q.1 % 1000) q.2.1)) = true := by decide +kernel
/-- a method link: plain or of a nest mate; Object's constructor is 9998, System.arraycopy 9999, Math.max 9997, Math.min 9996 -/
def pj_KOK (q : Nat × Nat × Nat × Nat × Nat × Nat × Nat × Nat) : Bool :=
  if q.2.2.2.2.2.1 = 3 then decide (q.2.2.2.1 = 0) && pj_chk q.2.2.2.2.1 (.methodLink (pj_cn (q.1 / 1000)) (q.1 % 1000) objectInit)
  else if q.2.2.2.2.2.1 = 4 then decide (q.2.2.2.1 = 0) && pj_chk q.2.2.2.2.1 (.methodLink (pj_cn (q.1 / 1000)) (q.1 % 1000) arraycopyName)
  else if q.2.2.2.2.2.1 = 5 then decide (q.2.2.2.1 = 0) && pj_chk q.2.2.2.2.1 (.methodLink (pj_cn (q.1 / 1000)) (q.1 % 1000) Lib.Math.max.name)
  else if q.2.2.2.2.2.1 = 6 then decide (q.2.2.2.1 = 0) && pj_chk q.2.2.2.2.1 (.methodLink (pj_cn (q.1 / 1000)) (q.1 % 1000) Lib.Math.min.name)
  else match pj_ms[q.2.1]? with
  | none => false
  | some r => decide ((parseMethodDescriptor r.1.desc).map (fun d => d.parameters.length) = some q.2.2.1) && (if q.2.2.2.1 = 0 then pj_chk q.2.2.2.2.1 (.methodLink (pj_cn (q.1 / 1000)) (q.1 % 1000) r.1) else pj_chkN q.2.2.2.2.1 (.methodLinkNest (pj_cn (q.1 / 1000)) (q.1 % 1000) r.1 "StencilWall")) &&
    (if q.2.2.2.2.2.1 = 0 then pj_chk q.2.2.2.2.2.2.1 (.static r.1) else if q.2.2.2.2.2.1 = 1 then pj_chk q.2.2.2.2.2.2.1 (.instanceMethod r.1) && pj_chk q.2.2.2.2.2.2.2 (.selects r.1.cls r.1 r.1) else decide (r.1.name = "<init>") && pj_chk q.2.2.2.2.2.2.1 (.instanceMethod r.1))
theorem pj_mlok : pj_ml.all pj_KOK = true := by decide +kernel
/-- a method as one that is called: its places in the tables (code, initialized) -/
def pj_MOK (q : pj_M) (a b : Nat) : Bool := pj_chk a (.code q.1 q.2.1 q.2.2.1 q.2.2.2.1) && pj_chk b (.initialized q.1.cls) && decide (q.1.cls ≠ "java/lang/invoke/MethodHandle") && decide (q.1.cls ≠ "java/lang/invoke/VarHandle") && plainName q.1.cls && Nat.ble q.2.2.1 17 && decide (q.1.cls = pj_cn q.2.2.2.2.2.1)
theorem pj_mk0 : pj_MOK pj_m0 141 57 = true := by decide +kernel
theorem pj_mk1 : pj_MOK pj_m1 361 57 = true := by decide +kernel
theorem pj_mk2 : pj_MOK pj_m2 365 57 = true := by decide +kernel
theorem pj_mk3 : pj_MOK pj_m3 222 60 = true := by decide +kernel
theorem pj_mk4 : pj_MOK pj_m4 628 60 = true := by decide +kernel
theorem pj_mk5 : pj_MOK pj_m5 632 60 = true := by decide +kernel
theorem pj_mk6 : pj_MOK pj_m6 636 60 = true := by decide +kernel
theorem pj_mk7 : pj_MOK pj_m7 640 60 = true := by decide +kernel
theorem pj_mk8 : pj_MOK pj_m8 205 59 = true := by decide +kernel
theorem pj_mk9 : pj_MOK pj_m9 575 59 = true := by decide +kernel
theorem pj_mk10 : pj_MOK pj_m10 584 59 = true := by decide +kernel
theorem pj_mk11 : pj_MOK pj_m11 589 59 = true := by decide +kernel
theorem pj_mk12 : pj_MOK pj_m12 597 59 = true := by decide +kernel
theorem pj_mk13 : pj_MOK pj_m13 601 59 = true := by decide +kernel
theorem pj_mk14 : pj_MOK pj_m14 168 58 = true := by decide +kernel
theorem pj_mk15 : pj_MOK pj_m15 518 58 = true := by decide +kernel
theorem pj_mk16 : pj_MOK pj_m16 522 58 = true := by decide +kernel
theorem pj_mk17 : pj_MOK pj_m17 526 58 = true := by decide +kernel
theorem pj_mk18 : pj_MOK pj_m18 529 58 = true := by decide +kernel
theorem pj_mk19 : pj_MOK pj_m19 538 58 = true := by decide +kernel
theorem pj_mk20 : pj_MOK pj_m20 542 58 = true := by decide +kernel
theorem pj_mk21 : pj_MOK pj_m21 551 58 = true := by decide +kernel
theorem pj_mk22 : pj_MOK pj_m22 128 56 = true := by decide +kernel
theorem pj_mk23 : pj_MOK pj_m23 326 56 = true := by decide +kernel
theorem pj_mk24 : pj_MOK pj_m24 334 56 = true := by decide +kernel
theorem pj_mk25 : pj_MOK pj_m25 322 56 = true := by decide +kernel
theorem pj_mk26 : pj_MOK pj_m26 346 56 = true := by decide +kernel
theorem pj_mk27 : pj_MOK pj_m27 342 56 = true := by decide +kernel
theorem pj_mk28 : pj_MOK pj_m28 349 56 = true := by decide +kernel
theorem pj_mk29 : pj_MOK pj_m29 352 56 = true := by decide +kernel
theorem pj_mk30 : pj_MOK pj_m30 428 56 = true := by decide +kernel
theorem pj_mk31 : pj_MOK pj_m31 377 56 = true := by decide +kernel
theorem pj_mk32 : pj_MOK pj_m32 81 54 = true := by decide +kernel
theorem pj_mk33 : pj_MOK pj_m33 369 54 = true := by decide +kernel
theorem pj_mk34 : pj_MOK pj_m34 408 54 = true := by decide +kernel
theorem pj_mk35 : pj_MOK pj_m35 453 54 = true := by decide +kernel
theorem pj_mk36 : pj_MOK pj_m36 275 54 = true := by decide +kernel
theorem pj_mk37 : pj_MOK pj_m37 295 54 = true := by decide +kernel
theorem pj_mk38 : pj_MOK pj_m38 510 54 = true := by decide +kernel
theorem pj_mk39 : pj_MOK pj_m39 310 54 = true := by decide +kernel
theorem pj_mk40 : pj_MOK pj_m40 279 54 = true := by decide +kernel
theorem pj_mk41 : pj_MOK pj_m41 283 54 = true := by decide +kernel
theorem pj_mk42 : pj_MOK pj_m42 299 54 = true := by decide +kernel
theorem pj_mk43 : pj_MOK pj_m43 314 54 = true := by decide +kernel
theorem pj_mk44 : pj_MOK pj_m44 559 54 = true := by decide +kernel
theorem pj_mk45 : pj_MOK pj_m45 567 54 = true := by decide +kernel
theorem pj_mk46 : pj_MOK pj_m46 580 54 = true := by decide +kernel
theorem pj_mk47 : pj_MOK pj_m47 391 54 = true := by decide +kernel
theorem pj_mk48 : pj_MOK pj_m48 381 54 = true := by decide +kernel
theorem pj_mk49 : pj_MOK pj_m49 415 54 = true := by decide +kernel
theorem pj_mk50 : pj_MOK pj_m50 420 54 = true := by decide +kernel
theorem pj_mk51 : pj_MOK pj_m51 466 65 = true := by decide +kernel
theorem pj_mk52 : pj_MOK pj_m52 470 65 = true := by decide +kernel
theorem pj_mk53 : pj_MOK pj_m53 473 65 = true := by decide +kernel
theorem pj_mk54 : pj_MOK pj_m54 492 65 = true := by decide +kernel
theorem pj_mk55 : pj_MOK pj_m55 495 65 = true := by decide +kernel
theorem pj_mk56 : pj_MOK pj_m56 498 65 = true := by decide +kernel
theorem pj_mk57 : pj_MOK pj_m57 477 65 = true := by decide +kernel
theorem pj_mk58 : pj_MOK pj_m58 613 67 = true := by decide +kernel
theorem pj_mk59 : pj_MOK pj_m59 616 67 = true := by decide +kernel
theorem pj_mk60 : pj_MOK pj_m60 619 67 = true := by decide +kernel
theorem pj_mk61 : pj_MOK pj_m61 394 63 = true := by decide +kernel
theorem pj_mk62 : pj_MOK pj_m62 397 63 = true := by decide +kernel
theorem pj_mk63 : pj_MOK pj_m63 385 63 = true := by decide +kernel
theorem pj_mk64 : pj_MOK pj_m64 648 68 = true := by decide +kernel
theorem pj_mk65 : pj_MOK pj_m65 652 68 = true := by decide +kernel
theorem pj_mk66 : pj_MOK pj_m66 73 53 = true := by decide +kernel
theorem pj_mk67 : pj_MOK pj_m67 265 53 = true := by decide +kernel
theorem pj_mk68 : pj_MOK pj_m68 287 53 = true := by decide +kernel
theorem pj_mk69 : pj_MOK pj_m69 303 53 = true := by decide +kernel
theorem pj_mk70 : pj_MOK pj_m70 318 53 = true := by decide +kernel
theorem pj_mk71 : pj_MOK pj_m71 330 53 = true := by decide +kernel
theorem pj_mk72 : pj_MOK pj_m72 338 53 = true := by decide +kernel
theorem pj_mk73 : pj_MOK pj_m73 357 53 = true := by decide +kernel
theorem pj_mk74 : pj_MOK pj_m74 432 53 = true := by decide +kernel
theorem pj_mk75 : pj_MOK pj_m75 441 53 = true := by decide +kernel
theorem pj_mk76 : pj_MOK pj_m76 445 53 = true := by decide +kernel
theorem pj_mk77 : pj_MOK pj_m77 449 53 = true := by decide +kernel
theorem pj_mk78 : pj_MOK pj_m78 457 53 = true := by decide +kernel
theorem pj_mk79 : pj_MOK pj_m79 463 53 = true := by decide +kernel
theorem pj_mk80 : pj_MOK pj_m80 489 53 = true := by decide +kernel
theorem pj_mk81 : pj_MOK pj_m81 502 53 = true := by decide +kernel
theorem pj_mk82 : pj_MOK pj_m82 514 53 = true := by decide +kernel
theorem pj_mk83 : pj_MOK pj_m83 548 53 = true := by decide +kernel
theorem pj_mk84 : pj_MOK pj_m84 555 53 = true := by decide +kernel
theorem pj_mk85 : pj_MOK pj_m85 563 53 = true := by decide +kernel
theorem pj_mk86 : pj_MOK pj_m86 571 53 = true := by decide +kernel
theorem pj_mk87 : pj_MOK pj_m87 593 53 = true := by decide +kernel
theorem pj_mk88 : pj_MOK pj_m88 609 53 = true := by decide +kernel
theorem pj_mk89 : pj_MOK pj_m89 623 53 = true := by decide +kernel
theorem pj_mk90 : pj_MOK pj_m90 645 53 = true := by decide +kernel
theorem pj_mk91 : pj_MOK pj_m91 660 53 = true := by decide +kernel
theorem pj_mk92 : pj_MOK pj_m92 664 53 = true := by decide +kernel
theorem pj_mk93 : pj_MOK pj_m93 668 53 = true := by decide +kernel
theorem pj_mk94 : pj_MOK pj_m94 271 53 = true := by decide +kernel
theorem pj_mk95 : pj_MOK pj_m95 268 53 = true := by decide +kernel
theorem pj_mk96 : pj_MOK pj_m96 290 53 = true := by decide +kernel
theorem pj_mk97 : pj_MOK pj_m97 306 53 = true := by decide +kernel
theorem pj_mk98 : pj_MOK pj_m98 484 53 = true := by decide +kernel
theorem pj_mk99 : pj_MOK pj_m99 436 53 = true := by decide +kernel
theorem pj_mk100 : pj_MOK pj_m100 506 53 = true := by decide +kernel
theorem pj_mk101 : pj_MOK pj_m101 673 61 = true := by decide +kernel
theorem pj_mk102 : pj_MOK pj_m102 734 61 = true := by decide +kernel
theorem pj_mk103 : pj_MOK pj_m103 775 61 = true := by decide +kernel
theorem pj_mk104 : pj_MOK pj_m104 820 61 = true := by decide +kernel
theorem pj_mk105 : pj_MOK pj_m105 731 61 = true := by decide +kernel
theorem pj_mk106 : pj_MOK pj_m106 741 61 = true := by decide +kernel
theorem pj_mk107 : pj_MOK pj_m107 728 61 = true := by decide +kernel
theorem pj_mk108 : pj_MOK pj_m108 738 61 = true := by decide +kernel
theorem pj_mk109 : pj_MOK pj_m109 746 61 = true := by decide +kernel
theorem pj_mk110 : pj_MOK pj_m110 750 61 = true := by decide +kernel
theorem pj_mk111 : pj_MOK pj_m111 754 61 = true := by decide +kernel
theorem pj_mk112 : pj_MOK pj_m112 765 61 = true := by decide +kernel
theorem pj_mk113 : pj_MOK pj_m113 762 61 = true := by decide +kernel
theorem pj_mk114 : pj_MOK pj_m114 758 61 = true := by decide +kernel
theorem pj_mk115 : pj_MOK pj_m115 781 61 = true := by decide +kernel
theorem pj_mk116 : pj_MOK pj_m116 772 61 = true := by decide +kernel
theorem pj_mk117 : pj_MOK pj_m117 778 61 = true := by decide +kernel
theorem pj_mk118 : pj_MOK pj_m118 769 61 = true := by decide +kernel
theorem pj_mk119 : pj_MOK pj_m119 793 61 = true := by decide +kernel
theorem pj_mk120 : pj_MOK pj_m120 797 61 = true := by decide +kernel
theorem pj_mk121 : pj_MOK pj_m121 817 61 = true := by decide +kernel
theorem pj_mk122 : pj_MOK pj_m122 813 61 = true := by decide +kernel
theorem pj_mk123 : pj_MOK pj_m123 809 61 = true := by decide +kernel
theorem pj_mk124 : pj_MOK pj_m124 801 61 = true := by decide +kernel
theorem pj_mk125 : pj_MOK pj_m125 805 61 = true := by decide +kernel
theorem pj_mk126 : pj_MOK pj_m126 789 61 = true := by decide +kernel
theorem pj_mk127 : pj_MOK pj_m127 785 61 = true := by decide +kernel
theorem pj_mk128 : pj_MOK pj_m128 828 61 = true := by decide +kernel
theorem pj_mk129 : pj_MOK pj_m129 824 61 = true := by decide +kernel
theorem pj_mk130 : pj_MOK pj_m130 832 61 = true := by decide +kernel
theorem pj_mk131 : pj_MOK pj_m131 836 61 = true := by decide +kernel
theorem pj_mk132 : pj_MOK pj_m132 840 61 = true := by decide +kernel
theorem pj_mk133 : pj_MOK pj_m133 847 61 = true := by decide +kernel
theorem pj_mk134 : pj_MOK pj_m134 844 61 = true := by decide +kernel
theorem pj_mk135 : pj_MOK pj_m135 851 61 = true := by decide +kernel
theorem pj_mk136 : pj_MOK pj_m136 855 61 = true := by decide +kernel
theorem pj_mk137 : pj_MOK pj_m137 866 61 = true := by decide +kernel
theorem pj_mk138 : pj_MOK pj_m138 862 61 = true := by decide +kernel
theorem pj_mk139 : pj_MOK pj_m139 859 61 = true := by decide +kernel
theorem pj_mk140 : pj_MOK pj_m140 872 61 = true := by decide +kernel
theorem pj_mk141 : pj_MOK pj_m141 875 61 = true := by decide +kernel
theorem pj_mk142 : pj_MOK pj_m142 879 61 = true := by decide +kernel
theorem pj_mk143 : pj_MOK pj_m143 883 61 = true := by decide +kernel
theorem pj_mk144 : pj_MOK pj_m144 895 61 = true := by decide +kernel
theorem pj_mk145 : pj_MOK pj_m145 891 61 = true := by decide +kernel
theorem pj_mk146 : pj_MOK pj_m146 887 61 = true := by decide +kernel
theorem pj_mk147 : pj_MOK pj_m147 899 61 = true := by decide +kernel
theorem pj_mk148 : pj_MOK pj_m148 904 61 = true := by decide +kernel
theorem pj_mk149 : pj_MOK pj_m149 909 61 = true := by decide +kernel
theorem pj_mk150 : pj_MOK pj_m150 915 61 = true := by decide +kernel
theorem pj_mk151 : pj_MOK pj_m151 920 61 = true := by decide +kernel
theorem pj_mk152 : pj_MOK pj_m152 924 61 = true := by decide +kernel
theorem pj_mk153 : pj_MOK pj_m153 928 61 = true := by decide +kernel
theorem pj_mk154 : pj_MOK pj_m154 423 64 = true := by decide +kernel
theorem pj_mk155 : pj_MOK pj_m155 400 64 = true := by decide +kernel
theorem pj_mk156 : pj_MOK pj_m156 534 55 = true := by decide +kernel
theorem pj_mk157 : pj_MOK pj_m157 86 55 = true := by decide +kernel
def pj_MO (q : pj_M) : Prop := ∃ a b, pj_MOK q a b = true
def pj_g0 : List pj_M := [pj_m0, pj_m1, pj_m2, pj_m3, pj_m4, pj_m5, pj_m6, pj_m7, pj_m8, pj_m9, pj_m10, pj_m11, pj_m12, pj_m13, pj_m14, pj_m15, pj_m16, pj_m17, pj_m18, pj_m19]
theorem pj_gk0 : ∀ q ∈ pj_g0, pj_MO q := List.forall_mem_cons.mpr ⟨⟨141, 57, pj_mk0⟩, List.forall_mem_cons.mpr ⟨⟨361, 57, pj_mk1⟩, List.forall_mem_cons.mpr ⟨⟨365, 57, pj_mk2⟩, List.forall_mem_cons.mpr ⟨⟨222, 60, pj_mk3⟩, List.forall_mem_cons.mpr ⟨⟨628, 60, pj_mk4⟩, List.forall_mem_cons.mpr ⟨⟨632, 60, pj_mk5⟩, List.forall_mem_cons.mpr ⟨⟨636, 60, pj_mk6⟩, List.forall_mem_cons.mpr ⟨⟨640, 60, pj_mk7⟩, List.forall_mem_cons.mpr ⟨⟨205, 59, pj_mk8⟩, List.forall_mem_cons.mpr ⟨⟨575, 59, pj_mk9⟩, List.forall_mem_cons.mpr ⟨⟨584, 59, pj_mk10⟩, List.forall_mem_cons.mpr ⟨⟨589, 59, pj_mk11⟩, List.forall_mem_cons.mpr ⟨⟨597, 59, pj_mk12⟩, List.forall_mem_cons.mpr ⟨⟨601, 59, pj_mk13⟩, List.forall_mem_cons.mpr ⟨⟨168, 58, pj_mk14⟩, List.forall_mem_cons.mpr ⟨⟨518, 58, pj_mk15⟩, List.forall_mem_cons.mpr ⟨⟨522, 58, pj_mk16⟩, List.forall_mem_cons.mpr ⟨⟨526, 58, pj_mk17⟩, List.forall_mem_cons.mpr ⟨⟨529, 58, pj_mk18⟩, List.forall_mem_cons.mpr ⟨⟨538, 58, pj_mk19⟩, fun _ h => absurd h List.not_mem_nil⟩⟩⟩⟩⟩⟩⟩⟩⟩⟩⟩⟩⟩⟩⟩⟩⟩⟩⟩⟩
def pj_g1 : List pj_M := [pj_m20, pj_m21, pj_m22, pj_m23, pj_m24, pj_m25, pj_m26, pj_m27, pj_m28, pj_m29, pj_m30, pj_m31, pj_m32, pj_m33, pj_m34, pj_m35, pj_m36, pj_m37, pj_m38, pj_m39]
theorem pj_gk1 : ∀ q ∈ pj_g1, pj_MO q := List.forall_mem_cons.mpr ⟨⟨542, 58, pj_mk20⟩, List.forall_mem_cons.mpr ⟨⟨551, 58, pj_mk21⟩, List.forall_mem_cons.mpr ⟨⟨128, 56, pj_mk22⟩, List.forall_mem_cons.mpr ⟨⟨326, 56, pj_mk23⟩, List.forall_mem_cons.mpr ⟨⟨334, 56, pj_mk24⟩, List.forall_mem_cons.mpr ⟨⟨322, 56, pj_mk25⟩, List.forall_mem_cons.mpr ⟨⟨346, 56, pj_mk26⟩, List.forall_mem_cons.mpr ⟨⟨342, 56, pj_mk27⟩, List.forall_mem_cons.mpr ⟨⟨349, 56, pj_mk28⟩, List.forall_mem_cons.mpr ⟨⟨352, 56, pj_mk29⟩, List.forall_mem_cons.mpr ⟨⟨428, 56, pj_mk30⟩, List.forall_mem_cons.mpr ⟨⟨377, 56, pj_mk31⟩, List.forall_mem_cons.mpr ⟨⟨81, 54, pj_mk32⟩, List.forall_mem_cons.mpr ⟨⟨369, 54, pj_mk33⟩, List.forall_mem_cons.mpr ⟨⟨408, 54, pj_mk34⟩, List.forall_mem_cons.mpr ⟨⟨453, 54, pj_mk35⟩, List.forall_mem_cons.mpr ⟨⟨275, 54, pj_mk36⟩, List.forall_mem_cons.mpr ⟨⟨295, 54, pj_mk37⟩, List.forall_mem_cons.mpr ⟨⟨510, 54, pj_mk38⟩, List.forall_mem_cons.mpr ⟨⟨310, 54, pj_mk39⟩, fun _ h => absurd h List.not_mem_nil⟩⟩⟩⟩⟩⟩⟩⟩⟩⟩⟩⟩⟩⟩⟩⟩⟩⟩⟩⟩
def pj_g2 : List pj_M := [pj_m40, pj_m41, pj_m42, pj_m43, pj_m44, pj_m45, pj_m46, pj_m47, pj_m48, pj_m49, pj_m50, pj_m51, pj_m52, pj_m53, pj_m54, pj_m55, pj_m56, pj_m57, pj_m58, pj_m59]
theorem pj_gk2 : ∀ q ∈ pj_g2, pj_MO q := List.forall_mem_cons.mpr ⟨⟨279, 54, pj_mk40⟩, List.forall_mem_cons.mpr ⟨⟨283, 54, pj_mk41⟩, List.forall_mem_cons.mpr ⟨⟨299, 54, pj_mk42⟩, List.forall_mem_cons.mpr ⟨⟨314, 54, pj_mk43⟩, List.forall_mem_cons.mpr ⟨⟨559, 54, pj_mk44⟩, List.forall_mem_cons.mpr ⟨⟨567, 54, pj_mk45⟩, List.forall_mem_cons.mpr ⟨⟨580, 54, pj_mk46⟩, List.forall_mem_cons.mpr ⟨⟨391, 54, pj_mk47⟩, List.forall_mem_cons.mpr ⟨⟨381, 54, pj_mk48⟩, List.forall_mem_cons.mpr ⟨⟨415, 54, pj_mk49⟩, List.forall_mem_cons.mpr ⟨⟨420, 54, pj_mk50⟩, List.forall_mem_cons.mpr ⟨⟨466, 65, pj_mk51⟩, List.forall_mem_cons.mpr ⟨⟨470, 65, pj_mk52⟩, List.forall_mem_cons.mpr ⟨⟨473, 65, pj_mk53⟩, List.forall_mem_cons.mpr ⟨⟨492, 65, pj_mk54⟩, List.forall_mem_cons.mpr ⟨⟨495, 65, pj_mk55⟩, List.forall_mem_cons.mpr ⟨⟨498, 65, pj_mk56⟩, List.forall_mem_cons.mpr ⟨⟨477, 65, pj_mk57⟩, List.forall_mem_cons.mpr ⟨⟨613, 67, pj_mk58⟩, List.forall_mem_cons.mpr ⟨⟨616, 67, pj_mk59⟩, fun _ h => absurd h List.not_mem_nil⟩⟩⟩⟩⟩⟩⟩⟩⟩⟩⟩⟩⟩⟩⟩⟩⟩⟩⟩⟩
def pj_g3 : List pj_M := [pj_m60, pj_m61, pj_m62, pj_m63, pj_m64, pj_m65, pj_m66, pj_m67, pj_m68, pj_m69, pj_m70, pj_m71, pj_m72, pj_m73, pj_m74, pj_m75, pj_m76, pj_m77, pj_m78, pj_m79]
theorem pj_gk3 : ∀ q ∈ pj_g3, pj_MO q := List.forall_mem_cons.mpr ⟨⟨619, 67, pj_mk60⟩, List.forall_mem_cons.mpr ⟨⟨394, 63, pj_mk61⟩, List.forall_mem_cons.mpr ⟨⟨397, 63, pj_mk62⟩, List.forall_mem_cons.mpr ⟨⟨385, 63, pj_mk63⟩, List.forall_mem_cons.mpr ⟨⟨648, 68, pj_mk64⟩, List.forall_mem_cons.mpr ⟨⟨652, 68, pj_mk65⟩, List.forall_mem_cons.mpr ⟨⟨73, 53, pj_mk66⟩, List.forall_mem_cons.mpr ⟨⟨265, 53, pj_mk67⟩, List.forall_mem_cons.mpr ⟨⟨287, 53, pj_mk68⟩, List.forall_mem_cons.mpr ⟨⟨303, 53, pj_mk69⟩, List.forall_mem_cons.mpr ⟨⟨318, 53, pj_mk70⟩, List.forall_mem_cons.mpr ⟨⟨330, 53, pj_mk71⟩, List.forall_mem_cons.mpr ⟨⟨338, 53, pj_mk72⟩, List.forall_mem_cons.mpr ⟨⟨357, 53, pj_mk73⟩, List.forall_mem_cons.mpr ⟨⟨432, 53, pj_mk74⟩, List.forall_mem_cons.mpr ⟨⟨441, 53, pj_mk75⟩, List.forall_mem_cons.mpr ⟨⟨445, 53, pj_mk76⟩, List.forall_mem_cons.mpr ⟨⟨449, 53, pj_mk77⟩, List.forall_mem_cons.mpr ⟨⟨457, 53, pj_mk78⟩, List.forall_mem_cons.mpr ⟨⟨463, 53, pj_mk79⟩, fun _ h => absurd h List.not_mem_nil⟩⟩⟩⟩⟩⟩⟩⟩⟩⟩⟩⟩⟩⟩⟩⟩⟩⟩⟩⟩
def pj_g4 : List pj_M := [pj_m80, pj_m81, pj_m82, pj_m83, pj_m84, pj_m85, pj_m86, pj_m87, pj_m88, pj_m89, pj_m90, pj_m91, pj_m92, pj_m93, pj_m94, pj_m95, pj_m96, pj_m97, pj_m98, pj_m99]
theorem pj_gk4 : ∀ q ∈ pj_g4, pj_MO q := List.forall_mem_cons.mpr ⟨⟨489, 53, pj_mk80⟩, List.forall_mem_cons.mpr ⟨⟨502, 53, pj_mk81⟩, List.forall_mem_cons.mpr ⟨⟨514, 53, pj_mk82⟩, List.forall_mem_cons.mpr ⟨⟨548, 53, pj_mk83⟩, List.forall_mem_cons.mpr ⟨⟨555, 53, pj_mk84⟩, List.forall_mem_cons.mpr ⟨⟨563, 53, pj_mk85⟩, List.forall_mem_cons.mpr ⟨⟨571, 53, pj_mk86⟩, List.forall_mem_cons.mpr ⟨⟨593, 53, pj_mk87⟩, List.forall_mem_cons.mpr ⟨⟨609, 53, pj_mk88⟩, List.forall_mem_cons.mpr ⟨⟨623, 53, pj_mk89⟩, List.forall_mem_cons.mpr ⟨⟨645, 53, pj_mk90⟩, List.forall_mem_cons.mpr ⟨⟨660, 53, pj_mk91⟩, List.forall_mem_cons.mpr ⟨⟨664, 53, pj_mk92⟩, List.forall_mem_cons.mpr ⟨⟨668, 53, pj_mk93⟩, List.forall_mem_cons.mpr ⟨⟨271, 53, pj_mk94⟩, List.forall_mem_cons.mpr ⟨⟨268, 53, pj_mk95⟩, List.forall_mem_cons.mpr ⟨⟨290, 53, pj_mk96⟩, List.forall_mem_cons.mpr ⟨⟨306, 53, pj_mk97⟩, List.forall_mem_cons.mpr ⟨⟨484, 53, pj_mk98⟩, List.forall_mem_cons.mpr ⟨⟨436, 53, pj_mk99⟩, fun _ h => absurd h List.not_mem_nil⟩⟩⟩⟩⟩⟩⟩⟩⟩⟩⟩⟩⟩⟩⟩⟩⟩⟩⟩⟩
def pj_g5 : List pj_M := [pj_m100, pj_m101, pj_m102, pj_m103, pj_m104, pj_m105, pj_m106, pj_m107, pj_m108, pj_m109, pj_m110, pj_m111, pj_m112, pj_m113, pj_m114, pj_m115, pj_m116, pj_m117, pj_m118, pj_m119]
theorem pj_gk5 : ∀ q ∈ pj_g5, pj_MO q := List.forall_mem_cons.mpr ⟨⟨506, 53, pj_mk100⟩, List.forall_mem_cons.mpr ⟨⟨673, 61, pj_mk101⟩, List.forall_mem_cons.mpr ⟨⟨734, 61, pj_mk102⟩, List.forall_mem_cons.mpr ⟨⟨775, 61, pj_mk103⟩, List.forall_mem_cons.mpr ⟨⟨820, 61, pj_mk104⟩, List.forall_mem_cons.mpr ⟨⟨731, 61, pj_mk105⟩, List.forall_mem_cons.mpr ⟨⟨741, 61, pj_mk106⟩, List.forall_mem_cons.mpr ⟨⟨728, 61, pj_mk107⟩, List.forall_mem_cons.mpr ⟨⟨738, 61, pj_mk108⟩, List.forall_mem_cons.mpr ⟨⟨746, 61, pj_mk109⟩, List.forall_mem_cons.mpr ⟨⟨750, 61, pj_mk110⟩, List.forall_mem_cons.mpr ⟨⟨754, 61, pj_mk111⟩, List.forall_mem_cons.mpr ⟨⟨765, 61, pj_mk112⟩, List.forall_mem_cons.mpr ⟨⟨762, 61, pj_mk113⟩, List.forall_mem_cons.mpr ⟨⟨758, 61, pj_mk114⟩, List.forall_mem_cons.mpr ⟨⟨781, 61, pj_mk115⟩, List.forall_mem_cons.mpr ⟨⟨772, 61, pj_mk116⟩, List.forall_mem_cons.mpr ⟨⟨778, 61, pj_mk117⟩, List.forall_mem_cons.mpr ⟨⟨769, 61, pj_mk118⟩, List.forall_mem_cons.mpr ⟨⟨793, 61, pj_mk119⟩, fun _ h => absurd h List.not_mem_nil⟩⟩⟩⟩⟩⟩⟩⟩⟩⟩⟩⟩⟩⟩⟩⟩⟩⟩⟩⟩
def pj_g6 : List pj_M := [pj_m120, pj_m121, pj_m122, pj_m123, pj_m124, pj_m125, pj_m126, pj_m127, pj_m128, pj_m129, pj_m130, pj_m131, pj_m132, pj_m133, pj_m134, pj_m135, pj_m136, pj_m137, pj_m138, pj_m139]
theorem pj_gk6 : ∀ q ∈ pj_g6, pj_MO q := List.forall_mem_cons.mpr ⟨⟨797, 61, pj_mk120⟩, List.forall_mem_cons.mpr ⟨⟨817, 61, pj_mk121⟩, List.forall_mem_cons.mpr ⟨⟨813, 61, pj_mk122⟩, List.forall_mem_cons.mpr ⟨⟨809, 61, pj_mk123⟩, List.forall_mem_cons.mpr ⟨⟨801, 61, pj_mk124⟩, List.forall_mem_cons.mpr ⟨⟨805, 61, pj_mk125⟩, List.forall_mem_cons.mpr ⟨⟨789, 61, pj_mk126⟩, List.forall_mem_cons.mpr ⟨⟨785, 61, pj_mk127⟩, List.forall_mem_cons.mpr ⟨⟨828, 61, pj_mk128⟩, List.forall_mem_cons.mpr ⟨⟨824, 61, pj_mk129⟩, List.forall_mem_cons.mpr ⟨⟨832, 61, pj_mk130⟩, List.forall_mem_cons.mpr ⟨⟨836, 61, pj_mk131⟩, List.forall_mem_cons.mpr ⟨⟨840, 61, pj_mk132⟩, List.forall_mem_cons.mpr ⟨⟨847, 61, pj_mk133⟩, List.forall_mem_cons.mpr ⟨⟨844, 61, pj_mk134⟩, List.forall_mem_cons.mpr ⟨⟨851, 61, pj_mk135⟩, List.forall_mem_cons.mpr ⟨⟨855, 61, pj_mk136⟩, List.forall_mem_cons.mpr ⟨⟨866, 61, pj_mk137⟩, List.forall_mem_cons.mpr ⟨⟨862, 61, pj_mk138⟩, List.forall_mem_cons.mpr ⟨⟨859, 61, pj_mk139⟩, fun _ h => absurd h List.not_mem_nil⟩⟩⟩⟩⟩⟩⟩⟩⟩⟩⟩⟩⟩⟩⟩⟩⟩⟩⟩⟩
def pj_g7 : List pj_M := [pj_m140, pj_m141, pj_m142, pj_m143, pj_m144, pj_m145, pj_m146, pj_m147, pj_m148, pj_m149, pj_m150, pj_m151, pj_m152, pj_m153, pj_m154, pj_m155, pj_m156, pj_m157]
theorem pj_gk7 : ∀ q ∈ pj_g7, pj_MO q := List.forall_mem_cons.mpr ⟨⟨872, 61, pj_mk140⟩, List.forall_mem_cons.mpr ⟨⟨875, 61, pj_mk141⟩, List.forall_mem_cons.mpr ⟨⟨879, 61, pj_mk142⟩, List.forall_mem_cons.mpr ⟨⟨883, 61, pj_mk143⟩, List.forall_mem_cons.mpr ⟨⟨895, 61, pj_mk144⟩, List.forall_mem_cons.mpr ⟨⟨891, 61, pj_mk145⟩, List.forall_mem_cons.mpr ⟨⟨887, 61, pj_mk146⟩, List.forall_mem_cons.mpr ⟨⟨899, 61, pj_mk147⟩, List.forall_mem_cons.mpr ⟨⟨904, 61, pj_mk148⟩, List.forall_mem_cons.mpr ⟨⟨909, 61, pj_mk149⟩, List.forall_mem_cons.mpr ⟨⟨915, 61, pj_mk150⟩, List.forall_mem_cons.mpr ⟨⟨920, 61, pj_mk151⟩, List.forall_mem_cons.mpr ⟨⟨924, 61, pj_mk152⟩, List.forall_mem_cons.mpr ⟨⟨928, 61, pj_mk153⟩, List.forall_mem_cons.mpr ⟨⟨423, 64, pj_mk154⟩, List.forall_mem_cons.mpr ⟨⟨400, 64, pj_mk155⟩, List.forall_mem_cons.mpr ⟨⟨534, 55, pj_mk156⟩, List.forall_mem_cons.mpr ⟨⟨86, 55, pj_mk157⟩, fun _ h => absurd h List.not_mem_nil⟩⟩⟩⟩⟩⟩⟩⟩⟩⟩⟩⟩⟩⟩⟩⟩⟩⟩
set_option maxRecDepth 100000 in
theorem pj_ms_app : pj_ms = pj_g0 ++ (pj_g1 ++ (pj_g2 ++ (pj_g3 ++ (pj_g4 ++ (pj_g5 ++ (pj_g6 ++ (pj_g7))))))) := rfl
theorem pj_mok : ∀ q ∈ pj_ms, pj_MO q := by
  rw [pj_ms_app]
  exact List.forall_mem_append.mpr ⟨pj_gk0, List.forall_mem_append.mpr ⟨pj_gk1, List.forall_mem_append.mpr ⟨pj_gk2, List.forall_mem_append.mpr ⟨pj_gk3, List.forall_mem_append.mpr ⟨pj_gk4, List.forall_mem_append.mpr ⟨pj_gk5, List.forall_mem_append.mpr ⟨pj_gk6, pj_gk7⟩⟩⟩⟩⟩⟩⟩
/-- the classes: their words are in the tables, their fields' types and names -/
def pj_COK (r : vw_C) (ty : Nat → FieldType) (a b : Nat) : Prop := (∀ w ∈ u_ws r.1 r.2.1 r.2.2, w ∈ pj_T) ∧ (∀ k, k < r.2.2 → parseFieldDescriptor (r.2.1 k).2.2.1 = some (ty k)) ∧ (∀ a, a < r.2.2 → ∀ b, b < r.2.2 → a ≠ b → (r.2.1 a).2.1 ≠ (r.2.1 b).2.1) ∧ pj_chk a (.instantiable r.1 r.2.2) = true ∧ pj_chk b (.initialized r.1) = true
theorem pj_wk0 : ∀ w ∈ u_ws RX0 TX0 5, w ∈ pj_T := by
  have h : (([153, 155, 157, 159, 161] : List Nat).zip (u_ws RX0 TX0 5)).all (fun q => pj_chk q.1 q.2) = true := by decide +kernel
  have e : (([153, 155, 157, 159, 161] : List Nat).zip (u_ws RX0 TX0 5)).map Prod.snd = u_ws RX0 TX0 5 := rfl
  intro w hw
  rw [← e] at hw
  obtain ⟨q, hq, rfl⟩ := List.mem_map.mp hw
  exact pj_chk_in (List.all_eq_true.mp h q hq)
theorem pj_ck0 : pj_COK (RX0, TX0, 5) (pj_ty 0) 138 57 := ⟨pj_wk0, tyX0_ok, nmX0, by decide +kernel, by decide +kernel⟩
theorem pj_wk1 : ∀ w ∈ u_ws RX1 TX1 1, w ∈ pj_T := by
  have h : (([225] : List Nat).zip (u_ws RX1 TX1 1)).all (fun q => pj_chk q.1 q.2) = true := by decide +kernel
  have e : (([225] : List Nat).zip (u_ws RX1 TX1 1)).map Prod.snd = u_ws RX1 TX1 1 := rfl
  intro w hw
  rw [← e] at hw
  obtain ⟨q, hq, rfl⟩ := List.mem_map.mp hw
  exact pj_chk_in (List.all_eq_true.mp h q hq)
theorem pj_ck1 : pj_COK (RX1, TX1, 1) (pj_ty 1) 219 60 := ⟨pj_wk1, tyX1_ok, nmX1, by decide +kernel, by decide +kernel⟩
theorem pj_wk2 : ∀ w ∈ u_ws RX2 TX2 3, w ∈ pj_T := by
  have h : (([211, 213, 215] : List Nat).zip (u_ws RX2 TX2 3)).all (fun q => pj_chk q.1 q.2) = true := by decide +kernel
  have e : (([211, 213, 215] : List Nat).zip (u_ws RX2 TX2 3)).map Prod.snd = u_ws RX2 TX2 3 := rfl
  intro w hw
  rw [← e] at hw
  obtain ⟨q, hq, rfl⟩ := List.mem_map.mp hw
  exact pj_chk_in (List.all_eq_true.mp h q hq)
theorem pj_ck2 : pj_COK (RX2, TX2, 3) (pj_ty 2) 202 59 := ⟨pj_wk2, tyX2_ok, nmX2, by decide +kernel, by decide +kernel⟩
theorem pj_wk3 : ∀ w ∈ u_ws RX3 TX3 9, w ∈ pj_T := by
  have h : (([181, 183, 185, 187, 189, 191, 193, 195, 197] : List Nat).zip (u_ws RX3 TX3 9)).all (fun q => pj_chk q.1 q.2) = true := by decide +kernel
  have e : (([181, 183, 185, 187, 189, 191, 193, 195, 197] : List Nat).zip (u_ws RX3 TX3 9)).map Prod.snd = u_ws RX3 TX3 9 := rfl
  intro w hw
  rw [← e] at hw
  obtain ⟨q, hq, rfl⟩ := List.mem_map.mp hw
  exact pj_chk_in (List.all_eq_true.mp h q hq)
theorem pj_ck3 : pj_COK (RX3, TX3, 9) (pj_ty 3) 165 58 := ⟨pj_wk3, tyX3_ok, nmX3, by decide +kernel, by decide +kernel⟩
theorem pj_wk4 : ∀ w ∈ u_ws RX4 TX4 2, w ∈ pj_T := by
  have h : (([132, 134] : List Nat).zip (u_ws RX4 TX4 2)).all (fun q => pj_chk q.1 q.2) = true := by decide +kernel
  have e : (([132, 134] : List Nat).zip (u_ws RX4 TX4 2)).map Prod.snd = u_ws RX4 TX4 2 := rfl
  intro w hw
  rw [← e] at hw
  obtain ⟨q, hq, rfl⟩ := List.mem_map.mp hw
  exact pj_chk_in (List.all_eq_true.mp h q hq)
theorem pj_ck4 : pj_COK (RX4, TX4, 2) (pj_ty 4) 125 56 := ⟨pj_wk4, tyX4_ok, nmX4, by decide +kernel, by decide +kernel⟩
theorem pj_wk5 : ∀ w ∈ u_ws RX5 TX5 10, w ∈ pj_T := by
  have h : (([102, 104, 106, 108, 110, 112, 114, 116, 118, 120] : List Nat).zip (u_ws RX5 TX5 10)).all (fun q => pj_chk q.1 q.2) = true := by decide +kernel
  have e : (([102, 104, 106, 108, 110, 112, 114, 116, 118, 120] : List Nat).zip (u_ws RX5 TX5 10)).map Prod.snd = u_ws RX5 TX5 10 := rfl
  intro w hw
  rw [← e] at hw
  obtain ⟨q, hq, rfl⟩ := List.mem_map.mp hw
  exact pj_chk_in (List.all_eq_true.mp h q hq)
theorem pj_ck5 : pj_COK (RX5, TX5, 10) (pj_ty 5) 78 54 := ⟨pj_wk5, tyX5_ok, nmX5, by decide +kernel, by decide +kernel⟩
theorem pj_wk6 : ∀ w ∈ u_ws RX10 TX10 11, w ∈ pj_T := by
  have h : (([239, 241, 243, 245, 247, 249, 251, 253, 255, 257, 259] : List Nat).zip (u_ws RX10 TX10 11)).all (fun q => pj_chk q.1 q.2) = true := by decide +kernel
  have e : (([239, 241, 243, 245, 247, 249, 251, 253, 255, 257, 259] : List Nat).zip (u_ws RX10 TX10 11)).map Prod.snd = u_ws RX10 TX10 11 := rfl
  intro w hw
  rw [← e] at hw
  obtain ⟨q, hq, rfl⟩ := List.mem_map.mp hw
  exact pj_chk_in (List.all_eq_true.mp h q hq)
theorem pj_ck6 : pj_COK (RX10, TX10, 11) (pj_ty 6) 70 53 := ⟨pj_wk6, tyX10_ok, nmX10, by decide +kernel, by decide +kernel⟩
theorem pj_wk7 : ∀ w ∈ u_ws RX11 TX11 16, w ∈ pj_T := by
  have h : (([691, 693, 695, 697, 699, 701, 703, 705, 707, 709, 711, 713, 715, 717, 719, 721] : List Nat).zip (u_ws RX11 TX11 16)).all (fun q => pj_chk q.1 q.2) = true := by decide +kernel
  have e : (([691, 693, 695, 697, 699, 701, 703, 705, 707, 709, 711, 713, 715, 717, 719, 721] : List Nat).zip (u_ws RX11 TX11 16)).map Prod.snd = u_ws RX11 TX11 16 := rfl
  intro w hw
  rw [← e] at hw
  obtain ⟨q, hq, rfl⟩ := List.mem_map.mp hw
  exact pj_chk_in (List.all_eq_true.mp h q hq)
theorem pj_ck7 : pj_COK (RX11, TX11, 16) (pj_ty 7) 670 61 := ⟨pj_wk7, tyX11_ok, nmX11, by decide +kernel, by decide +kernel⟩
theorem pj_cok : ∀ (ci : Nat) (r : vw_C), vwCl[ci]? = some r → ∃ a b, pj_COK r (pj_ty ci) a b := by
  intro ci r h
  match ci, h with
  | 0, h => cases h; exact ⟨_, _, pj_ck0⟩
  | 1, h => cases h; exact ⟨_, _, pj_ck1⟩
  | 2, h => cases h; exact ⟨_, _, pj_ck2⟩
  | 3, h => cases h; exact ⟨_, _, pj_ck3⟩
  | 4, h => cases h; exact ⟨_, _, pj_ck4⟩
  | 5, h => cases h; exact ⟨_, _, pj_ck5⟩
  | 6, h => cases h; exact ⟨_, _, pj_ck6⟩
  | 7, h => cases h; exact ⟨_, _, pj_ck7⟩
  | n + 8, h => simp at h
theorem pj_ar_int : Jvm.Cond.arrayClass .int ∈ pj_T := pj_chk_in (k := 123) (by decide +kernel)
theorem pj_ar_long : Jvm.Cond.arrayClass .long ∈ pj_T := pj_chk_in (k := 200) (by decide +kernel)
theorem pj_ar_boolean : Jvm.Cond.arrayClass .boolean ∈ pj_T := pj_chk_in (k := 724) (by decide +kernel)
theorem pj_oi1 : Jvm.Cond.instanceMethod objectInit ∈ pj_T := pj_chk_in (k := 75) (by decide +kernel)
theorem pj_oi2 : Jvm.Cond.code objectInit ⟨#[0xb1]⟩ 1 none ∈ pj_T := pj_chk_in (k := 76) (by decide +kernel)
theorem pj_ac1 : Jvm.Cond.native arraycopyName ∈ pj_T := pj_chk_in (k := 372) (by decide +kernel)
theorem pj_ac2 : Jvm.Cond.static arraycopyName ∈ pj_T := pj_chk_in (k := 371) (by decide +kernel)
theorem pj_ac3 : Jvm.Cond.initialized "java/lang/System" ∈ pj_T := pj_chk_in (k := 62) (by decide +kernel)
theorem pj_ma3 : Jvm.Cond.initialized "java/lang/Math" ∈ pj_T := pj_chk_in (k := 66) (by decide +kernel)
theorem pj_mmax1 : Jvm.Cond.static Lib.Math.max.name ∈ pj_T := pj_chk_in (k := 603) (by decide +kernel)
theorem pj_mmax2 : Jvm.Cond.code Lib.Math.max.name Lib.Math.max.code 2 (some .int) ∈ pj_T := pj_chk_in (k := 604) (by decide +kernel)
theorem pj_mmin1 : Jvm.Cond.static Lib.Math.min.name ∈ pj_T := pj_chk_in (k := 480) (by decide +kernel)
theorem pj_mmin2 : Jvm.Cond.code Lib.Math.min.name Lib.Math.min.code 2 (some .int) ∈ pj_T := pj_chk_in (k := 481) (by decide +kernel)
