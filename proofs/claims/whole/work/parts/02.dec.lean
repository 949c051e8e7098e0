/-- the rows of a method decode its bytes -/
def pj_DO (q : pj_M) : Prop := ∀ r ∈ q.2.2.2.2.2.2, decode q.2.1 r.1 = .ok r.2
theorem pj_d0 : pj_DO pj_m0 := by
  show ∀ r ∈ pj_r0, decode cX0_init r.1 = .ok r.2
  decide +kernel
theorem pj_d1 : pj_DO pj_m1 := by
  show ∀ r ∈ pj_r1, decode cX0_play r.1 = .ok r.2
  decide +kernel
theorem pj_d2 : pj_DO pj_m2 := by
  show ∀ r ∈ pj_r2, decode cX0_begin r.1 = .ok r.2
  decide +kernel
theorem pj_d3 : pj_DO pj_m3 := by
  show ∀ r ∈ pj_r3, decode cX1_init r.1 = .ok r.2
  decide +kernel
theorem pj_d4_0 : ∀ r ∈ ([(0, .aload_n 0, 1), (1, .getfield 9, 3), (4, .lconst 0, 1), (5, .invokestatic 15, 3), (8, .aload_n 0, 1), (9, .getfield 9, 3), (12, .iconst 0, 1), (13, .lconst 1, 1), (14, .lastore, 1), (15, .iconst 0, 1), (16, .istore_n 3, 1), (17, .iload_n 3, 1), (18, .iload_n 1, 1), (19, .if_icmp .ge 68, 3), (22, .bipush 16, 2), (24, .istore 4, 2), (26, .iload 4, 2), (28, .ifCond .le 46, 3), (31, .aload_n 0, 1), (32, .getfield 9, 3), (35, .iload 4, 2), (37, .aload_n 0, 1), (38, .getfield 9, 3), (41, .iload 4, 2), (43, .laload, 1), (44, .iload 4, 2), (46, .i2l, 1), (47, .lmul, 1), (48, .aload_n 0, 1), (49, .getfield 9, 3), (52, .iload 4, 2), (54, .iconst 1, 1), (55, .isub, 1), (56, .laload, 1), (57, .bipush 16, 2), (59, .iload 4, 2), (61, .isub, 1), (62, .iconst 1, 1), (63, .iadd, 1), (64, .i2l, 1), (65, .lmul, 1), (66, .ladd, 1), (67, .lastore, 1), (68, .iinc 4 (-1), 3), (71, .goto (-45), 3), (74, .aload_n 0, 1), (75, .getfield 9, 3), (78, .iconst 0, 1), (79, .lconst 0, 1), (80, .lastore, 1)] : List (Nat × Instr × Nat)), decode cX1_waysToHit r.1 = .ok r.2 := by decide +kernel
theorem pj_d4_1 : ∀ r ∈ ([(81, .iinc 3 1, 3), (84, .goto (-67), 3), (87, .iload_n 2, 1), (88, .ifCond .lt 18, 3), (91, .iload_n 2, 1), (92, .bipush 16, 2), (94, .if_icmp .gt 12, 3), (97, .aload_n 0, 1), (98, .getfield 9, 3), (101, .iload_n 2, 1), (102, .laload, 1), (103, .goto 4, 3), (106, .lconst 0, 1), (107, .lreturn, 1)] : List (Nat × Instr × Nat)), decode cX1_waysToHit r.1 = .ok r.2 := by decide +kernel
set_option maxRecDepth 100000 in
theorem pj_d4 : pj_DO pj_m4 := List.forall_mem_append.mpr ⟨pj_d4_0, pj_d4_1⟩
theorem pj_d5 : pj_DO pj_m5 := by
  show ∀ r ∈ pj_r5, decode cX1_hitsInAllWays r.1 = .ok r.2
  decide +kernel
theorem pj_d6 : pj_DO pj_m6 := by
  show ∀ r ∈ pj_r6, decode cX1_power r.1 = .ok r.2
  decide +kernel
theorem pj_d7 : pj_DO pj_m7 := by
  show ∀ r ∈ pj_r7, decode cX1_partOf r.1 = .ok r.2
  decide +kernel
theorem pj_d8 : pj_DO pj_m8 := by
  show ∀ r ∈ pj_r8, decode cX2_init r.1 = .ok r.2
  decide +kernel
theorem pj_d9 : pj_DO pj_m9 := by
  show ∀ r ∈ pj_r9, decode cX2_gather r.1 = .ok r.2
  decide +kernel
theorem pj_d10 : pj_DO pj_m10 := by
  show ∀ r ∈ pj_r10, decode cX2_add r.1 = .ok r.2
  decide +kernel
theorem pj_d11 : pj_DO pj_m11 := by
  show ∀ r ∈ pj_r11, decode cX2_nameOf r.1 = .ok r.2
  decide +kernel
theorem pj_d12 : pj_DO pj_m12 := by
  show ∀ r ∈ pj_r12, decode cX2_bestToAsk r.1 = .ok r.2
  decide +kernel
theorem pj_d13 : pj_DO pj_m13 := by
  show ∀ r ∈ pj_r13, decode cX2_leftAtMost r.1 = .ok r.2
  decide +kernel
theorem pj_d14 : pj_DO pj_m14 := by
  show ∀ r ∈ pj_r14, decode cX3_init r.1 = .ok r.2
  decide +kernel
theorem pj_d15_0 : ∀ r ∈ ([(0, .aload_n 0, 1), (1, .aload_n 1, 1), (2, .invokevirtual 28, 3), (5, .iconst 0, 1), (6, .istore_n 2, 1), (7, .iload_n 2, 1), (8, .aload_n 0, 1), (9, .getfield 32, 3), (12, .if_icmp .ge 108, 3), (15, .iload_n 2, 1), (16, .sipush 326, 3), (19, .if_icmp .ge 101, 3), (22, .iconst 0, 1), (23, .istore_n 3, 1), (24, .iload_n 3, 1), (25, .iconst 5, 1), (26, .if_icmp .ge 88, 3), (29, .aload_n 0, 1), (30, .getfield 18, 3), (33, .iload_n 2, 1), (34, .iaload, 1), (35, .iload_n 3, 1), (36, .ishr, 1), (37, .iconst 1, 1), (38, .iand, 1), (39, .ifCond .ne 69, 3), (42, .aload_n 0, 1), (43, .getfield 15, 3), (46, .iload_n 2, 1), (47, .laload, 1), (48, .ldc2_w 36, 3), (51, .aload_n 0, 1), (52, .getfield 11, 3), (55, .iload_n 3, 1), (56, .laload, 1), (57, .lmul, 1), (58, .ldc2_w 38, 3), (61, .lxor, 1), (62, .land, 1), (63, .lstore 4, 2), (65, .lload 4, 2), (67, .iload_n 3, 1), (68, .iconst 1, 1), (69, .iadd, 1), (70, .i2l, 1), (71, .aload_n 0, 1), (72, .getfield 11, 3), (75, .iload_n 3, 1), (76, .laload, 1), (77, .lmul, 1)] : List (Nat × Instr × Nat)), decode cX3_tryAll r.1 = .ok r.2 := by decide +kernel
theorem pj_d15_1 : ∀ r ∈ ([(78, .lor, 1), (79, .lstore 6, 2), (81, .aload_n 0, 1), (82, .lload 6, 2), (84, .aload_n 0, 1), (85, .getfield 18, 3), (88, .iload_n 2, 1), (89, .iaload, 1), (90, .iconst 1, 1), (91, .iload_n 3, 1), (92, .ishl, 1), (93, .ior, 1), (94, .bipush 10, 2), (96, .aload_n 0, 1), (97, .getfield 22, 3), (100, .iload_n 2, 1), (101, .iaload, 1), (102, .imul, 1), (103, .iload_n 3, 1), (104, .iadd, 1), (105, .invokevirtual 40, 3), (108, .iinc 3 1, 3), (111, .goto (-87), 3), (114, .iinc 2 1, 3), (117, .goto (-110), 3), (120, .return_, 1)] : List (Nat × Instr × Nat)), decode cX3_tryAll r.1 = .ok r.2 := by decide +kernel
set_option maxRecDepth 100000 in
theorem pj_d15 : pj_DO pj_m15 := List.forall_mem_append.mpr ⟨pj_d15_0, pj_d15_1⟩
theorem pj_d16 : pj_DO pj_m16 := by
  show ∀ r ∈ pj_r16, decode cX3_begin r.1 = .ok r.2
  decide +kernel
theorem pj_d17 : pj_DO pj_m17 := by
  show ∀ r ∈ pj_r17, decode cX3_spread r.1 = .ok r.2
  decide +kernel
theorem pj_d18 : pj_DO pj_m18 := by
  show ∀ r ∈ pj_r18, decode cX3_wallOf r.1 = .ok r.2
  decide +kernel
theorem pj_d19 : pj_DO pj_m19 := by
  show ∀ r ∈ pj_r19, decode cX3_add r.1 = .ok r.2
  decide +kernel
theorem pj_d20 : pj_DO pj_m20 := by
  show ∀ r ∈ pj_r20, decode cX3_isNew r.1 = .ok r.2
  decide +kernel
theorem pj_d21 : pj_DO pj_m21 := by
  show ∀ r ∈ pj_r21, decode cX3_cardsIn r.1 = .ok r.2
  decide +kernel
theorem pj_d22 : pj_DO pj_m22 := by
  show ∀ r ∈ pj_r22, decode cX4_init r.1 = .ok r.2
  decide +kernel
theorem pj_d23 : pj_DO pj_m23 := by
  show ∀ r ∈ pj_r23, decode cX4_length r.1 = .ok r.2
  decide +kernel
theorem pj_d24 : pj_DO pj_m24 := by
  show ∀ r ∈ pj_r24, decode cX4_clear r.1 = .ok r.2
  decide +kernel
theorem pj_d25 : pj_DO pj_m25 := by
  show ∀ r ∈ pj_r25, decode cX4_add r.1 = .ok r.2
  decide +kernel
theorem pj_d26 : pj_DO pj_m26 := by
  show ∀ r ∈ pj_r26, decode cX4_signAt r.1 = .ok r.2
  decide +kernel
theorem pj_d27 : pj_DO pj_m27 := by
  show ∀ r ∈ pj_r27, decode cX4_firstWrong r.1 = .ok r.2
  decide +kernel
theorem pj_d28 : pj_DO pj_m28 := by
  show ∀ r ∈ pj_r28, decode cX4_readingAfter r.1 = .ok r.2
  decide +kernel
theorem pj_d29 : pj_DO pj_m29 := by
  show ∀ r ∈ pj_r29, decode cX4_readingOfFirst r.1 = .ok r.2
  decide +kernel
theorem pj_d30 : pj_DO pj_m30 := by
  show ∀ r ∈ pj_r30, decode cX4_lengthOfAct r.1 = .ok r.2
  decide +kernel
theorem pj_d31 : pj_DO pj_m31 := by
  show ∀ r ∈ pj_r31, decode cX4_actAt r.1 = .ok r.2
  decide +kernel
theorem pj_d32 : pj_DO pj_m32 := by
  show ∀ r ∈ pj_r32, decode cX5_init r.1 = .ok r.2
  decide +kernel
theorem pj_d33 : pj_DO pj_m33 := by
  show ∀ r ∈ pj_r33, decode cX5_copyFrom r.1 = .ok r.2
  decide +kernel
theorem pj_d34 : pj_DO pj_m34 := by
  show ∀ r ∈ pj_r34, decode cX5_cellsOf r.1 = .ok r.2
  decide +kernel
theorem pj_d35 : pj_DO pj_m35 := by
  show ∀ r ∈ pj_r35, decode cX5_countOf r.1 = .ok r.2
  decide +kernel
theorem pj_d36 : pj_DO pj_m36 := by
  show ∀ r ∈ pj_r36, decode cX5_colourOf r.1 = .ok r.2
  decide +kernel
theorem pj_d37 : pj_DO pj_m37 := by
  show ∀ r ∈ pj_r37, decode cX5_holesOf r.1 = .ok r.2
  decide +kernel
theorem pj_d38 : pj_DO pj_m38 := by
  show ∀ r ∈ pj_r38, decode cX5_holesOfAll r.1 = .ok r.2
  decide +kernel
theorem pj_d39 : pj_DO pj_m39 := by
  show ∀ r ∈ pj_r39, decode cX5_dropsOf r.1 = .ok r.2
  decide +kernel
theorem pj_d40 : pj_DO pj_m40 := by
  show ∀ r ∈ pj_r40, decode cX5_paint r.1 = .ok r.2
  decide +kernel
theorem pj_d41 : pj_DO pj_m41 := by
  show ∀ r ∈ pj_r41, decode cX5_wetten r.1 = .ok r.2
  decide +kernel
theorem pj_d42 : pj_DO pj_m42 := by
  show ∀ r ∈ pj_r42, decode cX5_cut r.1 = .ok r.2
  decide +kernel
theorem pj_d43 : pj_DO pj_m43 := by
  show ∀ r ∈ pj_r43, decode cX5_fill r.1 = .ok r.2
  decide +kernel
theorem pj_d44 : pj_DO pj_m44 := by
  show ∀ r ∈ pj_r44, decode cX5_see r.1 = .ok r.2
  decide +kernel
theorem pj_d45 : pj_DO pj_m45 := by
  show ∀ r ∈ pj_r45, decode cX5_unsee r.1 = .ok r.2
  decide +kernel
theorem pj_d46 : pj_DO pj_m46 := by
  show ∀ r ∈ pj_r46, decode cX5_agreesWith r.1 = .ok r.2
  decide +kernel
theorem pj_d47_0 : ∀ r ∈ ([(0, .aload_n 0, 1), (1, .iload_n 1, 1), (2, .invokevirtual 65, 3), (5, .iload_n 2, 1), (6, .invokestatic 68, 3), (9, .istore 4, 2), (11, .iload 4, 2), (13, .invokestatic 60, 3), (16, .istore 5, 2), (18, .iload 5, 2), (20, .ifCond .ne 5, 3), (23, .iconst 1, 1), (24, .ireturn, 1), (25, .aload_n 0, 1), (26, .iload_n 3, 1), (27, .invokevirtual 74, 3), (30, .iload 5, 2), (32, .if_icmp .ge 5, 3), (35, .iconst 2, 1), (36, .ireturn, 1), (37, .iload 4, 2), (39, .aload_n 0, 1), (40, .getfield 34, 3), (43, .iand, 1), (44, .aload_n 0, 1), (45, .iload_n 3, 1), (46, .invokevirtual 56, 3), (49, .iconst (-1), 1), (50, .ixor, 1), (51, .iand, 1), (52, .istore 6, 2), (54, .aload_n 0, 1), (55, .iload 6, 2), (57, .aload_n 0, 1), (58, .bipush 6, 2), (60, .invokevirtual 56, 3), (63, .iconst (-1), 1), (64, .ixor, 1), (65, .iand, 1), (66, .putfield 53, 3), (69, .aload_n 0, 1), (70, .iload 4, 2), (72, .iload_n 3, 1), (73, .invokevirtual 77, 3), (76, .aload_n 0, 1), (77, .iload 6, 2), (79, .bipush 6, 2), (81, .invokevirtual 77, 3), (84, .aload_n 0, 1), (85, .iload 4, 2)] : List (Nat × Instr × Nat)), decode cX5_spray r.1 = .ok r.2 := by decide +kernel
theorem pj_d47_1 : ∀ r ∈ ([(87, .iconst 1, 1), (88, .invokevirtual 81, 3), (91, .aload_n 0, 1), (92, .iload_n 3, 1), (93, .aload_n 0, 1), (94, .iload_n 3, 1), (95, .invokevirtual 74, 3), (98, .iload 5, 2), (100, .isub, 1), (101, .invokevirtual 85, 3), (104, .aload_n 0, 1), (105, .dup, 1), (106, .getfield 50, 3), (109, .iload 5, 2), (111, .iadd, 1), (112, .putfield 50, 3), (115, .iconst 0, 1), (116, .ireturn, 1)] : List (Nat × Instr × Nat)), decode cX5_spray r.1 = .ok r.2 := by decide +kernel
set_option maxRecDepth 100000 in
theorem pj_d47 : pj_DO pj_m47 := List.forall_mem_append.mpr ⟨pj_d47_0, pj_d47_1⟩
theorem pj_d48 : pj_DO pj_m48 := by
  show ∀ r ∈ pj_r48, decode cX5_turnOver r.1 = .ok r.2
  decide +kernel
theorem pj_d49 : pj_DO pj_m49 := by
  show ∀ r ∈ pj_r49, decode cX5_scrape r.1 = .ok r.2
  decide +kernel
theorem pj_d50 : pj_DO pj_m50 := by
  show ∀ r ∈ pj_r50, decode cX5_waitAnHour r.1 = .ok r.2
  decide +kernel
theorem pj_d51 : pj_DO pj_m51 := by
  show ∀ r ∈ pj_r51, decode cX6_greatestPatch r.1 = .ok r.2
  decide +kernel
theorem pj_d52 : pj_DO pj_m52 := by
  show ∀ r ∈ pj_r52, decode cX6_patchFrom r.1 = .ok r.2
  decide +kernel
theorem pj_d53 : pj_DO pj_m53 := by
  show ∀ r ∈ pj_r53, decode cX6_beside r.1 = .ok r.2
  decide +kernel
theorem pj_d54 : pj_DO pj_m54 := by
  show ∀ r ∈ pj_r54, decode cX6_greatestBox r.1 = .ok r.2
  decide +kernel
theorem pj_d55 : pj_DO pj_m55 := by
  show ∀ r ∈ pj_r55, decode cX6_greatestBoxOf r.1 = .ok r.2
  decide +kernel
theorem pj_d56 : pj_DO pj_m56 := by
  show ∀ r ∈ pj_r56, decode cX6_isOfOneColour r.1 = .ok r.2
  decide +kernel
theorem pj_d57 : pj_DO pj_m57 := by
  show ∀ r ∈ pj_r57, decode cX6_greater r.1 = .ok r.2
  decide +kernel
theorem pj_d58 : pj_DO pj_m58 := by
  show ∀ r ∈ pj_r58, decode cX7_leastWinningMove r.1 = .ok r.2
  decide +kernel
theorem pj_d59 : pj_DO pj_m59 := by
  show ∀ r ∈ pj_r59, decode cX7_cansOn r.1 = .ok r.2
  decide +kernel
theorem pj_d60 : pj_DO pj_m60 := by
  show ∀ r ∈ pj_r60, decode cX7_oddBits r.1 = .ok r.2
  decide +kernel
theorem pj_d61 : pj_DO pj_m61 := by
  show ∀ r ∈ pj_r61, decode cX8_byQuarters r.1 = .ok r.2
  decide +kernel
theorem pj_d62 : pj_DO pj_m62 := by
  show ∀ r ∈ pj_r62, decode cX8_byOneQuarter r.1 = .ok r.2
  decide +kernel
theorem pj_d63 : pj_DO pj_m63 := by
  show ∀ r ∈ pj_r63, decode cX8_over r.1 = .ok r.2
  decide +kernel
theorem pj_d64 : pj_DO pj_m64 := by
  show ∀ r ∈ pj_r64, decode cX9_play r.1 = .ok r.2
  decide +kernel
theorem pj_d65 : pj_DO pj_m65 := by
  show ∀ r ∈ pj_r65, decode cX9_actOf r.1 = .ok r.2
  decide +kernel
theorem pj_d66 : pj_DO pj_m66 := by
  show ∀ r ∈ pj_r66, decode cX10_init r.1 = .ok r.2
  decide +kernel
theorem pj_d67 : pj_DO pj_m67 := by
  show ∀ r ∈ pj_r67, decode cX10_lay r.1 = .ok r.2
  decide +kernel
theorem pj_d68 : pj_DO pj_m68 := by
  show ∀ r ∈ pj_r68, decode cX10_card r.1 = .ok r.2
  decide +kernel
theorem pj_d69 : pj_DO pj_m69 := by
  show ∀ r ∈ pj_r69, decode cX10_can r.1 = .ok r.2
  decide +kernel
theorem pj_d70 : pj_DO pj_m70 := by
  show ∀ r ∈ pj_r70, decode cX10_say r.1 = .ok r.2
  decide +kernel
theorem pj_d71 : pj_DO pj_m71 := by
  show ∀ r ∈ pj_r71, decode cX10_wipe r.1 = .ok r.2
  decide +kernel
theorem pj_d72 : pj_DO pj_m72 := by
  show ∀ r ∈ pj_r72, decode cX10_fault r.1 = .ok r.2
  decide +kernel
theorem pj_d73 : pj_DO pj_m73 := by
  show ∀ r ∈ pj_r73, decode cX10_judge r.1 = .ok r.2
  decide +kernel
theorem pj_d74 : pj_DO pj_m74 := by
  show ∀ r ∈ pj_r74, decode cX10_done r.1 = .ok r.2
  decide +kernel
theorem pj_d75 : pj_DO pj_m75 := by
  show ∀ r ∈ pj_r75, decode cX10_behind r.1 = .ok r.2
  decide +kernel
theorem pj_d76 : pj_DO pj_m76 := by
  show ∀ r ∈ pj_r76, decode cX10_left r.1 = .ok r.2
  decide +kernel
theorem pj_d77 : pj_DO pj_m77 := by
  show ∀ r ∈ pj_r77, decode cX10_then r.1 = .ok r.2
  decide +kernel
theorem pj_d78 : pj_DO pj_m78 := by
  show ∀ r ∈ pj_r78, decode cX10_turned r.1 = .ok r.2
  decide +kernel
theorem pj_d79 : pj_DO pj_m79 := by
  show ∀ r ∈ pj_r79, decode cX10_patch r.1 = .ok r.2
  decide +kernel
theorem pj_d80 : pj_DO pj_m80 := by
  show ∀ r ∈ pj_r80, decode cX10_box r.1 = .ok r.2
  decide +kernel
theorem pj_d81 : pj_DO pj_m81 := by
  show ∀ r ∈ pj_r81, decode cX10_cover r.1 = .ok r.2
  decide +kernel
theorem pj_d82 : pj_DO pj_m82 := by
  show ∀ r ∈ pj_r82, decode cX10_pictures r.1 = .ok r.2
  decide +kernel
theorem pj_d83 : pj_DO pj_m83 := by
  show ∀ r ∈ pj_r83, decode cX10_made r.1 = .ok r.2
  decide +kernel
theorem pj_d84 : pj_DO pj_m84 := by
  show ∀ r ∈ pj_r84, decode cX10_seen r.1 = .ok r.2
  decide +kernel
theorem pj_d85 : pj_DO pj_m85 := by
  show ∀ r ∈ pj_r85, decode cX10_forget r.1 = .ok r.2
  decide +kernel
theorem pj_d86 : pj_DO pj_m86 := by
  show ∀ r ∈ pj_r86, decode cX10_prints r.1 = .ok r.2
  decide +kernel
theorem pj_d87 : pj_DO pj_m87 := by
  show ∀ r ∈ pj_r87, decode cX10_ask r.1 = .ok r.2
  decide +kernel
theorem pj_d88 : pj_DO pj_m88 := by
  show ∀ r ∈ pj_r88, decode cX10_steps r.1 = .ok r.2
  decide +kernel
theorem pj_d89 : pj_DO pj_m89 := by
  show ∀ r ∈ pj_r89, decode cX10_fall r.1 = .ok r.2
  decide +kernel
theorem pj_d90 : pj_DO pj_m90 := by
  show ∀ r ∈ pj_r90, decode cX10_year r.1 = .ok r.2
  decide +kernel
theorem pj_d91 : pj_DO pj_m91 := by
  show ∀ r ∈ pj_r91, decode cX10_image r.1 = .ok r.2
  decide +kernel
theorem pj_d92 : pj_DO pj_m92 := by
  show ∀ r ∈ pj_r92, decode cX10_restore r.1 = .ok r.2
  decide +kernel
theorem pj_d93 : pj_DO pj_m93 := by
  show ∀ r ∈ pj_r93, decode cX10_told r.1 = .ok r.2
  decide +kernel
theorem pj_d94 : pj_DO pj_m94 := by
  show ∀ r ∈ pj_r94, decode cX10_within r.1 = .ok r.2
  decide +kernel
theorem pj_d95 : pj_DO pj_m95 := by
  show ∀ r ∈ pj_r95, decode cX10_isCell r.1 = .ok r.2
  decide +kernel
theorem pj_d96 : pj_DO pj_m96 := by
  show ∀ r ∈ pj_r96, decode cX10_isCard r.1 = .ok r.2
  decide +kernel
theorem pj_d97 : pj_DO pj_m97 := by
  show ∀ r ∈ pj_r97, decode cX10_isCan r.1 = .ok r.2
  decide +kernel
theorem pj_d98 : pj_DO pj_m98 := by
  show ∀ r ∈ pj_r98, decode cX10_countOrSet r.1 = .ok r.2
  decide +kernel
theorem pj_d99 : pj_DO pj_m99 := by
  show ∀ r ∈ pj_r99, decode cX10_eveningCanBe r.1 = .ok r.2
  decide +kernel
theorem pj_d100 : pj_DO pj_m100 := by
  show ∀ r ∈ pj_r100, decode cX10_fewestCards r.1 = .ok r.2
  decide +kernel
theorem pj_d101 : pj_DO pj_m101 := by
  show ∀ r ∈ pj_r101, decode cX11_init r.1 = .ok r.2
  decide +kernel
theorem pj_d102 : pj_DO pj_m102 := by
  show ∀ r ∈ pj_r102, decode cX11_in r.1 = .ok r.2
  decide +kernel
theorem pj_d103 : pj_DO pj_m103 := by
  show ∀ r ∈ pj_r103, decode cX11_has r.1 = .ok r.2
  decide +kernel
theorem pj_d104 : pj_DO pj_m104 := by
  show ∀ r ∈ pj_r104, decode cX11_bits r.1 = .ok r.2
  decide +kernel
theorem pj_d105 : pj_DO pj_m105 := by
  show ∀ r ∈ pj_r105, decode cX11_isCell r.1 = .ok r.2
  decide +kernel
theorem pj_d106 : pj_DO pj_m106 := by
  show ∀ r ∈ pj_r106, decode cX11_isCard r.1 = .ok r.2
  decide +kernel
theorem pj_d107 : pj_DO pj_m107 := by
  show ∀ r ∈ pj_r107, decode cX11_lay r.1 = .ok r.2
  decide +kernel
theorem pj_d108 : pj_DO pj_m108 := by
  show ∀ r ∈ pj_r108, decode cX11_card r.1 = .ok r.2
  decide +kernel
theorem pj_d109 : pj_DO pj_m109 := by
  show ∀ r ∈ pj_r109, decode cX11_can r.1 = .ok r.2
  decide +kernel
theorem pj_d110 : pj_DO pj_m110 := by
  show ∀ r ∈ pj_r110, decode cX11_say r.1 = .ok r.2
  decide +kernel
theorem pj_d111 : pj_DO pj_m111 := by
  show ∀ r ∈ pj_r111, decode cX11_wipe r.1 = .ok r.2
  decide +kernel
theorem pj_d112 : pj_DO pj_m112 := by
  show ∀ r ∈ pj_r112, decode cX11_step r.1 = .ok r.2
  decide +kernel
theorem pj_d113 : pj_DO pj_m113 := by
  show ∀ r ∈ pj_r113, decode cX11_faultOf r.1 = .ok r.2
  decide +kernel
theorem pj_d114 : pj_DO pj_m114 := by
  show ∀ r ∈ pj_r114, decode cX11_fault r.1 = .ok r.2
  decide +kernel
theorem pj_d115 : pj_DO pj_m115 := by
  show ∀ r ∈ pj_r115, decode cX11_quarter r.1 = .ok r.2
  decide +kernel
theorem pj_d116 : pj_DO pj_m116 := by
  show ∀ r ∈ pj_r116, decode cX11_over r.1 = .ok r.2
  decide +kernel
theorem pj_d117 : pj_DO pj_m117 := by
  show ∀ r ∈ pj_r117, decode cX11_quarters r.1 = .ok r.2
  decide +kernel
theorem pj_d118 : pj_DO pj_m118 := by
  show ∀ r ∈ pj_r118, decode cX11_turned r.1 = .ok r.2
  decide +kernel
theorem pj_d119 : pj_DO pj_m119 := by
  show ∀ r ∈ pj_r119, decode cX11_asNow r.1 = .ok r.2
  decide +kernel
theorem pj_d120 : pj_DO pj_m120 := by
  show ∀ r ∈ pj_r120, decode cX11_ones r.1 = .ok r.2
  decide +kernel
theorem pj_d121_0 : ∀ r ∈ ([(0, .aload_n 0, 1), (1, .getfield 13, 3), (4, .bipush 16, 2), (6, .iload_n 1, 1), (7, .iadd, 1), (8, .iaload, 1), (9, .iload_n 2, 1), (10, .invokestatic 74, 3), (13, .istore 4, 2), (15, .iload 4, 2), (17, .ifCond .ne 5, 3), (20, .iconst 1, 1), (21, .ireturn, 1), (22, .aload_n 0, 1), (23, .getfield 13, 3), (26, .bipush 24, 2), (28, .iload_n 3, 1), (29, .iadd, 1), (30, .iaload, 1), (31, .iload 4, 2), (33, .invokestatic 86, 3), (36, .if_icmp .ge 5, 3), (39, .iconst 2, 1), (40, .ireturn, 1), (41, .iconst 0, 1), (42, .istore 5, 2), (44, .iload 5, 2), (46, .bipush 16, 2), (48, .if_icmp .ge 58, 3), (51, .iload 4, 2), (53, .iload 5, 2), (55, .invokestatic 63, 3), (58, .ifCond .eq 42, 3), (61, .aload_n 0, 1), (62, .getfield 13, 3), (65, .iload 5, 2), (67, .aload_n 0, 1), (68, .getfield 13, 3), (71, .bipush 30, 2), (73, .iaload, 1), (74, .iload 5, 2), (76, .invokestatic 63, 3), (79, .ifCond .eq 19, 3), (82, .aload_n 0, 1), (83, .getfield 13, 3), (86, .iload 5, 2), (88, .iaload, 1), (89, .iload_n 3, 1), (90, .if_icmp .eq 8, 3), (93, .bipush 6, 2)] : List (Nat × Instr × Nat)), decode cX11_spray r.1 = .ok r.2 := by decide +kernel
theorem pj_d121_1 : ∀ r ∈ ([(95, .goto 4, 3), (98, .iload_n 3, 1), (99, .iastore, 1), (100, .iinc 5 1, 3), (103, .goto (-59), 3), (106, .aload_n 0, 1), (107, .getfield 13, 3), (110, .bipush 30, 2), (112, .dup2, 1), (113, .iaload, 1), (114, .iload 4, 2), (116, .ior, 1), (117, .iastore, 1), (118, .aload_n 0, 1), (119, .getfield 13, 3), (122, .bipush 24, 2), (124, .iload_n 3, 1), (125, .iadd, 1), (126, .dup2, 1), (127, .iaload, 1), (128, .iload 4, 2), (130, .invokestatic 86, 3), (133, .isub, 1), (134, .iastore, 1), (135, .aload_n 0, 1), (136, .dup, 1), (137, .getfield 77, 3), (140, .iload 4, 2), (142, .invokestatic 86, 3), (145, .iadd, 1), (146, .putfield 77, 3), (149, .iconst 0, 1), (150, .ireturn, 1)] : List (Nat × Instr × Nat)), decode cX11_spray r.1 = .ok r.2 := by decide +kernel
set_option maxRecDepth 100000 in
theorem pj_d121 : pj_DO pj_m121 := List.forall_mem_append.mpr ⟨pj_d121_0, pj_d121_1⟩
theorem pj_d122 : pj_DO pj_m122 := by
  show ∀ r ∈ pj_r122, decode cX11_turnOver r.1 = .ok r.2
  decide +kernel
theorem pj_d123 : pj_DO pj_m123 := by
  show ∀ r ∈ pj_r123, decode cX11_scrape r.1 = .ok r.2
  decide +kernel
theorem pj_d124 : pj_DO pj_m124 := by
  show ∀ r ∈ pj_r124, decode cX11_endHour r.1 = .ok r.2
  decide +kernel
theorem pj_d125 : pj_DO pj_m125 := by
  show ∀ r ∈ pj_r125, decode cX11_oneAct r.1 = .ok r.2
  decide +kernel
theorem pj_d126_0 : ∀ r ∈ ([(0, .aload_n 0, 1), (1, .invokevirtual 99, 3), (4, .aload_n 0, 1), (5, .iconst 0, 1), (6, .putfield 102, 3), (9, .iconst 0, 1), (10, .istore_n 1, 1), (11, .iload_n 1, 1), (12, .aload_n 0, 1), (13, .getfield 51, 3), (16, .if_icmp .ge 173, 3), (19, .aload_n 0, 1), (20, .bipush 6, 2), (22, .invokevirtual 105, 3), (25, .istore_n 2, 1), (26, .aload_n 0, 1), (27, .getfield 19, 3), (30, .iload_n 1, 1), (31, .iaload, 1), (32, .bipush 46, 2), (34, .if_icmp .ne 7, 3), (37, .iconst 1, 1), (38, .goto 4, 3), (41, .iconst 0, 1), (42, .istore_n 3, 1), (43, .aload_n 0, 1), (44, .iload_n 3, 1), (45, .ifCond .eq 10, 3), (48, .aload_n 0, 1), (49, .invokevirtual 108, 3), (52, .goto 8, 3), (55, .aload_n 0, 1), (56, .iload_n 1, 1), (57, .invokevirtual 111, 3), (60, .putfield 114, 3), (63, .iload_n 1, 1), (64, .iload_n 3, 1), (65, .ifCond .eq 7, 3), (68, .iconst 1, 1), (69, .goto 34, 3), (72, .aload_n 0, 1), (73, .getfield 19, 3), (76, .iload_n 1, 1), (77, .iconst 1, 1), (78, .iadd, 1), (79, .iaload, 1), (80, .bipush 126, 2), (82, .if_icmp .eq 16, 3), (85, .aload_n 0, 1), (86, .getfield 19, 3)] : List (Nat × Instr × Nat)), decode cX11_goEvenings r.1 = .ok r.2 := by decide +kernel
theorem pj_d126_1 : ∀ r ∈ ([(89, .iload_n 1, 1), (90, .iconst 1, 1), (91, .iadd, 1), (92, .iaload, 1), (93, .bipush 45, 2), (95, .if_icmp .ne 7, 3), (98, .iconst 2, 1), (99, .goto 4, 3), (102, .iconst 3, 1), (103, .iadd, 1), (104, .istore_n 1, 1), (105, .aload_n 0, 1), (106, .getfield 114, 3), (109, .ifCond .le 8, 3), (112, .aload_n 0, 1), (113, .getfield 102, 3), (116, .ireturn, 1), (117, .aload_n 0, 1), (118, .bipush 6, 2), (120, .invokevirtual 105, 3), (123, .iload_n 2, 1), (124, .iconst (-1), 1), (125, .ixor, 1), (126, .iand, 1), (127, .istore 4, 2), (129, .iconst 0, 1), (130, .istore 5, 2), (132, .iload 5, 2), (134, .bipush 16, 2), (136, .if_icmp .ge 40, 3), (139, .aload_n 0, 1), (140, .getfield 80, 3), (143, .ifCond .ge 33, 3), (146, .iload 4, 2), (148, .iload 5, 2), (150, .invokestatic 63, 3), (153, .ifCond .eq 17, 3), (156, .aload_n 0, 1), (157, .aload_n 0, 1), (158, .getfield 102, 3), (161, .putfield 80, 3), (164, .aload_n 0, 1), (165, .iload 5, 2), (167, .putfield 83, 3), (170, .iinc 5 1, 3), (173, .goto (-41), 3), (176, .aload_n 0, 1), (177, .dup, 1), (178, .getfield 102, 3), (181, .iconst 1, 1)] : List (Nat × Instr × Nat)), decode cX11_goEvenings r.1 = .ok r.2 := by decide +kernel
theorem pj_d126_2 : ∀ r ∈ ([(182, .iadd, 1), (183, .putfield 102, 3), (186, .goto (-175), 3), (189, .bipush (-6), 2), (191, .ireturn, 1)] : List (Nat × Instr × Nat)), decode cX11_goEvenings r.1 = .ok r.2 := by decide +kernel
set_option maxRecDepth 100000 in
theorem pj_d126 : pj_DO pj_m126 := List.forall_mem_append.mpr ⟨pj_d126_0, List.forall_mem_append.mpr ⟨pj_d126_1, pj_d126_2⟩⟩
theorem pj_d127 : pj_DO pj_m127 := by
  show ∀ r ∈ pj_r127, decode cX11_judge r.1 = .ok r.2
  decide +kernel
theorem pj_d128 : pj_DO pj_m128 := by
  show ∀ r ∈ pj_r128, decode cX11_barOfEvenings r.1 = .ok r.2
  decide +kernel
theorem pj_d129 : pj_DO pj_m129 := by
  show ∀ r ∈ pj_r129, decode cX11_done r.1 = .ok r.2
  decide +kernel
theorem pj_d130 : pj_DO pj_m130 := by
  show ∀ r ∈ pj_r130, decode cX11_behind r.1 = .ok r.2
  decide +kernel
theorem pj_d131 : pj_DO pj_m131 := by
  show ∀ r ∈ pj_r131, decode cX11_left r.1 = .ok r.2
  decide +kernel
theorem pj_d132 : pj_DO pj_m132 := by
  show ∀ r ∈ pj_r132, decode cX11_then r.1 = .ok r.2
  decide +kernel
theorem pj_d133_0 : ∀ r ∈ ([(0, .iload_n 0, 1), (1, .istore_n 2, 1), (2, .iconst 0, 1), (3, .istore_n 3, 1), (4, .iload_n 2, 1), (5, .iload_n 3, 1), (6, .if_icmp .eq 128, 3), (9, .iload_n 2, 1), (10, .istore_n 3, 1), (11, .iconst 0, 1), (12, .istore 4, 2), (14, .iload 4, 2), (16, .bipush 16, 2), (18, .if_icmp .ge 113, 3), (21, .iload 4, 2), (23, .iconst 4, 1), (24, .irem, 1), (25, .ifCond .le 14, 3), (28, .iload_n 3, 1), (29, .iload 4, 2), (31, .iconst 1, 1), (32, .isub, 1), (33, .invokestatic 63, 3), (36, .ifCond .ne 57, 3), (39, .iload 4, 2), (41, .iconst 4, 1), (42, .irem, 1), (43, .iconst 3, 1), (44, .if_icmp .ge 14, 3), (47, .iload_n 3, 1), (48, .iload 4, 2), (50, .iconst 1, 1), (51, .iadd, 1), (52, .invokestatic 63, 3), (55, .ifCond .ne 38, 3), (58, .iload 4, 2), (60, .iconst 3, 1), (61, .if_icmp .le 14, 3), (64, .iload_n 3, 1), (65, .iload 4, 2), (67, .iconst 4, 1), (68, .isub, 1), (69, .invokestatic 63, 3), (72, .ifCond .ne 21, 3), (75, .iload 4, 2), (77, .bipush 12, 2), (79, .if_icmp .ge 18, 3), (82, .iload_n 3, 1), (83, .iload 4, 2), (85, .iconst 4, 1)] : List (Nat × Instr × Nat)), decode cX11_spread r.1 = .ok r.2 := by decide +kernel
theorem pj_d133_1 : ∀ r ∈ ([(86, .iadd, 1), (87, .invokestatic 63, 3), (90, .ifCond .eq 7, 3), (93, .iconst 1, 1), (94, .goto 4, 3), (97, .iconst 0, 1), (98, .istore 5, 2), (100, .iload_n 2, 1), (101, .iload 5, 2), (103, .ifCond .eq 19, 3), (106, .iload_n 1, 1), (107, .iload 4, 2), (109, .invokestatic 63, 3), (112, .ifCond .eq 10, 3), (115, .iconst 1, 1), (116, .iload 4, 2), (118, .ishl, 1), (119, .goto 4, 3), (122, .iconst 0, 1), (123, .ior, 1), (124, .istore_n 2, 1), (125, .iinc 4 1, 3), (128, .goto (-114), 3), (131, .goto (-127), 3), (134, .iload_n 2, 1), (135, .ireturn, 1)] : List (Nat × Instr × Nat)), decode cX11_spread r.1 = .ok r.2 := by decide +kernel
set_option maxRecDepth 100000 in
theorem pj_d133 : pj_DO pj_m133 := List.forall_mem_append.mpr ⟨pj_d133_0, pj_d133_1⟩
theorem pj_d134 : pj_DO pj_m134 := by
  show ∀ r ∈ pj_r134, decode cX11_patch r.1 = .ok r.2
  decide +kernel
theorem pj_d135_0 : ∀ r ∈ ([(0, .iload_n 1, 1), (1, .iconst 0, 1), (2, .iconst 1, 1), (3, .invokestatic 39, 3), (6, .ifCond .ne 6, 3), (9, .bipush (-2), 2), (11, .ireturn, 1), (12, .aload_n 0, 1), (13, .invokevirtual 99, 3), (16, .iconst 0, 1), (17, .istore_n 2, 1), (18, .iconst 0, 1), (19, .istore_n 3, 1), (20, .iload_n 3, 1), (21, .bipush 16, 2), (23, .if_icmp .ge 211, 3), (26, .iload_n 3, 1), (27, .istore 4, 2), (29, .iload 4, 2), (31, .bipush 16, 2), (33, .if_icmp .ge 195, 3), (36, .iconst 0, 1), (37, .istore 5, 2), (39, .aload_n 0, 1), (40, .getfield 13, 3), (43, .iload_n 3, 1), (44, .iaload, 1), (45, .ifCond .le 7, 3), (48, .iconst 1, 1), (49, .goto 4, 3), (52, .iconst 0, 1), (53, .istore 6, 2), (55, .iload_n 3, 1), (56, .istore 7, 2), (58, .iload 7, 2), (60, .iload 4, 2), (62, .if_icmp .gt 101, 3), (65, .iload 7, 2), (67, .iconst 4, 1), (68, .idiv, 1), (69, .iload_n 3, 1), (70, .iconst 4, 1), (71, .idiv, 1), (72, .iload 4, 2), (74, .iconst 4, 1), (75, .idiv, 1), (76, .invokestatic 39, 3), (79, .ifCond .eq 24, 3), (82, .iload 7, 2), (84, .iconst 4, 1)] : List (Nat × Instr × Nat)), decode cX11_box r.1 = .ok r.2 := by decide +kernel
theorem pj_d135_1 : ∀ r ∈ ([(85, .irem, 1), (86, .iload_n 3, 1), (87, .iconst 4, 1), (88, .irem, 1), (89, .iload 4, 2), (91, .iconst 4, 1), (92, .irem, 1), (93, .invokestatic 39, 3), (96, .ifCond .eq 7, 3), (99, .iconst 1, 1), (100, .goto 4, 3), (103, .iconst 0, 1), (104, .istore 8, 2), (106, .iload 5, 2), (108, .iload 8, 2), (110, .ifCond .eq 10, 3), (113, .iconst 1, 1), (114, .iload 7, 2), (116, .ishl, 1), (117, .goto 4, 3), (120, .iconst 0, 1), (121, .ior, 1), (122, .istore 5, 2), (124, .iload 6, 2), (126, .ifCond .eq 28, 3), (129, .iload 8, 2), (131, .ifCond .eq 19, 3), (134, .aload_n 0, 1), (135, .getfield 13, 3), (138, .iload 7, 2), (140, .iaload, 1), (141, .aload_n 0, 1), (142, .getfield 13, 3), (145, .iload_n 3, 1), (146, .iaload, 1), (147, .if_icmp .ne 7, 3), (150, .iconst 1, 1), (151, .goto 4, 3), (154, .iconst 0, 1), (155, .istore 6, 2), (157, .iinc 7 1, 3), (160, .goto (-102), 3), (163, .iload 5, 2), (165, .invokestatic 86, 3), (168, .iload_n 2, 1), (169, .invokestatic 86, 3), (172, .if_icmp .gt 21, 3), (175, .iload 5, 2), (177, .invokestatic 86, 3), (180, .iload_n 2, 1)] : List (Nat × Instr × Nat)), decode cX11_box r.1 = .ok r.2 := by decide +kernel
theorem pj_d135_2 : ∀ r ∈ ([(181, .invokestatic 86, 3), (184, .if_icmp .ne 13, 3), (187, .iload 5, 2), (189, .iload_n 2, 1), (190, .if_icmp .ge 7, 3), (193, .iconst 1, 1), (194, .goto 4, 3), (197, .iconst 0, 1), (198, .istore 7, 2), (200, .iload 6, 2), (202, .ifCond .eq 18, 3), (205, .iload 5, 2), (207, .ifCond .eq 13, 3), (210, .iload 7, 2), (212, .ifCond .eq 8, 3), (215, .iload 5, 2), (217, .goto 4, 3), (220, .iload_n 2, 1), (221, .istore_n 2, 1), (222, .iinc 4 1, 3), (225, .goto (-196), 3), (228, .iinc 3 1, 3), (231, .goto (-211), 3), (234, .iload_n 1, 1), (235, .ifCond .ne 10, 3), (238, .iload_n 2, 1), (239, .invokestatic 86, 3), (242, .goto 4, 3), (245, .iload_n 2, 1), (246, .ireturn, 1)] : List (Nat × Instr × Nat)), decode cX11_box r.1 = .ok r.2 := by decide +kernel
set_option maxRecDepth 100000 in
theorem pj_d135 : pj_DO pj_m135 := List.forall_mem_append.mpr ⟨pj_d135_0, List.forall_mem_append.mpr ⟨pj_d135_1, pj_d135_2⟩⟩
theorem pj_d136_0 : ∀ r ∈ ([(0, .iload_n 1, 1), (1, .iconst 1, 1), (2, .ldc 50, 2), (4, .invokestatic 39, 3), (7, .ifCond .eq 12, 3), (10, .iload_n 2, 1), (11, .iconst 0, 1), (12, .iconst 1, 1), (13, .invokestatic 39, 3), (16, .ifCond .ne 6, 3), (19, .bipush (-2), 2), (21, .ireturn, 1), (22, .bipush (-6), 2), (24, .istore_n 3, 1), (25, .iconst 1, 1), (26, .istore 4, 2), (28, .iload 4, 2), (30, .sipush 256, 3), (33, .if_icmp .ge 89, 3), (36, .iconst 0, 1), (37, .istore 5, 2), (39, .iconst 0, 1), (40, .istore 6, 2), (42, .iload 6, 2), (44, .bipush 8, 2), (46, .if_icmp .ge 38, 3), (49, .iload 5, 2), (51, .iload 4, 2), (53, .iload 6, 2), (55, .invokestatic 63, 3), (58, .ifCond .eq 16, 3), (61, .aload_n 0, 1), (62, .getfield 7, 3), (65, .bipush 16, 2), (67, .iload 6, 2), (69, .iadd, 1), (70, .iaload, 1), (71, .goto 4, 3), (74, .iconst 0, 1), (75, .ior, 1), (76, .istore 5, 2), (78, .iinc 6 1, 3), (81, .goto (-39), 3), (84, .iload_n 1, 1), (85, .iload 5, 2), (87, .iconst (-1), 1), (88, .ixor, 1), (89, .iand, 1), (90, .ifCond .ne 24, 3), (93, .iload_n 3, 1)] : List (Nat × Instr × Nat)), decode cX11_cover r.1 = .ok r.2 := by decide +kernel
theorem pj_d136_1 : ∀ r ∈ ([(94, .ifCond .lt 15, 3), (97, .iload 4, 2), (99, .invokestatic 86, 3), (102, .iload_n 3, 1), (103, .invokestatic 86, 3), (106, .if_icmp .ge 8, 3), (109, .iload 4, 2), (111, .goto 4, 3), (114, .iload_n 3, 1), (115, .istore_n 3, 1), (116, .iinc 4 1, 3), (119, .goto (-91), 3), (122, .iload_n 3, 1), (123, .ifCond .lt 8, 3), (126, .iload_n 2, 1), (127, .iconst 1, 1), (128, .if_icmp .ne 7, 3), (131, .iload_n 3, 1), (132, .goto 7, 3), (135, .iload_n 3, 1), (136, .invokestatic 86, 3), (139, .ireturn, 1)] : List (Nat × Instr × Nat)), decode cX11_cover r.1 = .ok r.2 := by decide +kernel
set_option maxRecDepth 100000 in
theorem pj_d136 : pj_DO pj_m136 := List.forall_mem_append.mpr ⟨pj_d136_0, pj_d136_1⟩
theorem pj_d137_0 : ∀ r ∈ ([(0, .lconst 0, 1), (1, .lstore_n 3, 1), (2, .iconst 0, 1), (3, .istore 5, 2), (5, .iconst 1, 1), (6, .istore 6, 2), (8, .iconst 1, 1), (9, .istore 7, 2), (11, .iload 7, 2), (13, .iload_n 2, 1), (14, .if_icmp .ge 15, 3), (17, .iload 6, 2), (19, .iconst 5, 1), (20, .imul, 1), (21, .istore 6, 2), (23, .iinc 7 1, 3), (26, .goto (-15), 3), (29, .iconst 0, 1), (30, .istore 7, 2), (32, .iload 7, 2), (34, .iload_n 2, 1), (35, .if_icmp .ge 118, 3), (38, .iload_n 1, 1), (39, .iload 6, 2), (41, .idiv, 1), (42, .iconst 5, 1), (43, .irem, 1), (44, .istore 8, 2), (46, .iload 6, 2), (48, .iconst 1, 1), (49, .if_icmp .le 10, 3), (52, .iload 6, 2), (54, .iconst 5, 1), (55, .idiv, 1), (56, .goto 4, 3), (59, .iconst 1, 1), (60, .istore 6, 2), (62, .iload 5, 2), (64, .iload 8, 2), (66, .invokestatic 63, 3), (69, .ifCond .eq 7, 3), (72, .ldc2_w 126, 3), (75, .lreturn, 1), (76, .iload 5, 2), (78, .iconst 1, 1), (79, .iload 8, 2), (81, .ishl, 1), (82, .ior, 1), (83, .istore 5, 2), (85, .iconst 0, 1)] : List (Nat × Instr × Nat)), decode cX11_wallOf r.1 = .ok r.2 := by decide +kernel
theorem pj_d137_1 : ∀ r ∈ ([(86, .istore 9, 2), (88, .iload 9, 2), (90, .bipush 16, 2), (92, .if_icmp .ge 55, 3), (95, .aload_n 0, 1), (96, .getfield 7, 3), (99, .bipush 16, 2), (101, .iload 8, 2), (103, .iadd, 1), (104, .iaload, 1), (105, .iload 9, 2), (107, .invokestatic 63, 3), (110, .ifCond .eq 31, 3), (113, .lload_n 3, 1), (114, .ldc2_w 128, 3), (117, .iconst 3, 1), (118, .iload 9, 2), (120, .imul, 1), (121, .lshl, 1), (122, .ldc2_w 126, 3), (125, .lxor, 1), (126, .land, 1), (127, .lstore_n 3, 1), (128, .lload_n 3, 1), (129, .iload 8, 2), (131, .iconst 1, 1), (132, .iadd, 1), (133, .i2l, 1), (134, .iconst 3, 1), (135, .iload 9, 2), (137, .imul, 1), (138, .lshl, 1), (139, .lor, 1), (140, .lstore_n 3, 1), (141, .iinc 9 1, 3), (144, .goto (-56), 3), (147, .iinc 7 1, 3), (150, .goto (-118), 3), (153, .lload_n 3, 1), (154, .lreturn, 1)] : List (Nat × Instr × Nat)), decode cX11_wallOf r.1 = .ok r.2 := by decide +kernel
set_option maxRecDepth 100000 in
theorem pj_d137 : pj_DO pj_m137 := List.forall_mem_append.mpr ⟨pj_d137_0, pj_d137_1⟩
theorem pj_d138 : pj_DO pj_m138 := by
  show ∀ r ∈ pj_r138, decode cX11_fives r.1 = .ok r.2
  decide +kernel
theorem pj_d139 : pj_DO pj_m139 := by
  show ∀ r ∈ pj_r139, decode cX11_pictures r.1 = .ok r.2
  decide +kernel
theorem pj_d140 : pj_DO pj_m140 := by
  show ∀ r ∈ pj_r140, decode cX11_made r.1 = .ok r.2
  decide +kernel
theorem pj_d141 : pj_DO pj_m141 := by
  show ∀ r ∈ pj_r141, decode cX11_orderOf r.1 = .ok r.2
  decide +kernel
theorem pj_d142 : pj_DO pj_m142 := by
  show ∀ r ∈ pj_r142, decode cX11_seen r.1 = .ok r.2
  decide +kernel
theorem pj_d143 : pj_DO pj_m143 := by
  show ∀ r ∈ pj_r143, decode cX11_forget r.1 = .ok r.2
  decide +kernel
theorem pj_d144 : pj_DO pj_m144 := by
  show ∀ r ∈ pj_r144, decode cX11_printOf r.1 = .ok r.2
  decide +kernel
theorem pj_d145 : pj_DO pj_m145 := by
  show ∀ r ∈ pj_r145, decode cX11_isFit r.1 = .ok r.2
  decide +kernel
theorem pj_d146 : pj_DO pj_m146 := by
  show ∀ r ∈ pj_r146, decode cX11_prints r.1 = .ok r.2
  decide +kernel
theorem pj_d147_0 : ∀ r ∈ ([(0, .iload_n 1, 1), (1, .iconst 0, 1), (2, .iconst 1, 1), (3, .invokestatic 39, 3), (6, .ifCond .ne 6, 3), (9, .bipush (-2), 2), (11, .ireturn, 1), (12, .bipush (-6), 2), (14, .istore_n 2, 1), (15, .ldc 149, 2), (17, .istore_n 3, 1), (18, .iconst 0, 1), (19, .istore 4, 2), (21, .iload 4, 2), (23, .bipush 16, 2), (25, .if_icmp .ge 131, 3), (28, .iconst 0, 1), (29, .istore 5, 2), (31, .iconst 0, 1), (32, .istore 6, 2), (34, .iconst 0, 1), (35, .istore 7, 2), (37, .iload 7, 2), (39, .bipush 80, 2), (41, .if_icmp .ge 45, 3), (44, .aload_n 0, 1), (45, .iload 7, 2), (47, .invokevirtual 146, 3), (50, .ifCond .eq 30, 3), (53, .iinc 5 1, 3), (56, .iload 6, 2), (58, .aload_n 0, 1), (59, .iload 7, 2), (61, .invokevirtual 143, 3), (64, .iload 4, 2), (66, .invokestatic 63, 3), (69, .ifCond .eq 7, 3), (72, .iconst 1, 1), (73, .goto 4, 3), (76, .iconst 0, 1), (77, .iadd, 1), (78, .istore 6, 2), (80, .iinc 7 1, 3), (83, .goto (-46), 3), (86, .iload 6, 2), (88, .iload 5, 2), (90, .iload 6, 2), (92, .isub, 1), (93, .if_icmp .le 8, 3), (96, .iload 6, 2)] : List (Nat × Instr × Nat)), decode cX11_ask r.1 = .ok r.2 := by decide +kernel
theorem pj_d147_1 : ∀ r ∈ ([(98, .goto 8, 3), (101, .iload 5, 2), (103, .iload 6, 2), (105, .isub, 1), (106, .istore 7, 2), (108, .iload 5, 2), (110, .ifCond .le 13, 3), (113, .iload 7, 2), (115, .iload_n 3, 1), (116, .if_icmp .ge 7, 3), (119, .iconst 1, 1), (120, .goto 4, 3), (123, .iconst 0, 1), (124, .istore 8, 2), (126, .iload 8, 2), (128, .ifCond .eq 8, 3), (131, .iload 4, 2), (133, .goto 4, 3), (136, .iload_n 2, 1), (137, .istore_n 2, 1), (138, .iload 8, 2), (140, .ifCond .eq 8, 3), (143, .iload 7, 2), (145, .goto 4, 3), (148, .iload_n 3, 1), (149, .istore_n 3, 1), (150, .iinc 4 1, 3), (153, .goto (-132), 3), (156, .iload_n 2, 1), (157, .ifCond .lt 7, 3), (160, .iload_n 1, 1), (161, .ifCond .ne 7, 3), (164, .iload_n 2, 1), (165, .goto 4, 3), (168, .iload_n 3, 1), (169, .ireturn, 1)] : List (Nat × Instr × Nat)), decode cX11_ask r.1 = .ok r.2 := by decide +kernel
set_option maxRecDepth 100000 in
theorem pj_d147 : pj_DO pj_m147 := List.forall_mem_append.mpr ⟨pj_d147_0, pj_d147_1⟩
theorem pj_d148_0 : ∀ r ∈ ([(0, .iload_n 1, 1), (1, .iconst 0, 1), (2, .ldc 150, 2), (4, .invokestatic 39, 3), (7, .ifCond .eq 12, 3), (10, .iload_n 2, 1), (11, .iconst 0, 1), (12, .iconst 1, 1), (13, .invokestatic 39, 3), (16, .ifCond .ne 6, 3), (19, .bipush (-2), 2), (21, .ireturn, 1), (22, .iload_n 1, 1), (23, .istore_n 3, 1), (24, .iconst 5, 1), (25, .istore 4, 2), (27, .iload 4, 2), (29, .ifCond .le 25, 3), (32, .aload_n 0, 1), (33, .getfield 26, 3), (36, .iload 4, 2), (38, .iload_n 3, 1), (39, .bipush 10, 2), (41, .irem, 1), (42, .iastore, 1), (43, .iload_n 3, 1), (44, .bipush 10, 2), (46, .idiv, 1), (47, .istore_n 3, 1), (48, .iinc 4 (-1), 3), (51, .goto (-24), 3), (54, .aload_n 0, 1), (55, .getfield 26, 3), (58, .iconst 1, 1), (59, .iaload, 1), (60, .aload_n 0, 1), (61, .getfield 26, 3), (64, .iconst 3, 1), (65, .iaload, 1), (66, .ixor, 1), (67, .aload_n 0, 1), (68, .getfield 26, 3), (71, .iconst 5, 1), (72, .iaload, 1), (73, .ixor, 1), (74, .istore 4, 2), (76, .iconst 1, 1), (77, .istore 5, 2), (79, .iload 5, 2), (81, .bipush 6, 2)] : List (Nat × Instr × Nat)), decode cX11_steps r.1 = .ok r.2 := by decide +kernel
theorem pj_d148_1 : ∀ r ∈ ([(83, .if_icmp .ge 112, 3), (86, .iload_n 2, 1), (87, .iconst 1, 1), (88, .if_icmp .ne 107, 3), (91, .iconst 1, 1), (92, .istore 6, 2), (94, .iload 6, 2), (96, .aload_n 0, 1), (97, .getfield 26, 3), (100, .iload 5, 2), (102, .iaload, 1), (103, .if_icmp .gt 86, 3), (106, .iload 5, 2), (108, .iconst 2, 1), (109, .irem, 1), (110, .iconst 1, 1), (111, .if_icmp .ne 8, 3), (114, .iload 5, 2), (116, .goto 7, 3), (119, .iload 5, 2), (121, .iconst 1, 1), (122, .isub, 1), (123, .istore 7, 2), (125, .iload 5, 2), (127, .iconst 2, 1), (128, .irem, 1), (129, .iconst 1, 1), (130, .if_icmp .ne 16, 3), (133, .aload_n 0, 1), (134, .getfield 26, 3), (137, .iload 7, 2), (139, .iaload, 1), (140, .iload 6, 2), (142, .isub, 1), (143, .goto 13, 3), (146, .aload_n 0, 1), (147, .getfield 26, 3), (150, .iload 7, 2), (152, .iaload, 1), (153, .iload 6, 2), (155, .iadd, 1), (156, .istore 8, 2), (158, .iload 4, 2), (160, .aload_n 0, 1), (161, .getfield 26, 3), (164, .iload 7, 2), (166, .iaload, 1), (167, .ixor, 1), (168, .iload 8, 2), (170, .ixor, 1)] : List (Nat × Instr × Nat)), decode cX11_steps r.1 = .ok r.2 := by decide +kernel
theorem pj_d148_2 : ∀ r ∈ ([(171, .ifCond .ne 12, 3), (174, .bipush 10, 2), (176, .iload 5, 2), (178, .imul, 1), (179, .iload 6, 2), (181, .iadd, 1), (182, .ireturn, 1), (183, .iinc 6 1, 3), (186, .goto (-92), 3), (189, .iinc 5 1, 3), (192, .goto (-113), 3), (195, .iload_n 2, 1), (196, .iconst 1, 1), (197, .if_icmp .ne 8, 3), (200, .bipush (-6), 2), (202, .goto 13, 3), (205, .iload 4, 2), (207, .ifCond .ne 7, 3), (210, .iconst 0, 1), (211, .goto 4, 3), (214, .iconst 1, 1), (215, .ireturn, 1)] : List (Nat × Instr × Nat)), decode cX11_steps r.1 = .ok r.2 := by decide +kernel
set_option maxRecDepth 100000 in
theorem pj_d148 : pj_DO pj_m148 := List.forall_mem_append.mpr ⟨pj_d148_0, List.forall_mem_append.mpr ⟨pj_d148_1, pj_d148_2⟩⟩
theorem pj_d149_0 : ∀ r ∈ ([(0, .iload_n 1, 1), (1, .iconst 0, 1), (2, .bipush 10, 2), (4, .invokestatic 39, 3), (7, .ifCond .eq 32, 3), (10, .iload_n 2, 1), (11, .iconst 0, 1), (12, .bipush 16, 2), (14, .invokestatic 39, 3), (17, .ifCond .eq 22, 3), (20, .iload_n 3, 1), (21, .iconst 0, 1), (22, .iconst 1, 1), (23, .invokestatic 39, 3), (26, .ifCond .eq 13, 3), (29, .iload 4, 2), (31, .iconst 0, 1), (32, .iconst 1, 1), (33, .invokestatic 39, 3), (36, .ifCond .ne 7, 3), (39, .ldc2_w 151, 3), (42, .lreturn, 1), (43, .lconst 1, 1), (44, .lstore 5, 2), (46, .iconst 0, 1), (47, .istore 7, 2), (49, .iload 7, 2), (51, .bipush 18, 2), (53, .if_icmp .ge 26, 3), (56, .aload_n 0, 1), (57, .getfield 29, 3), (60, .iload 7, 2), (62, .iload 7, 2), (64, .ifCond .ne 7, 3), (67, .lconst 1, 1), (68, .goto 4, 3), (71, .lconst 0, 1), (72, .lastore, 1), (73, .iinc 7 1, 3), (76, .goto (-27), 3), (79, .iconst 0, 1), (80, .istore 7, 2), (82, .iload 7, 2), (84, .iload_n 1, 1), (85, .if_icmp .ge 76, 3), (88, .lload 5, 2), (90, .ldc2_w 153, 3), (93, .lmul, 1), (94, .lstore 5, 2), (96, .bipush 16, 2)] : List (Nat × Instr × Nat)), decode cX11_fall r.1 = .ok r.2 := by decide +kernel
theorem pj_d149_1 : ∀ r ∈ ([(98, .istore 8, 2), (100, .iload 8, 2), (102, .ifCond .lt 53, 3), (105, .aload_n 0, 1), (106, .getfield 29, 3), (109, .iload 8, 2), (111, .aload_n 0, 1), (112, .getfield 29, 3), (115, .iload 8, 2), (117, .laload, 1), (118, .iload 8, 2), (120, .i2l, 1), (121, .lmul, 1), (122, .iload 8, 2), (124, .ifCond .le 22, 3), (127, .aload_n 0, 1), (128, .getfield 29, 3), (131, .iload 8, 2), (133, .iconst 1, 1), (134, .isub, 1), (135, .laload, 1), (136, .bipush 17, 2), (138, .iload 8, 2), (140, .isub, 1), (141, .i2l, 1), (142, .lmul, 1), (143, .goto 4, 3), (146, .lconst 0, 1), (147, .ladd, 1), (148, .lastore, 1), (149, .iinc 8 (-1), 3), (152, .goto (-52), 3), (155, .iinc 7 1, 3), (158, .goto (-76), 3), (161, .aload_n 0, 1), (162, .getfield 29, 3), (165, .iload_n 2, 1), (166, .laload, 1), (167, .lstore 7, 2), (169, .iload_n 3, 1), (170, .iconst 1, 1), (171, .if_icmp .ne 38, 3), (174, .lconst 0, 1), (175, .lstore 7, 2), (177, .iconst 0, 1), (178, .istore 9, 2), (180, .iload 9, 2), (182, .bipush 17, 2), (184, .if_icmp .ge 25, 3), (187, .lload 7, 2)] : List (Nat × Instr × Nat)), decode cX11_fall r.1 = .ok r.2 := by decide +kernel
theorem pj_d149_2 : ∀ r ∈ ([(189, .iload 9, 2), (191, .i2l, 1), (192, .aload_n 0, 1), (193, .getfield 29, 3), (196, .iload 9, 2), (198, .laload, 1), (199, .lmul, 1), (200, .ladd, 1), (201, .lstore 7, 2), (203, .iinc 9 1, 3), (206, .goto (-26), 3), (209, .lload 7, 2), (211, .lstore 9, 2), (213, .lload 5, 2), (215, .lstore 11, 2), (217, .lload 11, 2), (219, .lconst 0, 1), (220, .lcmp, 1), (221, .ifCond .eq 21, 3), (224, .lload 9, 2), (226, .lload 11, 2), (228, .lrem, 1), (229, .lstore 13, 2), (231, .lload 11, 2), (233, .lstore 9, 2), (235, .lload 13, 2), (237, .lstore 11, 2), (239, .goto (-22), 3), (242, .iload 4, 2), (244, .ifCond .ne 11, 3), (247, .lload 7, 2), (249, .lload 9, 2), (251, .ldiv, 1), (252, .goto 8, 3), (255, .lload 5, 2), (257, .lload 9, 2), (259, .ldiv, 1), (260, .lreturn, 1)] : List (Nat × Instr × Nat)), decode cX11_fall r.1 = .ok r.2 := by decide +kernel
set_option maxRecDepth 100000 in
theorem pj_d149 : pj_DO pj_m149 := List.forall_mem_append.mpr ⟨pj_d149_0, List.forall_mem_append.mpr ⟨pj_d149_1, pj_d149_2⟩⟩
theorem pj_d150_0 : ∀ r ∈ ([(0, .iload_n 1, 1), (1, .iconst 0, 1), (2, .sipush 9999, 3), (5, .invokestatic 39, 3), (8, .ifCond .eq 22, 3), (11, .iload_n 2, 1), (12, .iconst 1, 1), (13, .bipush 99, 2), (15, .invokestatic 39, 3), (18, .ifCond .eq 12, 3), (21, .iload_n 3, 1), (22, .iconst 0, 1), (23, .iconst 2, 1), (24, .invokestatic 39, 3), (27, .ifCond .ne 6, 3), (30, .bipush (-2), 2), (32, .ireturn, 1), (33, .aload_n 0, 1), (34, .invokevirtual 99, 3), (37, .iload_n 1, 1), (38, .istore 4, 2), (40, .iconst 0, 1), (41, .istore 5, 2), (43, .iload 5, 2), (45, .iload_n 2, 1), (46, .if_icmp .ge 123, 3), (49, .bipush 75, 2), (51, .iload 4, 2), (53, .imul, 1), (54, .bipush 74, 2), (56, .iadd, 1), (57, .ldc 155, 2), (59, .irem, 1), (60, .istore 4, 2), (62, .iload 4, 2), (64, .bipush 8, 2), (66, .irem, 1), (67, .istore 6, 2), (69, .iload 4, 2), (71, .bipush 8, 2), (73, .idiv, 1), (74, .istore 7, 2), (76, .iload 6, 2), (78, .iconst 5, 1), (79, .if_icmp .ge 35, 3), (82, .aload_n 0, 1), (83, .aload_n 0, 1), (84, .iload 7, 2), (86, .bipush 8, 2), (88, .irem, 1)] : List (Nat × Instr × Nat)), decode cX11_year r.1 = .ok r.2 := by decide +kernel
theorem pj_d150_1 : ∀ r ∈ ([(89, .iload 7, 2), (91, .bipush 8, 2), (93, .idiv, 1), (94, .iconst 4, 1), (95, .irem, 1), (96, .iconst 1, 1), (97, .iload 7, 2), (99, .bipush 32, 2), (101, .idiv, 1), (102, .iconst 5, 1), (103, .irem, 1), (104, .iadd, 1), (105, .invokevirtual 95, 3), (108, .putfield 114, 3), (111, .goto 52, 3), (114, .iload 6, 2), (116, .iconst 5, 1), (117, .if_icmp .ne 19, 3), (120, .aload_n 0, 1), (121, .aload_n 0, 1), (122, .iload 7, 2), (124, .bipush 8, 2), (126, .irem, 1), (127, .invokevirtual 92, 3), (130, .putfield 114, 3), (133, .goto 30, 3), (136, .aload_n 0, 1), (137, .iload 6, 2), (139, .bipush 6, 2), (141, .if_icmp .ne 15, 3), (144, .aload_n 0, 1), (145, .iload 7, 2), (147, .bipush 16, 2), (149, .irem, 1), (150, .invokevirtual 89, 3), (153, .goto 7, 3), (156, .aload_n 0, 1), (157, .invokevirtual 108, 3), (160, .putfield 114, 3), (163, .iinc 5 1, 3), (166, .goto (-123), 3), (169, .iload_n 3, 1), (170, .ifCond .ne 15, 3), (173, .aload_n 0, 1), (174, .bipush 6, 2), (176, .invokevirtual 105, 3), (179, .invokestatic 86, 3), (182, .goto 23, 3), (185, .iload_n 3, 1), (186, .iconst 1, 1)] : List (Nat × Instr × Nat)), decode cX11_year r.1 = .ok r.2 := by decide +kernel
theorem pj_d150_2 : ∀ r ∈ ([(187, .if_icmp .ne 14, 3), (190, .aload_n 0, 1), (191, .iconst 0, 1), (192, .invokevirtual 105, 3), (195, .invokestatic 86, 3), (198, .goto 7, 3), (201, .aload_n 0, 1), (202, .getfield 77, 3), (205, .ireturn, 1)] : List (Nat × Instr × Nat)), decode cX11_year r.1 = .ok r.2 := by decide +kernel
set_option maxRecDepth 100000 in
theorem pj_d150 : pj_DO pj_m150 := List.forall_mem_append.mpr ⟨pj_d150_0, List.forall_mem_append.mpr ⟨pj_d150_1, pj_d150_2⟩⟩
theorem pj_d151_0 : ∀ r ∈ ([(0, .iload_n 1, 1), (1, .iconst 0, 1), (2, .iconst 1, 1), (3, .invokestatic 39, 3), (6, .ifCond .ne 6, 3), (9, .bipush (-2), 2), (11, .ireturn, 1), (12, .bipush 50, 2), (14, .iload_n 1, 1), (15, .imul, 1), (16, .istore_n 2, 1), (17, .iconst 0, 1), (18, .istore_n 3, 1), (19, .iload_n 3, 1), (20, .bipush 32, 2), (22, .if_icmp .ge 23, 3), (25, .aload_n 0, 1), (26, .getfield 32, 3), (29, .iload_n 2, 1), (30, .iload_n 3, 1), (31, .iadd, 1), (32, .aload_n 0, 1), (33, .getfield 7, 3), (36, .iload_n 3, 1), (37, .iaload, 1), (38, .iastore, 1), (39, .iinc 3 1, 3), (42, .goto (-23), 3), (45, .iconst 0, 1), (46, .istore_n 3, 1), (47, .iload_n 3, 1), (48, .bipush 16, 2), (50, .if_icmp .ge 26, 3), (53, .aload_n 0, 1), (54, .getfield 32, 3), (57, .iload_n 2, 1), (58, .bipush 32, 2), (60, .iadd, 1), (61, .iload_n 3, 1), (62, .iadd, 1), (63, .aload_n 0, 1), (64, .getfield 16, 3), (67, .iload_n 3, 1), (68, .iaload, 1), (69, .iastore, 1), (70, .iinc 3 1, 3), (73, .goto (-26), 3), (76, .aload_n 0, 1), (77, .getfield 32, 3), (80, .iload_n 2, 1)] : List (Nat × Instr × Nat)), decode cX11_image r.1 = .ok r.2 := by decide +kernel
theorem pj_d151_1 : ∀ r ∈ ([(81, .bipush 49, 2), (83, .iadd, 1), (84, .aload_n 0, 1), (85, .getfield 140, 3), (88, .iastore, 1), (89, .aload_n 0, 1), (90, .getfield 35, 3), (93, .iload_n 1, 1), (94, .iconst 1, 1), (95, .bastore, 1), (96, .iconst 1, 1), (97, .ireturn, 1)] : List (Nat × Instr × Nat)), decode cX11_image r.1 = .ok r.2 := by decide +kernel
set_option maxRecDepth 100000 in
theorem pj_d151 : pj_DO pj_m151 := List.forall_mem_append.mpr ⟨pj_d151_0, pj_d151_1⟩
theorem pj_d152_0 : ∀ r ∈ ([(0, .iload_n 1, 1), (1, .iconst 0, 1), (2, .iconst 1, 1), (3, .invokestatic 39, 3), (6, .ifCond .ne 6, 3), (9, .bipush (-2), 2), (11, .ireturn, 1), (12, .aload_n 0, 1), (13, .getfield 35, 3), (16, .iload_n 1, 1), (17, .baload, 1), (18, .ifCond .ne 6, 3), (21, .bipush (-3), 2), (23, .ireturn, 1), (24, .bipush 50, 2), (26, .iload_n 1, 1), (27, .imul, 1), (28, .istore_n 2, 1), (29, .iconst 0, 1), (30, .istore_n 3, 1), (31, .iload_n 3, 1), (32, .bipush 32, 2), (34, .if_icmp .ge 23, 3), (37, .aload_n 0, 1), (38, .getfield 7, 3), (41, .iload_n 3, 1), (42, .aload_n 0, 1), (43, .getfield 32, 3), (46, .iload_n 2, 1), (47, .iload_n 3, 1), (48, .iadd, 1), (49, .iaload, 1), (50, .iastore, 1), (51, .iinc 3 1, 3), (54, .goto (-23), 3), (57, .iconst 0, 1), (58, .istore_n 3, 1), (59, .iload_n 3, 1), (60, .bipush 16, 2), (62, .if_icmp .ge 26, 3), (65, .aload_n 0, 1), (66, .getfield 16, 3), (69, .iload_n 3, 1), (70, .aload_n 0, 1), (71, .getfield 32, 3), (74, .iload_n 2, 1), (75, .bipush 32, 2), (77, .iadd, 1), (78, .iload_n 3, 1), (79, .iadd, 1)] : List (Nat × Instr × Nat)), decode cX11_restore r.1 = .ok r.2 := by decide +kernel
theorem pj_d152_1 : ∀ r ∈ ([(80, .iaload, 1), (81, .iastore, 1), (82, .iinc 3 1, 3), (85, .goto (-26), 3), (88, .aload_n 0, 1), (89, .aload_n 0, 1), (90, .getfield 32, 3), (93, .iload_n 2, 1), (94, .bipush 49, 2), (96, .iadd, 1), (97, .iaload, 1), (98, .putfield 140, 3), (101, .iconst 1, 1), (102, .ireturn, 1)] : List (Nat × Instr × Nat)), decode cX11_restore r.1 = .ok r.2 := by decide +kernel
set_option maxRecDepth 100000 in
theorem pj_d152 : pj_DO pj_m152 := List.forall_mem_append.mpr ⟨pj_d152_0, pj_d152_1⟩
theorem pj_d153_0 : ∀ r ∈ ([(0, .iload_n 1, 1), (1, .bipush 40, 2), (3, .if_icmp .lt 29, 3), (6, .iload_n 1, 1), (7, .bipush 41, 2), (9, .bipush 45, 2), (11, .invokestatic 39, 3), (14, .ifCond .eq 15, 3), (17, .aload_n 0, 1), (18, .getfield 7, 3), (21, .iload_n 1, 1), (22, .bipush 16, 2), (24, .isub, 1), (25, .iaload, 1), (26, .goto 5, 3), (29, .bipush (-2), 2), (31, .ireturn, 1), (32, .iload_n 1, 1), (33, .bipush 30, 2), (35, .if_icmp .lt 24, 3), (38, .iload_n 1, 1), (39, .bipush 38, 2), (41, .if_icmp .ge 15, 3), (44, .aload_n 0, 1), (45, .getfield 7, 3), (48, .iload_n 1, 1), (49, .bipush 14, 2), (51, .isub, 1), (52, .iaload, 1), (53, .goto 5, 3), (56, .bipush (-2), 2), (58, .ireturn, 1), (59, .iload_n 1, 1), (60, .bipush 10, 2), (62, .if_icmp .lt 24, 3), (65, .iload_n 1, 1), (66, .bipush 26, 2), (68, .if_icmp .ge 15, 3), (71, .aload_n 0, 1), (72, .getfield 7, 3), (75, .iload_n 1, 1), (76, .bipush 10, 2), (78, .isub, 1), (79, .iaload, 1), (80, .goto 5, 3), (83, .bipush (-2), 2), (85, .ireturn, 1), (86, .iload_n 1, 1), (87, .tableswitch 40 0 2 #[25, 30, 30], 25), (112, .aload_n 0, 1)] : List (Nat × Instr × Nat)), decode cX11_told r.1 = .ok r.2 := by decide +kernel
theorem pj_d153_1 : ∀ r ∈ ([(113, .getfield 51, 3), (116, .ireturn, 1), (117, .aload_n 0, 1), (118, .getfield 7, 3), (121, .bipush 29, 2), (123, .iload_n 1, 1), (124, .iadd, 1), (125, .iaload, 1), (126, .ireturn, 1), (127, .iload_n 1, 1), (128, .iconst 3, 1), (129, .if_icmp .ne 10, 3), (132, .aload_n 0, 1), (133, .getfield 140, 3), (136, .goto 5, 3), (139, .bipush (-2), 2), (141, .ireturn, 1)] : List (Nat × Instr × Nat)), decode cX11_told r.1 = .ok r.2 := by decide +kernel
set_option maxRecDepth 100000 in
theorem pj_d153 : pj_DO pj_m153 := List.forall_mem_append.mpr ⟨pj_d153_0, pj_d153_1⟩
theorem pj_d154 : pj_DO pj_m154 := by
  show ∀ r ∈ pj_r154, decode cJ6_numberOfTrailingZeros_0f7a4 r.1 = .ok r.2
  decide +kernel
theorem pj_d155 : pj_DO pj_m155 := by
  show ∀ r ∈ pj_r155, decode cJ6_bitCount_0f7a4 r.1 = .ok r.2
  decide +kernel
theorem pj_d156 : pj_DO pj_m156 := by
  show ∀ r ∈ pj_r156, decode cJ7_fill_d0a16 r.1 = .ok r.2
  decide +kernel
theorem pj_d157 : pj_DO pj_m157 := by
  show ∀ r ∈ pj_r157, decode cJ7_fill_53178 r.1 = .ok r.2
  decide +kernel
theorem pj_d158_0 : ∀ r ∈ ([(0, .new 7, 3), (3, .dup, 1), (4, .invokespecial 9, 3), (7, .astore_n 1, 1), (8, .new 10, 3), (11, .dup, 1), (12, .invokespecial 12, 3), (15, .astore_n 2, 1), (16, .iconst 0, 1), (17, .istore_n 3, 1), (18, .iload_n 3, 1), (19, .aload_n 0, 1), (20, .arraylength, 1), (21, .iconst 5, 1), (22, .isub, 1), (23, .if_icmp .gt 867, 3), (26, .aload_n 0, 1), (27, .iload_n 3, 1), (28, .iaload, 1), (29, .bipush 31, 2), (31, .iand, 1), (32, .tableswitch 852 0 26 #[124, 167, 200, 233, 256, 269, 282, 305, 318, 351, 374, 397, 430, 453, 476, 509, 522, 545, 594, 607, 630, 653, 686, 740, 783, 806, 829], 124), (156, .aload_n 1, 1), (157, .aload_n 0, 1), (158, .iload_n 3, 1), (159, .iconst 1, 1), (160, .iadd, 1), (161, .iaload, 1), (162, .aload_n 0, 1), (163, .iload_n 3, 1), (164, .iconst 2, 1), (165, .iadd, 1), (166, .iaload, 1), (167, .aload_n 0, 1), (168, .iload_n 3, 1), (169, .iconst 3, 1), (170, .iadd, 1), (171, .iaload, 1), (172, .invokevirtual 13, 3), (175, .aload_n 2, 1), (176, .aload_n 0, 1), (177, .iload_n 3, 1), (178, .iconst 1, 1), (179, .iadd, 1), (180, .iaload, 1), (181, .aload_n 0, 1), (182, .iload_n 3, 1), (183, .iconst 2, 1), (184, .iadd, 1), (185, .iaload, 1)] : List (Nat × Instr × Nat)), decode cL_law r.1 = .ok r.2 := by decide +kernel
theorem pj_d158_1 : ∀ r ∈ ([(186, .aload_n 0, 1), (187, .iload_n 3, 1), (188, .iconst 3, 1), (189, .iadd, 1), (190, .iaload, 1), (191, .invokevirtual 17, 3), (194, .if_icmp .eq 690, 3), (197, .iconst 0, 1), (198, .ireturn, 1), (199, .aload_n 1, 1), (200, .aload_n 0, 1), (201, .iload_n 3, 1), (202, .iconst 1, 1), (203, .iadd, 1), (204, .iaload, 1), (205, .aload_n 0, 1), (206, .iload_n 3, 1), (207, .iconst 2, 1), (208, .iadd, 1), (209, .iaload, 1), (210, .invokevirtual 18, 3), (213, .aload_n 2, 1), (214, .aload_n 0, 1), (215, .iload_n 3, 1), (216, .iconst 1, 1), (217, .iadd, 1), (218, .iaload, 1), (219, .aload_n 0, 1), (220, .iload_n 3, 1), (221, .iconst 2, 1), (222, .iadd, 1), (223, .iaload, 1), (224, .invokevirtual 22, 3), (227, .if_icmp .eq 657, 3), (230, .iconst 0, 1), (231, .ireturn, 1), (232, .aload_n 1, 1), (233, .aload_n 0, 1), (234, .iload_n 3, 1), (235, .iconst 1, 1), (236, .iadd, 1), (237, .iaload, 1), (238, .aload_n 0, 1), (239, .iload_n 3, 1), (240, .iconst 2, 1), (241, .iadd, 1), (242, .iaload, 1), (243, .invokevirtual 23, 3), (246, .aload_n 2, 1), (247, .aload_n 0, 1)] : List (Nat × Instr × Nat)), decode cL_law r.1 = .ok r.2 := by decide +kernel
theorem pj_d158_2 : ∀ r ∈ ([(248, .iload_n 3, 1), (249, .iconst 1, 1), (250, .iadd, 1), (251, .iaload, 1), (252, .aload_n 0, 1), (253, .iload_n 3, 1), (254, .iconst 2, 1), (255, .iadd, 1), (256, .iaload, 1), (257, .invokevirtual 26, 3), (260, .if_icmp .eq 624, 3), (263, .iconst 0, 1), (264, .ireturn, 1), (265, .aload_n 1, 1), (266, .aload_n 0, 1), (267, .iload_n 3, 1), (268, .iconst 1, 1), (269, .iadd, 1), (270, .iaload, 1), (271, .invokevirtual 27, 3), (274, .aload_n 2, 1), (275, .aload_n 0, 1), (276, .iload_n 3, 1), (277, .iconst 1, 1), (278, .iadd, 1), (279, .iaload, 1), (280, .invokevirtual 31, 3), (283, .if_icmp .eq 601, 3), (286, .iconst 0, 1), (287, .ireturn, 1), (288, .aload_n 1, 1), (289, .invokevirtual 32, 3), (292, .aload_n 2, 1), (293, .invokevirtual 36, 3), (296, .if_icmp .eq 588, 3), (299, .iconst 0, 1), (300, .ireturn, 1), (301, .aload_n 1, 1), (302, .invokevirtual 37, 3), (305, .aload_n 2, 1), (306, .invokevirtual 40, 3), (309, .if_icmp .eq 575, 3), (312, .iconst 0, 1), (313, .ireturn, 1), (314, .aload_n 1, 1), (315, .aload_n 0, 1), (316, .iload_n 3, 1), (317, .iconst 1, 1), (318, .iadd, 1), (319, .iaload, 1)] : List (Nat × Instr × Nat)), decode cL_law r.1 = .ok r.2 := by decide +kernel
theorem pj_d158_3 : ∀ r ∈ ([(320, .invokevirtual 41, 3), (323, .aload_n 2, 1), (324, .aload_n 0, 1), (325, .iload_n 3, 1), (326, .iconst 1, 1), (327, .iadd, 1), (328, .iaload, 1), (329, .invokevirtual 44, 3), (332, .if_icmp .eq 552, 3), (335, .iconst 0, 1), (336, .ireturn, 1), (337, .aload_n 1, 1), (338, .invokevirtual 45, 3), (341, .aload_n 2, 1), (342, .invokevirtual 48, 3), (345, .if_icmp .eq 539, 3), (348, .iconst 0, 1), (349, .ireturn, 1), (350, .aload_n 1, 1), (351, .aload_n 0, 1), (352, .iload_n 3, 1), (353, .iconst 1, 1), (354, .iadd, 1), (355, .iaload, 1), (356, .aload_n 0, 1), (357, .iload_n 3, 1), (358, .iconst 2, 1), (359, .iadd, 1), (360, .iaload, 1), (361, .invokevirtual 49, 3), (364, .aload_n 2, 1), (365, .aload_n 0, 1), (366, .iload_n 3, 1), (367, .iconst 1, 1), (368, .iadd, 1), (369, .iaload, 1), (370, .aload_n 0, 1), (371, .iload_n 3, 1), (372, .iconst 2, 1), (373, .iadd, 1), (374, .iaload, 1), (375, .invokevirtual 52, 3), (378, .if_icmp .eq 506, 3), (381, .iconst 0, 1), (382, .ireturn, 1), (383, .aload_n 1, 1), (384, .aload_n 0, 1), (385, .iload_n 3, 1), (386, .iconst 1, 1), (387, .iadd, 1)] : List (Nat × Instr × Nat)), decode cL_law r.1 = .ok r.2 := by decide +kernel
theorem pj_d158_4 : ∀ r ∈ ([(388, .iaload, 1), (389, .invokevirtual 53, 3), (392, .aload_n 2, 1), (393, .aload_n 0, 1), (394, .iload_n 3, 1), (395, .iconst 1, 1), (396, .iadd, 1), (397, .iaload, 1), (398, .invokevirtual 56, 3), (401, .if_icmp .eq 483, 3), (404, .iconst 0, 1), (405, .ireturn, 1), (406, .aload_n 1, 1), (407, .aload_n 0, 1), (408, .iload_n 3, 1), (409, .iconst 1, 1), (410, .iadd, 1), (411, .iaload, 1), (412, .invokevirtual 57, 3), (415, .aload_n 2, 1), (416, .aload_n 0, 1), (417, .iload_n 3, 1), (418, .iconst 1, 1), (419, .iadd, 1), (420, .iaload, 1), (421, .invokevirtual 60, 3), (424, .if_icmp .eq 460, 3), (427, .iconst 0, 1), (428, .ireturn, 1), (429, .aload_n 1, 1), (430, .aload_n 0, 1), (431, .iload_n 3, 1), (432, .iconst 1, 1), (433, .iadd, 1), (434, .iaload, 1), (435, .aload_n 0, 1), (436, .iload_n 3, 1), (437, .iconst 2, 1), (438, .iadd, 1), (439, .iaload, 1), (440, .invokevirtual 61, 3), (443, .aload_n 2, 1), (444, .aload_n 0, 1), (445, .iload_n 3, 1), (446, .iconst 1, 1), (447, .iadd, 1), (448, .iaload, 1), (449, .aload_n 0, 1), (450, .iload_n 3, 1), (451, .iconst 2, 1)] : List (Nat × Instr × Nat)), decode cL_law r.1 = .ok r.2 := by decide +kernel
theorem pj_d158_5 : ∀ r ∈ ([(452, .iadd, 1), (453, .iaload, 1), (454, .invokevirtual 64, 3), (457, .if_icmp .eq 427, 3), (460, .iconst 0, 1), (461, .ireturn, 1), (462, .aload_n 1, 1), (463, .aload_n 0, 1), (464, .iload_n 3, 1), (465, .iconst 1, 1), (466, .iadd, 1), (467, .iaload, 1), (468, .invokevirtual 65, 3), (471, .aload_n 2, 1), (472, .aload_n 0, 1), (473, .iload_n 3, 1), (474, .iconst 1, 1), (475, .iadd, 1), (476, .iaload, 1), (477, .invokevirtual 68, 3), (480, .if_icmp .eq 404, 3), (483, .iconst 0, 1), (484, .ireturn, 1), (485, .aload_n 1, 1), (486, .aload_n 0, 1), (487, .iload_n 3, 1), (488, .iconst 1, 1), (489, .iadd, 1), (490, .iaload, 1), (491, .invokevirtual 69, 3), (494, .aload_n 2, 1), (495, .aload_n 0, 1), (496, .iload_n 3, 1), (497, .iconst 1, 1), (498, .iadd, 1), (499, .iaload, 1), (500, .invokevirtual 72, 3), (503, .if_icmp .eq 381, 3), (506, .iconst 0, 1), (507, .ireturn, 1), (508, .aload_n 1, 1), (509, .aload_n 0, 1), (510, .iload_n 3, 1), (511, .iconst 1, 1), (512, .iadd, 1), (513, .iaload, 1), (514, .aload_n 0, 1), (515, .iload_n 3, 1), (516, .iconst 2, 1), (517, .iadd, 1)] : List (Nat × Instr × Nat)), decode cL_law r.1 = .ok r.2 := by decide +kernel
theorem pj_d158_6 : ∀ r ∈ ([(518, .iaload, 1), (519, .invokevirtual 73, 3), (522, .aload_n 2, 1), (523, .aload_n 0, 1), (524, .iload_n 3, 1), (525, .iconst 1, 1), (526, .iadd, 1), (527, .iaload, 1), (528, .aload_n 0, 1), (529, .iload_n 3, 1), (530, .iconst 2, 1), (531, .iadd, 1), (532, .iaload, 1), (533, .invokevirtual 76, 3), (536, .if_icmp .eq 348, 3), (539, .iconst 0, 1), (540, .ireturn, 1), (541, .aload_n 1, 1), (542, .invokevirtual 77, 3), (545, .aload_n 2, 1), (546, .invokevirtual 80, 3), (549, .if_icmp .eq 335, 3), (552, .iconst 0, 1), (553, .ireturn, 1), (554, .aload_n 1, 1), (555, .aload_n 0, 1), (556, .iload_n 3, 1), (557, .iconst 1, 1), (558, .iadd, 1), (559, .iaload, 1), (560, .invokevirtual 81, 3), (563, .aload_n 2, 1), (564, .aload_n 0, 1), (565, .iload_n 3, 1), (566, .iconst 1, 1), (567, .iadd, 1), (568, .iaload, 1), (569, .invokevirtual 84, 3), (572, .if_icmp .eq 312, 3), (575, .iconst 0, 1), (576, .ireturn, 1), (577, .aload_n 1, 1), (578, .aload_n 0, 1), (579, .iload_n 3, 1), (580, .iconst 1, 1), (581, .iadd, 1), (582, .iaload, 1), (583, .aload_n 0, 1), (584, .iload_n 3, 1), (585, .iconst 2, 1)] : List (Nat × Instr × Nat)), decode cL_law r.1 = .ok r.2 := by decide +kernel
theorem pj_d158_7 : ∀ r ∈ ([(586, .iadd, 1), (587, .iaload, 1), (588, .ifCond .eq 7, 3), (591, .iconst 1, 1), (592, .goto 4, 3), (595, .iconst 0, 1), (596, .invokevirtual 85, 3), (599, .aload_n 2, 1), (600, .aload_n 0, 1), (601, .iload_n 3, 1), (602, .iconst 1, 1), (603, .iadd, 1), (604, .iaload, 1), (605, .aload_n 0, 1), (606, .iload_n 3, 1), (607, .iconst 2, 1), (608, .iadd, 1), (609, .iaload, 1), (610, .ifCond .eq 7, 3), (613, .iconst 1, 1), (614, .goto 4, 3), (617, .iconst 0, 1), (618, .invokevirtual 89, 3), (621, .if_icmp .eq 263, 3), (624, .iconst 0, 1), (625, .ireturn, 1), (626, .aload_n 1, 1), (627, .invokevirtual 90, 3), (630, .aload_n 2, 1), (631, .invokevirtual 93, 3), (634, .if_icmp .eq 250, 3), (637, .iconst 0, 1), (638, .ireturn, 1), (639, .aload_n 1, 1), (640, .aload_n 0, 1), (641, .iload_n 3, 1), (642, .iconst 1, 1), (643, .iadd, 1), (644, .iaload, 1), (645, .invokevirtual 94, 3), (648, .aload_n 2, 1), (649, .aload_n 0, 1), (650, .iload_n 3, 1), (651, .iconst 1, 1), (652, .iadd, 1), (653, .iaload, 1), (654, .invokevirtual 97, 3), (657, .if_icmp .eq 227, 3), (660, .iconst 0, 1), (661, .ireturn, 1)] : List (Nat × Instr × Nat)), decode cL_law r.1 = .ok r.2 := by decide +kernel
theorem pj_d158_8 : ∀ r ∈ ([(662, .aload_n 1, 1), (663, .aload_n 0, 1), (664, .iload_n 3, 1), (665, .iconst 1, 1), (666, .iadd, 1), (667, .iaload, 1), (668, .invokevirtual 98, 3), (671, .aload_n 2, 1), (672, .aload_n 0, 1), (673, .iload_n 3, 1), (674, .iconst 1, 1), (675, .iadd, 1), (676, .iaload, 1), (677, .invokevirtual 101, 3), (680, .if_icmp .eq 204, 3), (683, .iconst 0, 1), (684, .ireturn, 1), (685, .aload_n 1, 1), (686, .aload_n 0, 1), (687, .iload_n 3, 1), (688, .iconst 1, 1), (689, .iadd, 1), (690, .iaload, 1), (691, .aload_n 0, 1), (692, .iload_n 3, 1), (693, .iconst 2, 1), (694, .iadd, 1), (695, .iaload, 1), (696, .invokevirtual 102, 3), (699, .aload_n 2, 1), (700, .aload_n 0, 1), (701, .iload_n 3, 1), (702, .iconst 1, 1), (703, .iadd, 1), (704, .iaload, 1), (705, .aload_n 0, 1), (706, .iload_n 3, 1), (707, .iconst 2, 1), (708, .iadd, 1), (709, .iaload, 1), (710, .invokevirtual 105, 3), (713, .if_icmp .eq 171, 3), (716, .iconst 0, 1), (717, .ireturn, 1), (718, .aload_n 1, 1), (719, .aload_n 0, 1), (720, .iload_n 3, 1), (721, .iconst 1, 1), (722, .iadd, 1), (723, .iaload, 1)] : List (Nat × Instr × Nat)), decode cL_law r.1 = .ok r.2 := by decide +kernel
theorem pj_d158_9 : ∀ r ∈ ([(724, .aload_n 0, 1), (725, .iload_n 3, 1), (726, .iconst 2, 1), (727, .iadd, 1), (728, .iaload, 1), (729, .aload_n 0, 1), (730, .iload_n 3, 1), (731, .iconst 3, 1), (732, .iadd, 1), (733, .iaload, 1), (734, .aload_n 0, 1), (735, .iload_n 3, 1), (736, .iconst 4, 1), (737, .iadd, 1), (738, .iaload, 1), (739, .invokevirtual 106, 3), (742, .aload_n 2, 1), (743, .aload_n 0, 1), (744, .iload_n 3, 1), (745, .iconst 1, 1), (746, .iadd, 1), (747, .iaload, 1), (748, .aload_n 0, 1), (749, .iload_n 3, 1), (750, .iconst 2, 1), (751, .iadd, 1), (752, .iaload, 1), (753, .aload_n 0, 1), (754, .iload_n 3, 1), (755, .iconst 3, 1), (756, .iadd, 1), (757, .iaload, 1), (758, .aload_n 0, 1), (759, .iload_n 3, 1), (760, .iconst 4, 1), (761, .iadd, 1), (762, .iaload, 1), (763, .invokevirtual 110, 3), (766, .lcmp, 1), (767, .ifCond .eq 117, 3), (770, .iconst 0, 1), (771, .ireturn, 1), (772, .aload_n 1, 1), (773, .aload_n 0, 1), (774, .iload_n 3, 1), (775, .iconst 1, 1), (776, .iadd, 1), (777, .iaload, 1), (778, .aload_n 0, 1), (779, .iload_n 3, 1)] : List (Nat × Instr × Nat)), decode cL_law r.1 = .ok r.2 := by decide +kernel
theorem pj_d158_10 : ∀ r ∈ ([(780, .iconst 2, 1), (781, .iadd, 1), (782, .iaload, 1), (783, .aload_n 0, 1), (784, .iload_n 3, 1), (785, .iconst 3, 1), (786, .iadd, 1), (787, .iaload, 1), (788, .invokevirtual 111, 3), (791, .aload_n 2, 1), (792, .aload_n 0, 1), (793, .iload_n 3, 1), (794, .iconst 1, 1), (795, .iadd, 1), (796, .iaload, 1), (797, .aload_n 0, 1), (798, .iload_n 3, 1), (799, .iconst 2, 1), (800, .iadd, 1), (801, .iaload, 1), (802, .aload_n 0, 1), (803, .iload_n 3, 1), (804, .iconst 3, 1), (805, .iadd, 1), (806, .iaload, 1), (807, .invokevirtual 114, 3), (810, .if_icmp .eq 74, 3), (813, .iconst 0, 1), (814, .ireturn, 1), (815, .aload_n 1, 1), (816, .aload_n 0, 1), (817, .iload_n 3, 1), (818, .iconst 1, 1), (819, .iadd, 1), (820, .iaload, 1), (821, .invokevirtual 115, 3), (824, .aload_n 2, 1), (825, .aload_n 0, 1), (826, .iload_n 3, 1), (827, .iconst 1, 1), (828, .iadd, 1), (829, .iaload, 1), (830, .invokevirtual 118, 3), (833, .if_icmp .eq 51, 3), (836, .iconst 0, 1), (837, .ireturn, 1), (838, .aload_n 1, 1), (839, .aload_n 0, 1), (840, .iload_n 3, 1), (841, .iconst 1, 1)] : List (Nat × Instr × Nat)), decode cL_law r.1 = .ok r.2 := by decide +kernel
theorem pj_d158_11 : ∀ r ∈ ([(842, .iadd, 1), (843, .iaload, 1), (844, .invokevirtual 119, 3), (847, .aload_n 2, 1), (848, .aload_n 0, 1), (849, .iload_n 3, 1), (850, .iconst 1, 1), (851, .iadd, 1), (852, .iaload, 1), (853, .invokevirtual 122, 3), (856, .if_icmp .eq 28, 3), (859, .iconst 0, 1), (860, .ireturn, 1), (861, .aload_n 1, 1), (862, .aload_n 0, 1), (863, .iload_n 3, 1), (864, .iconst 1, 1), (865, .iadd, 1), (866, .iaload, 1), (867, .invokevirtual 123, 3), (870, .aload_n 2, 1), (871, .aload_n 0, 1), (872, .iload_n 3, 1), (873, .iconst 1, 1), (874, .iadd, 1), (875, .iaload, 1), (876, .invokevirtual 126, 3), (879, .if_icmp .eq 5, 3), (882, .iconst 0, 1), (883, .ireturn, 1), (884, .iinc 3 5, 3), (887, .goto (-869), 3), (890, .iconst 1, 1), (891, .ireturn, 1)] : List (Nat × Instr × Nat)), decode cL_law r.1 = .ok r.2 := by decide +kernel
set_option maxRecDepth 100000 in
theorem pj_d158 : pj_DO pj_mL := List.forall_mem_append.mpr ⟨pj_d158_0, List.forall_mem_append.mpr ⟨pj_d158_1, List.forall_mem_append.mpr ⟨pj_d158_2, List.forall_mem_append.mpr ⟨pj_d158_3, List.forall_mem_append.mpr ⟨pj_d158_4, List.forall_mem_append.mpr ⟨pj_d158_5, List.forall_mem_append.mpr ⟨pj_d158_6, List.forall_mem_append.mpr ⟨pj_d158_7, List.forall_mem_append.mpr ⟨pj_d158_8, List.forall_mem_append.mpr ⟨pj_d158_9, List.forall_mem_append.mpr ⟨pj_d158_10, pj_d158_11⟩⟩⟩⟩⟩⟩⟩⟩⟩⟩⟩
theorem pj_gd0 : ∀ q ∈ pj_g0, pj_DO q := List.forall_mem_cons.mpr ⟨pj_d0, List.forall_mem_cons.mpr ⟨pj_d1, List.forall_mem_cons.mpr ⟨pj_d2, List.forall_mem_cons.mpr ⟨pj_d3, List.forall_mem_cons.mpr ⟨pj_d4, List.forall_mem_cons.mpr ⟨pj_d5, List.forall_mem_cons.mpr ⟨pj_d6, List.forall_mem_cons.mpr ⟨pj_d7, List.forall_mem_cons.mpr ⟨pj_d8, List.forall_mem_cons.mpr ⟨pj_d9, List.forall_mem_cons.mpr ⟨pj_d10, List.forall_mem_cons.mpr ⟨pj_d11, List.forall_mem_cons.mpr ⟨pj_d12, List.forall_mem_cons.mpr ⟨pj_d13, List.forall_mem_cons.mpr ⟨pj_d14, List.forall_mem_cons.mpr ⟨pj_d15, List.forall_mem_cons.mpr ⟨pj_d16, List.forall_mem_cons.mpr ⟨pj_d17, List.forall_mem_cons.mpr ⟨pj_d18, List.forall_mem_cons.mpr ⟨pj_d19, fun _ h => absurd h List.not_mem_nil⟩⟩⟩⟩⟩⟩⟩⟩⟩⟩⟩⟩⟩⟩⟩⟩⟩⟩⟩⟩
theorem pj_gd1 : ∀ q ∈ pj_g1, pj_DO q := List.forall_mem_cons.mpr ⟨pj_d20, List.forall_mem_cons.mpr ⟨pj_d21, List.forall_mem_cons.mpr ⟨pj_d22, List.forall_mem_cons.mpr ⟨pj_d23, List.forall_mem_cons.mpr ⟨pj_d24, List.forall_mem_cons.mpr ⟨pj_d25, List.forall_mem_cons.mpr ⟨pj_d26, List.forall_mem_cons.mpr ⟨pj_d27, List.forall_mem_cons.mpr ⟨pj_d28, List.forall_mem_cons.mpr ⟨pj_d29, List.forall_mem_cons.mpr ⟨pj_d30, List.forall_mem_cons.mpr ⟨pj_d31, List.forall_mem_cons.mpr ⟨pj_d32, List.forall_mem_cons.mpr ⟨pj_d33, List.forall_mem_cons.mpr ⟨pj_d34, List.forall_mem_cons.mpr ⟨pj_d35, List.forall_mem_cons.mpr ⟨pj_d36, List.forall_mem_cons.mpr ⟨pj_d37, List.forall_mem_cons.mpr ⟨pj_d38, List.forall_mem_cons.mpr ⟨pj_d39, fun _ h => absurd h List.not_mem_nil⟩⟩⟩⟩⟩⟩⟩⟩⟩⟩⟩⟩⟩⟩⟩⟩⟩⟩⟩⟩
theorem pj_gd2 : ∀ q ∈ pj_g2, pj_DO q := List.forall_mem_cons.mpr ⟨pj_d40, List.forall_mem_cons.mpr ⟨pj_d41, List.forall_mem_cons.mpr ⟨pj_d42, List.forall_mem_cons.mpr ⟨pj_d43, List.forall_mem_cons.mpr ⟨pj_d44, List.forall_mem_cons.mpr ⟨pj_d45, List.forall_mem_cons.mpr ⟨pj_d46, List.forall_mem_cons.mpr ⟨pj_d47, List.forall_mem_cons.mpr ⟨pj_d48, List.forall_mem_cons.mpr ⟨pj_d49, List.forall_mem_cons.mpr ⟨pj_d50, List.forall_mem_cons.mpr ⟨pj_d51, List.forall_mem_cons.mpr ⟨pj_d52, List.forall_mem_cons.mpr ⟨pj_d53, List.forall_mem_cons.mpr ⟨pj_d54, List.forall_mem_cons.mpr ⟨pj_d55, List.forall_mem_cons.mpr ⟨pj_d56, List.forall_mem_cons.mpr ⟨pj_d57, List.forall_mem_cons.mpr ⟨pj_d58, List.forall_mem_cons.mpr ⟨pj_d59, fun _ h => absurd h List.not_mem_nil⟩⟩⟩⟩⟩⟩⟩⟩⟩⟩⟩⟩⟩⟩⟩⟩⟩⟩⟩⟩
theorem pj_gd3 : ∀ q ∈ pj_g3, pj_DO q := List.forall_mem_cons.mpr ⟨pj_d60, List.forall_mem_cons.mpr ⟨pj_d61, List.forall_mem_cons.mpr ⟨pj_d62, List.forall_mem_cons.mpr ⟨pj_d63, List.forall_mem_cons.mpr ⟨pj_d64, List.forall_mem_cons.mpr ⟨pj_d65, List.forall_mem_cons.mpr ⟨pj_d66, List.forall_mem_cons.mpr ⟨pj_d67, List.forall_mem_cons.mpr ⟨pj_d68, List.forall_mem_cons.mpr ⟨pj_d69, List.forall_mem_cons.mpr ⟨pj_d70, List.forall_mem_cons.mpr ⟨pj_d71, List.forall_mem_cons.mpr ⟨pj_d72, List.forall_mem_cons.mpr ⟨pj_d73, List.forall_mem_cons.mpr ⟨pj_d74, List.forall_mem_cons.mpr ⟨pj_d75, List.forall_mem_cons.mpr ⟨pj_d76, List.forall_mem_cons.mpr ⟨pj_d77, List.forall_mem_cons.mpr ⟨pj_d78, List.forall_mem_cons.mpr ⟨pj_d79, fun _ h => absurd h List.not_mem_nil⟩⟩⟩⟩⟩⟩⟩⟩⟩⟩⟩⟩⟩⟩⟩⟩⟩⟩⟩⟩
theorem pj_gd4 : ∀ q ∈ pj_g4, pj_DO q := List.forall_mem_cons.mpr ⟨pj_d80, List.forall_mem_cons.mpr ⟨pj_d81, List.forall_mem_cons.mpr ⟨pj_d82, List.forall_mem_cons.mpr ⟨pj_d83, List.forall_mem_cons.mpr ⟨pj_d84, List.forall_mem_cons.mpr ⟨pj_d85, List.forall_mem_cons.mpr ⟨pj_d86, List.forall_mem_cons.mpr ⟨pj_d87, List.forall_mem_cons.mpr ⟨pj_d88, List.forall_mem_cons.mpr ⟨pj_d89, List.forall_mem_cons.mpr ⟨pj_d90, List.forall_mem_cons.mpr ⟨pj_d91, List.forall_mem_cons.mpr ⟨pj_d92, List.forall_mem_cons.mpr ⟨pj_d93, List.forall_mem_cons.mpr ⟨pj_d94, List.forall_mem_cons.mpr ⟨pj_d95, List.forall_mem_cons.mpr ⟨pj_d96, List.forall_mem_cons.mpr ⟨pj_d97, List.forall_mem_cons.mpr ⟨pj_d98, List.forall_mem_cons.mpr ⟨pj_d99, fun _ h => absurd h List.not_mem_nil⟩⟩⟩⟩⟩⟩⟩⟩⟩⟩⟩⟩⟩⟩⟩⟩⟩⟩⟩⟩
theorem pj_gd5 : ∀ q ∈ pj_g5, pj_DO q := List.forall_mem_cons.mpr ⟨pj_d100, List.forall_mem_cons.mpr ⟨pj_d101, List.forall_mem_cons.mpr ⟨pj_d102, List.forall_mem_cons.mpr ⟨pj_d103, List.forall_mem_cons.mpr ⟨pj_d104, List.forall_mem_cons.mpr ⟨pj_d105, List.forall_mem_cons.mpr ⟨pj_d106, List.forall_mem_cons.mpr ⟨pj_d107, List.forall_mem_cons.mpr ⟨pj_d108, List.forall_mem_cons.mpr ⟨pj_d109, List.forall_mem_cons.mpr ⟨pj_d110, List.forall_mem_cons.mpr ⟨pj_d111, List.forall_mem_cons.mpr ⟨pj_d112, List.forall_mem_cons.mpr ⟨pj_d113, List.forall_mem_cons.mpr ⟨pj_d114, List.forall_mem_cons.mpr ⟨pj_d115, List.forall_mem_cons.mpr ⟨pj_d116, List.forall_mem_cons.mpr ⟨pj_d117, List.forall_mem_cons.mpr ⟨pj_d118, List.forall_mem_cons.mpr ⟨pj_d119, fun _ h => absurd h List.not_mem_nil⟩⟩⟩⟩⟩⟩⟩⟩⟩⟩⟩⟩⟩⟩⟩⟩⟩⟩⟩⟩
theorem pj_gd6 : ∀ q ∈ pj_g6, pj_DO q := List.forall_mem_cons.mpr ⟨pj_d120, List.forall_mem_cons.mpr ⟨pj_d121, List.forall_mem_cons.mpr ⟨pj_d122, List.forall_mem_cons.mpr ⟨pj_d123, List.forall_mem_cons.mpr ⟨pj_d124, List.forall_mem_cons.mpr ⟨pj_d125, List.forall_mem_cons.mpr ⟨pj_d126, List.forall_mem_cons.mpr ⟨pj_d127, List.forall_mem_cons.mpr ⟨pj_d128, List.forall_mem_cons.mpr ⟨pj_d129, List.forall_mem_cons.mpr ⟨pj_d130, List.forall_mem_cons.mpr ⟨pj_d131, List.forall_mem_cons.mpr ⟨pj_d132, List.forall_mem_cons.mpr ⟨pj_d133, List.forall_mem_cons.mpr ⟨pj_d134, List.forall_mem_cons.mpr ⟨pj_d135, List.forall_mem_cons.mpr ⟨pj_d136, List.forall_mem_cons.mpr ⟨pj_d137, List.forall_mem_cons.mpr ⟨pj_d138, List.forall_mem_cons.mpr ⟨pj_d139, fun _ h => absurd h List.not_mem_nil⟩⟩⟩⟩⟩⟩⟩⟩⟩⟩⟩⟩⟩⟩⟩⟩⟩⟩⟩⟩
theorem pj_gd7 : ∀ q ∈ pj_g7, pj_DO q := List.forall_mem_cons.mpr ⟨pj_d140, List.forall_mem_cons.mpr ⟨pj_d141, List.forall_mem_cons.mpr ⟨pj_d142, List.forall_mem_cons.mpr ⟨pj_d143, List.forall_mem_cons.mpr ⟨pj_d144, List.forall_mem_cons.mpr ⟨pj_d145, List.forall_mem_cons.mpr ⟨pj_d146, List.forall_mem_cons.mpr ⟨pj_d147, List.forall_mem_cons.mpr ⟨pj_d148, List.forall_mem_cons.mpr ⟨pj_d149, List.forall_mem_cons.mpr ⟨pj_d150, List.forall_mem_cons.mpr ⟨pj_d151, List.forall_mem_cons.mpr ⟨pj_d152, List.forall_mem_cons.mpr ⟨pj_d153, List.forall_mem_cons.mpr ⟨pj_d154, List.forall_mem_cons.mpr ⟨pj_d155, List.forall_mem_cons.mpr ⟨pj_d156, List.forall_mem_cons.mpr ⟨pj_d157, fun _ h => absurd h List.not_mem_nil⟩⟩⟩⟩⟩⟩⟩⟩⟩⟩⟩⟩⟩⟩⟩⟩⟩⟩
theorem pj_dok : ∀ q ∈ pj_all, pj_DO q := by
  show ∀ q ∈ pj_ms ++ [pj_mL], pj_DO q
  refine List.forall_mem_append.mpr ⟨?_, List.forall_mem_singleton.mpr pj_d158⟩
  rw [pj_ms_app]
  exact List.forall_mem_append.mpr ⟨pj_gd0, List.forall_mem_append.mpr ⟨pj_gd1, List.forall_mem_append.mpr ⟨pj_gd2, List.forall_mem_append.mpr ⟨pj_gd3, List.forall_mem_append.mpr ⟨pj_gd4, List.forall_mem_append.mpr ⟨pj_gd5, List.forall_mem_append.mpr ⟨pj_gd6, pj_gd7⟩⟩⟩⟩⟩⟩⟩
