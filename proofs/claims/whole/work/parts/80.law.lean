/-! ===== the law's blocks, and its loop over any relation that every pair of calls keeps (wip/whole/lawgen.py) ===== -/
set_option maxRecDepth 100000 in
set_option maxHeartbeats 4000000 in
theorem pb_la_law_16 {L : Nat} {hi : Nat → Nat → Int32} {hl : Nat → Nat → Int64}  {o : Option Value × pj_H}  : pe_E pj_mL 16 [some (.ref 0), some (.ref 1), some (.ref 32), none] [] (pj_SH L, hi, hl) o = pe_E pj_mL 18 [some (.ref 0), some (.ref 1), some (.ref 32), some (.int 0)] [] (pj_SH L, hi, hl) o := (pe_iconst pr_158_16 pc_i0).trans (pe_istore_n pr_158_17 rfl)
set_option maxRecDepth 100000 in
set_option maxHeartbeats 4000000 in
theorem pb_la_law_18 {L : Nat} {hi : Nat → Nat → Int32} {hl : Nat → Nat → Int64} {x3 : Int32} {o : Option Value × pj_H} (c1 : (¬ (((nI L) - 5) < x3)) → ¬ (x3 < 0 ∨ L ≤ (x3).toNatClampNeg)) : pe_E pj_mL 18 [some (.ref 0), some (.ref 1), some (.ref 32), some (.int x3)] [] (pj_SH L, hi, hl) o = (if ((nI L) - 5) < x3 then ((some (.int 1), (pj_SH L, hi, hl)) = o) else pe_E pj_mL 32 [some (.ref 0), some (.ref 1), some (.ref 32), some (.int x3)] [.int ((hi 0 (x3 : Int32).toNatClampNeg) &&& 31)] (pj_SH L, hi, hl) o) := (pe_iload_n pr_158_18 rfl).trans ((pe_aload_n pr_158_19 rfl).trans ((pe_alen (v := nI L) pr_158_20 (ps_0 L) rfl).trans ((pe_iconst pr_158_21 pc_i5).trans ((pe_isub pr_158_22).trans ((pe_icmp (t := 890) (c := ((nI L) - 5) < x3) pr_158_23 rfl rfl).trans (pe_cng (c := ((nI L) - 5) < x3) (fun h1 => (pe_iconst pr_158_890 pc_i1).trans (pe_zret pr_158_891 rfl (by decide))) (fun h1 => (pe_aload_n pr_158_26 rfl).trans ((pe_iload_n pr_158_27 rfl).trans ((pe_iald pr_158_28 (ps_0 L) (c1 h1)).trans ((pe_bipush pr_158_29 pc_b31).trans (pe_iand pr_158_31)))))))))))
set_option maxRecDepth 100000 in
set_option maxHeartbeats 4000000 in
theorem pb_la_law_32_0 {L : Nat} {hi : Nat → Nat → Int32} {hl : Nat → Nat → Int64} {x3 : Int32} {o : Option Value × pj_H} : pe_E pj_mL 32 [some (.ref 0), some (.ref 1), some (.ref 32), some (.int x3)] [.int 0] (pj_SH L, hi, hl) o = pe_E pj_mL 156 [some (.ref 0), some (.ref 1), some (.ref 32), some (.int x3)] [] (pj_SH L, hi, hl) o := pe_tabIn pr_158_32 (by decide) rfl rfl
set_option maxRecDepth 100000 in
set_option maxHeartbeats 4000000 in
theorem pb_la_law_32_1 {L : Nat} {hi : Nat → Nat → Int32} {hl : Nat → Nat → Int64} {x3 : Int32} {o : Option Value × pj_H} : pe_E pj_mL 32 [some (.ref 0), some (.ref 1), some (.ref 32), some (.int x3)] [.int 1] (pj_SH L, hi, hl) o = pe_E pj_mL 199 [some (.ref 0), some (.ref 1), some (.ref 32), some (.int x3)] [] (pj_SH L, hi, hl) o := pe_tabIn pr_158_32 (by decide) rfl rfl
set_option maxRecDepth 100000 in
set_option maxHeartbeats 4000000 in
theorem pb_la_law_32_2 {L : Nat} {hi : Nat → Nat → Int32} {hl : Nat → Nat → Int64} {x3 : Int32} {o : Option Value × pj_H} : pe_E pj_mL 32 [some (.ref 0), some (.ref 1), some (.ref 32), some (.int x3)] [.int 2] (pj_SH L, hi, hl) o = pe_E pj_mL 232 [some (.ref 0), some (.ref 1), some (.ref 32), some (.int x3)] [] (pj_SH L, hi, hl) o := pe_tabIn pr_158_32 (by decide) rfl rfl
set_option maxRecDepth 100000 in
set_option maxHeartbeats 4000000 in
theorem pb_la_law_32_3 {L : Nat} {hi : Nat → Nat → Int32} {hl : Nat → Nat → Int64} {x3 : Int32} {o : Option Value × pj_H} : pe_E pj_mL 32 [some (.ref 0), some (.ref 1), some (.ref 32), some (.int x3)] [.int 3] (pj_SH L, hi, hl) o = pe_E pj_mL 265 [some (.ref 0), some (.ref 1), some (.ref 32), some (.int x3)] [] (pj_SH L, hi, hl) o := pe_tabIn pr_158_32 (by decide) rfl rfl
set_option maxRecDepth 100000 in
set_option maxHeartbeats 4000000 in
theorem pb_la_law_32_4 {L : Nat} {hi : Nat → Nat → Int32} {hl : Nat → Nat → Int64} {x3 : Int32} {o : Option Value × pj_H} : pe_E pj_mL 32 [some (.ref 0), some (.ref 1), some (.ref 32), some (.int x3)] [.int 4] (pj_SH L, hi, hl) o = pe_E pj_mL 288 [some (.ref 0), some (.ref 1), some (.ref 32), some (.int x3)] [] (pj_SH L, hi, hl) o := pe_tabIn pr_158_32 (by decide) rfl rfl
set_option maxRecDepth 100000 in
set_option maxHeartbeats 4000000 in
theorem pb_la_law_32_5 {L : Nat} {hi : Nat → Nat → Int32} {hl : Nat → Nat → Int64} {x3 : Int32} {o : Option Value × pj_H} : pe_E pj_mL 32 [some (.ref 0), some (.ref 1), some (.ref 32), some (.int x3)] [.int 5] (pj_SH L, hi, hl) o = pe_E pj_mL 301 [some (.ref 0), some (.ref 1), some (.ref 32), some (.int x3)] [] (pj_SH L, hi, hl) o := pe_tabIn pr_158_32 (by decide) rfl rfl
set_option maxRecDepth 100000 in
set_option maxHeartbeats 4000000 in
theorem pb_la_law_32_6 {L : Nat} {hi : Nat → Nat → Int32} {hl : Nat → Nat → Int64} {x3 : Int32} {o : Option Value × pj_H} : pe_E pj_mL 32 [some (.ref 0), some (.ref 1), some (.ref 32), some (.int x3)] [.int 6] (pj_SH L, hi, hl) o = pe_E pj_mL 314 [some (.ref 0), some (.ref 1), some (.ref 32), some (.int x3)] [] (pj_SH L, hi, hl) o := pe_tabIn pr_158_32 (by decide) rfl rfl
set_option maxRecDepth 100000 in
set_option maxHeartbeats 4000000 in
theorem pb_la_law_32_7 {L : Nat} {hi : Nat → Nat → Int32} {hl : Nat → Nat → Int64} {x3 : Int32} {o : Option Value × pj_H} : pe_E pj_mL 32 [some (.ref 0), some (.ref 1), some (.ref 32), some (.int x3)] [.int 7] (pj_SH L, hi, hl) o = pe_E pj_mL 337 [some (.ref 0), some (.ref 1), some (.ref 32), some (.int x3)] [] (pj_SH L, hi, hl) o := pe_tabIn pr_158_32 (by decide) rfl rfl
set_option maxRecDepth 100000 in
set_option maxHeartbeats 4000000 in
theorem pb_la_law_32_8 {L : Nat} {hi : Nat → Nat → Int32} {hl : Nat → Nat → Int64} {x3 : Int32} {o : Option Value × pj_H} : pe_E pj_mL 32 [some (.ref 0), some (.ref 1), some (.ref 32), some (.int x3)] [.int 8] (pj_SH L, hi, hl) o = pe_E pj_mL 350 [some (.ref 0), some (.ref 1), some (.ref 32), some (.int x3)] [] (pj_SH L, hi, hl) o := pe_tabIn pr_158_32 (by decide) rfl rfl
set_option maxRecDepth 100000 in
set_option maxHeartbeats 4000000 in
theorem pb_la_law_32_9 {L : Nat} {hi : Nat → Nat → Int32} {hl : Nat → Nat → Int64} {x3 : Int32} {o : Option Value × pj_H} : pe_E pj_mL 32 [some (.ref 0), some (.ref 1), some (.ref 32), some (.int x3)] [.int 9] (pj_SH L, hi, hl) o = pe_E pj_mL 383 [some (.ref 0), some (.ref 1), some (.ref 32), some (.int x3)] [] (pj_SH L, hi, hl) o := pe_tabIn pr_158_32 (by decide) rfl rfl
set_option maxRecDepth 100000 in
set_option maxHeartbeats 4000000 in
theorem pb_la_law_32_10 {L : Nat} {hi : Nat → Nat → Int32} {hl : Nat → Nat → Int64} {x3 : Int32} {o : Option Value × pj_H} : pe_E pj_mL 32 [some (.ref 0), some (.ref 1), some (.ref 32), some (.int x3)] [.int 10] (pj_SH L, hi, hl) o = pe_E pj_mL 406 [some (.ref 0), some (.ref 1), some (.ref 32), some (.int x3)] [] (pj_SH L, hi, hl) o := pe_tabIn pr_158_32 (by decide) rfl rfl
set_option maxRecDepth 100000 in
set_option maxHeartbeats 4000000 in
theorem pb_la_law_32_11 {L : Nat} {hi : Nat → Nat → Int32} {hl : Nat → Nat → Int64} {x3 : Int32} {o : Option Value × pj_H} : pe_E pj_mL 32 [some (.ref 0), some (.ref 1), some (.ref 32), some (.int x3)] [.int 11] (pj_SH L, hi, hl) o = pe_E pj_mL 429 [some (.ref 0), some (.ref 1), some (.ref 32), some (.int x3)] [] (pj_SH L, hi, hl) o := pe_tabIn pr_158_32 (by decide) rfl rfl
set_option maxRecDepth 100000 in
set_option maxHeartbeats 4000000 in
theorem pb_la_law_32_12 {L : Nat} {hi : Nat → Nat → Int32} {hl : Nat → Nat → Int64} {x3 : Int32} {o : Option Value × pj_H} : pe_E pj_mL 32 [some (.ref 0), some (.ref 1), some (.ref 32), some (.int x3)] [.int 12] (pj_SH L, hi, hl) o = pe_E pj_mL 462 [some (.ref 0), some (.ref 1), some (.ref 32), some (.int x3)] [] (pj_SH L, hi, hl) o := pe_tabIn pr_158_32 (by decide) rfl rfl
set_option maxRecDepth 100000 in
set_option maxHeartbeats 4000000 in
theorem pb_la_law_32_13 {L : Nat} {hi : Nat → Nat → Int32} {hl : Nat → Nat → Int64} {x3 : Int32} {o : Option Value × pj_H} : pe_E pj_mL 32 [some (.ref 0), some (.ref 1), some (.ref 32), some (.int x3)] [.int 13] (pj_SH L, hi, hl) o = pe_E pj_mL 485 [some (.ref 0), some (.ref 1), some (.ref 32), some (.int x3)] [] (pj_SH L, hi, hl) o := pe_tabIn pr_158_32 (by decide) rfl rfl
set_option maxRecDepth 100000 in
set_option maxHeartbeats 4000000 in
theorem pb_la_law_32_14 {L : Nat} {hi : Nat → Nat → Int32} {hl : Nat → Nat → Int64} {x3 : Int32} {o : Option Value × pj_H} : pe_E pj_mL 32 [some (.ref 0), some (.ref 1), some (.ref 32), some (.int x3)] [.int 14] (pj_SH L, hi, hl) o = pe_E pj_mL 508 [some (.ref 0), some (.ref 1), some (.ref 32), some (.int x3)] [] (pj_SH L, hi, hl) o := pe_tabIn pr_158_32 (by decide) rfl rfl
set_option maxRecDepth 100000 in
set_option maxHeartbeats 4000000 in
theorem pb_la_law_32_15 {L : Nat} {hi : Nat → Nat → Int32} {hl : Nat → Nat → Int64} {x3 : Int32} {o : Option Value × pj_H} : pe_E pj_mL 32 [some (.ref 0), some (.ref 1), some (.ref 32), some (.int x3)] [.int 15] (pj_SH L, hi, hl) o = pe_E pj_mL 541 [some (.ref 0), some (.ref 1), some (.ref 32), some (.int x3)] [] (pj_SH L, hi, hl) o := pe_tabIn pr_158_32 (by decide) rfl rfl
set_option maxRecDepth 100000 in
set_option maxHeartbeats 4000000 in
theorem pb_la_law_32_16 {L : Nat} {hi : Nat → Nat → Int32} {hl : Nat → Nat → Int64} {x3 : Int32} {o : Option Value × pj_H} : pe_E pj_mL 32 [some (.ref 0), some (.ref 1), some (.ref 32), some (.int x3)] [.int 16] (pj_SH L, hi, hl) o = pe_E pj_mL 554 [some (.ref 0), some (.ref 1), some (.ref 32), some (.int x3)] [] (pj_SH L, hi, hl) o := pe_tabIn pr_158_32 (by decide) rfl rfl
set_option maxRecDepth 100000 in
set_option maxHeartbeats 4000000 in
theorem pb_la_law_32_17 {L : Nat} {hi : Nat → Nat → Int32} {hl : Nat → Nat → Int64} {x3 : Int32} {o : Option Value × pj_H} : pe_E pj_mL 32 [some (.ref 0), some (.ref 1), some (.ref 32), some (.int x3)] [.int 17] (pj_SH L, hi, hl) o = pe_E pj_mL 577 [some (.ref 0), some (.ref 1), some (.ref 32), some (.int x3)] [] (pj_SH L, hi, hl) o := pe_tabIn pr_158_32 (by decide) rfl rfl
set_option maxRecDepth 100000 in
set_option maxHeartbeats 4000000 in
theorem pb_la_law_32_18 {L : Nat} {hi : Nat → Nat → Int32} {hl : Nat → Nat → Int64} {x3 : Int32} {o : Option Value × pj_H} : pe_E pj_mL 32 [some (.ref 0), some (.ref 1), some (.ref 32), some (.int x3)] [.int 18] (pj_SH L, hi, hl) o = pe_E pj_mL 626 [some (.ref 0), some (.ref 1), some (.ref 32), some (.int x3)] [] (pj_SH L, hi, hl) o := pe_tabIn pr_158_32 (by decide) rfl rfl
set_option maxRecDepth 100000 in
set_option maxHeartbeats 4000000 in
theorem pb_la_law_32_19 {L : Nat} {hi : Nat → Nat → Int32} {hl : Nat → Nat → Int64} {x3 : Int32} {o : Option Value × pj_H} : pe_E pj_mL 32 [some (.ref 0), some (.ref 1), some (.ref 32), some (.int x3)] [.int 19] (pj_SH L, hi, hl) o = pe_E pj_mL 639 [some (.ref 0), some (.ref 1), some (.ref 32), some (.int x3)] [] (pj_SH L, hi, hl) o := pe_tabIn pr_158_32 (by decide) rfl rfl
set_option maxRecDepth 100000 in
set_option maxHeartbeats 4000000 in
theorem pb_la_law_32_20 {L : Nat} {hi : Nat → Nat → Int32} {hl : Nat → Nat → Int64} {x3 : Int32} {o : Option Value × pj_H} : pe_E pj_mL 32 [some (.ref 0), some (.ref 1), some (.ref 32), some (.int x3)] [.int 20] (pj_SH L, hi, hl) o = pe_E pj_mL 662 [some (.ref 0), some (.ref 1), some (.ref 32), some (.int x3)] [] (pj_SH L, hi, hl) o := pe_tabIn pr_158_32 (by decide) rfl rfl
set_option maxRecDepth 100000 in
set_option maxHeartbeats 4000000 in
theorem pb_la_law_32_21 {L : Nat} {hi : Nat → Nat → Int32} {hl : Nat → Nat → Int64} {x3 : Int32} {o : Option Value × pj_H} : pe_E pj_mL 32 [some (.ref 0), some (.ref 1), some (.ref 32), some (.int x3)] [.int 21] (pj_SH L, hi, hl) o = pe_E pj_mL 685 [some (.ref 0), some (.ref 1), some (.ref 32), some (.int x3)] [] (pj_SH L, hi, hl) o := pe_tabIn pr_158_32 (by decide) rfl rfl
set_option maxRecDepth 100000 in
set_option maxHeartbeats 4000000 in
theorem pb_la_law_32_22 {L : Nat} {hi : Nat → Nat → Int32} {hl : Nat → Nat → Int64} {x3 : Int32} {o : Option Value × pj_H} : pe_E pj_mL 32 [some (.ref 0), some (.ref 1), some (.ref 32), some (.int x3)] [.int 22] (pj_SH L, hi, hl) o = pe_E pj_mL 718 [some (.ref 0), some (.ref 1), some (.ref 32), some (.int x3)] [] (pj_SH L, hi, hl) o := pe_tabIn pr_158_32 (by decide) rfl rfl
set_option maxRecDepth 100000 in
set_option maxHeartbeats 4000000 in
theorem pb_la_law_32_23 {L : Nat} {hi : Nat → Nat → Int32} {hl : Nat → Nat → Int64} {x3 : Int32} {o : Option Value × pj_H} : pe_E pj_mL 32 [some (.ref 0), some (.ref 1), some (.ref 32), some (.int x3)] [.int 23] (pj_SH L, hi, hl) o = pe_E pj_mL 772 [some (.ref 0), some (.ref 1), some (.ref 32), some (.int x3)] [] (pj_SH L, hi, hl) o := pe_tabIn pr_158_32 (by decide) rfl rfl
set_option maxRecDepth 100000 in
set_option maxHeartbeats 4000000 in
theorem pb_la_law_32_24 {L : Nat} {hi : Nat → Nat → Int32} {hl : Nat → Nat → Int64} {x3 : Int32} {o : Option Value × pj_H} : pe_E pj_mL 32 [some (.ref 0), some (.ref 1), some (.ref 32), some (.int x3)] [.int 24] (pj_SH L, hi, hl) o = pe_E pj_mL 815 [some (.ref 0), some (.ref 1), some (.ref 32), some (.int x3)] [] (pj_SH L, hi, hl) o := pe_tabIn pr_158_32 (by decide) rfl rfl
set_option maxRecDepth 100000 in
set_option maxHeartbeats 4000000 in
theorem pb_la_law_32_25 {L : Nat} {hi : Nat → Nat → Int32} {hl : Nat → Nat → Int64} {x3 : Int32} {o : Option Value × pj_H} : pe_E pj_mL 32 [some (.ref 0), some (.ref 1), some (.ref 32), some (.int x3)] [.int 25] (pj_SH L, hi, hl) o = pe_E pj_mL 838 [some (.ref 0), some (.ref 1), some (.ref 32), some (.int x3)] [] (pj_SH L, hi, hl) o := pe_tabIn pr_158_32 (by decide) rfl rfl
set_option maxRecDepth 100000 in
set_option maxHeartbeats 4000000 in
theorem pb_la_law_32_26 {L : Nat} {hi : Nat → Nat → Int32} {hl : Nat → Nat → Int64} {x3 : Int32} {o : Option Value × pj_H} : pe_E pj_mL 32 [some (.ref 0), some (.ref 1), some (.ref 32), some (.int x3)] [.int 26] (pj_SH L, hi, hl) o = pe_E pj_mL 861 [some (.ref 0), some (.ref 1), some (.ref 32), some (.int x3)] [] (pj_SH L, hi, hl) o := pe_tabIn pr_158_32 (by decide) rfl rfl
set_option maxRecDepth 100000 in
set_option maxHeartbeats 4000000 in
theorem pb_la_law_32_d {L : Nat} {hi : Nat → Nat → Int32} {hl : Nat → Nat → Int64} {x3 : Int32} {y0 : Int32} {o : Option Value × pj_H} (cx : y0.toInt < 0 ∨ 26 < y0.toInt) : pe_E pj_mL 32 [some (.ref 0), some (.ref 1), some (.ref 32), some (.int x3)] [.int y0] (pj_SH L, hi, hl) o = pe_E pj_mL 884 [some (.ref 0), some (.ref 1), some (.ref 32), some (.int x3)] [] (pj_SH L, hi, hl) o := pe_tabOut pr_158_32 cx rfl
set_option maxRecDepth 100000 in
set_option maxHeartbeats 4000000 in
theorem pb_la_law_156 {L : Nat} {hi : Nat → Nat → Int32} {hl : Nat → Nat → Int64} {x3 : Int32} {o : Option Value × pj_H} (c1 : ¬ ((x3 + 1) < 0 ∨ L ≤ ((x3 + 1)).toNatClampNeg)) (c2 : ¬ ((x3 + 2) < 0 ∨ L ≤ ((x3 + 2)).toNatClampNeg)) (c3 : ¬ ((x3 + 3) < 0 ∨ L ≤ ((x3 + 3)).toNatClampNeg)) : pe_E pj_mL 156 [some (.ref 0), some (.ref 1), some (.ref 32), some (.int x3)] [] (pj_SH L, hi, hl) o = pe_E pj_mL 172 [some (.ref 0), some (.ref 1), some (.ref 32), some (.int x3)] [.int (hi 0 ((x3 + 3) : Int32).toNatClampNeg), .int (hi 0 ((x3 + 2) : Int32).toNatClampNeg), .int (hi 0 ((x3 + 1) : Int32).toNatClampNeg), .ref 1] (pj_SH L, hi, hl) o := (pe_aload_n pr_158_156 rfl).trans ((pe_aload_n pr_158_157 rfl).trans ((pe_iload_n pr_158_158 rfl).trans ((pe_iconst pr_158_159 pc_i1).trans ((pe_iadd pr_158_160).trans ((pe_iald pr_158_161 (ps_0 L) c1).trans ((pe_aload_n pr_158_162 rfl).trans ((pe_iload_n pr_158_163 rfl).trans ((pe_iconst pr_158_164 pc_i2).trans ((pe_iadd pr_158_165).trans ((pe_iald pr_158_166 (ps_0 L) c2).trans ((pe_aload_n pr_158_167 rfl).trans ((pe_iload_n pr_158_168 rfl).trans ((pe_iconst pr_158_169 pc_i3).trans ((pe_iadd pr_158_170).trans (pe_iald pr_158_171 (ps_0 L) c3)))))))))))))))
set_option maxRecDepth 100000 in
set_option maxHeartbeats 4000000 in
theorem pb_la_law_199 {L : Nat} {hi : Nat → Nat → Int32} {hl : Nat → Nat → Int64} {x3 : Int32} {o : Option Value × pj_H} (c1 : ¬ ((x3 + 1) < 0 ∨ L ≤ ((x3 + 1)).toNatClampNeg)) (c2 : ¬ ((x3 + 2) < 0 ∨ L ≤ ((x3 + 2)).toNatClampNeg)) : pe_E pj_mL 199 [some (.ref 0), some (.ref 1), some (.ref 32), some (.int x3)] [] (pj_SH L, hi, hl) o = pe_E pj_mL 210 [some (.ref 0), some (.ref 1), some (.ref 32), some (.int x3)] [.int (hi 0 ((x3 + 2) : Int32).toNatClampNeg), .int (hi 0 ((x3 + 1) : Int32).toNatClampNeg), .ref 1] (pj_SH L, hi, hl) o := (pe_aload_n pr_158_199 rfl).trans ((pe_aload_n pr_158_200 rfl).trans ((pe_iload_n pr_158_201 rfl).trans ((pe_iconst pr_158_202 pc_i1).trans ((pe_iadd pr_158_203).trans ((pe_iald pr_158_204 (ps_0 L) c1).trans ((pe_aload_n pr_158_205 rfl).trans ((pe_iload_n pr_158_206 rfl).trans ((pe_iconst pr_158_207 pc_i2).trans ((pe_iadd pr_158_208).trans (pe_iald pr_158_209 (ps_0 L) c2))))))))))
set_option maxRecDepth 100000 in
set_option maxHeartbeats 4000000 in
theorem pb_la_law_232 {L : Nat} {hi : Nat → Nat → Int32} {hl : Nat → Nat → Int64} {x3 : Int32} {o : Option Value × pj_H} (c1 : ¬ ((x3 + 1) < 0 ∨ L ≤ ((x3 + 1)).toNatClampNeg)) (c2 : ¬ ((x3 + 2) < 0 ∨ L ≤ ((x3 + 2)).toNatClampNeg)) : pe_E pj_mL 232 [some (.ref 0), some (.ref 1), some (.ref 32), some (.int x3)] [] (pj_SH L, hi, hl) o = pe_E pj_mL 243 [some (.ref 0), some (.ref 1), some (.ref 32), some (.int x3)] [.int (hi 0 ((x3 + 2) : Int32).toNatClampNeg), .int (hi 0 ((x3 + 1) : Int32).toNatClampNeg), .ref 1] (pj_SH L, hi, hl) o := (pe_aload_n pr_158_232 rfl).trans ((pe_aload_n pr_158_233 rfl).trans ((pe_iload_n pr_158_234 rfl).trans ((pe_iconst pr_158_235 pc_i1).trans ((pe_iadd pr_158_236).trans ((pe_iald pr_158_237 (ps_0 L) c1).trans ((pe_aload_n pr_158_238 rfl).trans ((pe_iload_n pr_158_239 rfl).trans ((pe_iconst pr_158_240 pc_i2).trans ((pe_iadd pr_158_241).trans (pe_iald pr_158_242 (ps_0 L) c2))))))))))
set_option maxRecDepth 100000 in
set_option maxHeartbeats 4000000 in
theorem pb_la_law_265 {L : Nat} {hi : Nat → Nat → Int32} {hl : Nat → Nat → Int64} {x3 : Int32} {o : Option Value × pj_H} (c1 : ¬ ((x3 + 1) < 0 ∨ L ≤ ((x3 + 1)).toNatClampNeg)) : pe_E pj_mL 265 [some (.ref 0), some (.ref 1), some (.ref 32), some (.int x3)] [] (pj_SH L, hi, hl) o = pe_E pj_mL 271 [some (.ref 0), some (.ref 1), some (.ref 32), some (.int x3)] [.int (hi 0 ((x3 + 1) : Int32).toNatClampNeg), .ref 1] (pj_SH L, hi, hl) o := (pe_aload_n pr_158_265 rfl).trans ((pe_aload_n pr_158_266 rfl).trans ((pe_iload_n pr_158_267 rfl).trans ((pe_iconst pr_158_268 pc_i1).trans ((pe_iadd pr_158_269).trans (pe_iald pr_158_270 (ps_0 L) c1)))))
set_option maxRecDepth 100000 in
set_option maxHeartbeats 4000000 in
theorem pb_la_law_288 {L : Nat} {hi : Nat → Nat → Int32} {hl : Nat → Nat → Int64} {x3 : Int32} {o : Option Value × pj_H}  : pe_E pj_mL 288 [some (.ref 0), some (.ref 1), some (.ref 32), some (.int x3)] [] (pj_SH L, hi, hl) o = pe_E pj_mL 289 [some (.ref 0), some (.ref 1), some (.ref 32), some (.int x3)] [.ref 1] (pj_SH L, hi, hl) o := pe_aload_n pr_158_288 rfl
set_option maxRecDepth 100000 in
set_option maxHeartbeats 4000000 in
theorem pb_la_law_301 {L : Nat} {hi : Nat → Nat → Int32} {hl : Nat → Nat → Int64} {x3 : Int32} {o : Option Value × pj_H}  : pe_E pj_mL 301 [some (.ref 0), some (.ref 1), some (.ref 32), some (.int x3)] [] (pj_SH L, hi, hl) o = pe_E pj_mL 302 [some (.ref 0), some (.ref 1), some (.ref 32), some (.int x3)] [.ref 1] (pj_SH L, hi, hl) o := pe_aload_n pr_158_301 rfl
set_option maxRecDepth 100000 in
set_option maxHeartbeats 4000000 in
theorem pb_la_law_314 {L : Nat} {hi : Nat → Nat → Int32} {hl : Nat → Nat → Int64} {x3 : Int32} {o : Option Value × pj_H} (c1 : ¬ ((x3 + 1) < 0 ∨ L ≤ ((x3 + 1)).toNatClampNeg)) : pe_E pj_mL 314 [some (.ref 0), some (.ref 1), some (.ref 32), some (.int x3)] [] (pj_SH L, hi, hl) o = pe_E pj_mL 320 [some (.ref 0), some (.ref 1), some (.ref 32), some (.int x3)] [.int (hi 0 ((x3 + 1) : Int32).toNatClampNeg), .ref 1] (pj_SH L, hi, hl) o := (pe_aload_n pr_158_314 rfl).trans ((pe_aload_n pr_158_315 rfl).trans ((pe_iload_n pr_158_316 rfl).trans ((pe_iconst pr_158_317 pc_i1).trans ((pe_iadd pr_158_318).trans (pe_iald pr_158_319 (ps_0 L) c1)))))
set_option maxRecDepth 100000 in
set_option maxHeartbeats 4000000 in
theorem pb_la_law_337 {L : Nat} {hi : Nat → Nat → Int32} {hl : Nat → Nat → Int64} {x3 : Int32} {o : Option Value × pj_H}  : pe_E pj_mL 337 [some (.ref 0), some (.ref 1), some (.ref 32), some (.int x3)] [] (pj_SH L, hi, hl) o = pe_E pj_mL 338 [some (.ref 0), some (.ref 1), some (.ref 32), some (.int x3)] [.ref 1] (pj_SH L, hi, hl) o := pe_aload_n pr_158_337 rfl
set_option maxRecDepth 100000 in
set_option maxHeartbeats 4000000 in
theorem pb_la_law_350 {L : Nat} {hi : Nat → Nat → Int32} {hl : Nat → Nat → Int64} {x3 : Int32} {o : Option Value × pj_H} (c1 : ¬ ((x3 + 1) < 0 ∨ L ≤ ((x3 + 1)).toNatClampNeg)) (c2 : ¬ ((x3 + 2) < 0 ∨ L ≤ ((x3 + 2)).toNatClampNeg)) : pe_E pj_mL 350 [some (.ref 0), some (.ref 1), some (.ref 32), some (.int x3)] [] (pj_SH L, hi, hl) o = pe_E pj_mL 361 [some (.ref 0), some (.ref 1), some (.ref 32), some (.int x3)] [.int (hi 0 ((x3 + 2) : Int32).toNatClampNeg), .int (hi 0 ((x3 + 1) : Int32).toNatClampNeg), .ref 1] (pj_SH L, hi, hl) o := (pe_aload_n pr_158_350 rfl).trans ((pe_aload_n pr_158_351 rfl).trans ((pe_iload_n pr_158_352 rfl).trans ((pe_iconst pr_158_353 pc_i1).trans ((pe_iadd pr_158_354).trans ((pe_iald pr_158_355 (ps_0 L) c1).trans ((pe_aload_n pr_158_356 rfl).trans ((pe_iload_n pr_158_357 rfl).trans ((pe_iconst pr_158_358 pc_i2).trans ((pe_iadd pr_158_359).trans (pe_iald pr_158_360 (ps_0 L) c2))))))))))
set_option maxRecDepth 100000 in
set_option maxHeartbeats 4000000 in
theorem pb_la_law_383 {L : Nat} {hi : Nat → Nat → Int32} {hl : Nat → Nat → Int64} {x3 : Int32} {o : Option Value × pj_H} (c1 : ¬ ((x3 + 1) < 0 ∨ L ≤ ((x3 + 1)).toNatClampNeg)) : pe_E pj_mL 383 [some (.ref 0), some (.ref 1), some (.ref 32), some (.int x3)] [] (pj_SH L, hi, hl) o = pe_E pj_mL 389 [some (.ref 0), some (.ref 1), some (.ref 32), some (.int x3)] [.int (hi 0 ((x3 + 1) : Int32).toNatClampNeg), .ref 1] (pj_SH L, hi, hl) o := (pe_aload_n pr_158_383 rfl).trans ((pe_aload_n pr_158_384 rfl).trans ((pe_iload_n pr_158_385 rfl).trans ((pe_iconst pr_158_386 pc_i1).trans ((pe_iadd pr_158_387).trans (pe_iald pr_158_388 (ps_0 L) c1)))))
set_option maxRecDepth 100000 in
set_option maxHeartbeats 4000000 in
theorem pb_la_law_406 {L : Nat} {hi : Nat → Nat → Int32} {hl : Nat → Nat → Int64} {x3 : Int32} {o : Option Value × pj_H} (c1 : ¬ ((x3 + 1) < 0 ∨ L ≤ ((x3 + 1)).toNatClampNeg)) : pe_E pj_mL 406 [some (.ref 0), some (.ref 1), some (.ref 32), some (.int x3)] [] (pj_SH L, hi, hl) o = pe_E pj_mL 412 [some (.ref 0), some (.ref 1), some (.ref 32), some (.int x3)] [.int (hi 0 ((x3 + 1) : Int32).toNatClampNeg), .ref 1] (pj_SH L, hi, hl) o := (pe_aload_n pr_158_406 rfl).trans ((pe_aload_n pr_158_407 rfl).trans ((pe_iload_n pr_158_408 rfl).trans ((pe_iconst pr_158_409 pc_i1).trans ((pe_iadd pr_158_410).trans (pe_iald pr_158_411 (ps_0 L) c1)))))
set_option maxRecDepth 100000 in
set_option maxHeartbeats 4000000 in
theorem pb_la_law_429 {L : Nat} {hi : Nat → Nat → Int32} {hl : Nat → Nat → Int64} {x3 : Int32} {o : Option Value × pj_H} (c1 : ¬ ((x3 + 1) < 0 ∨ L ≤ ((x3 + 1)).toNatClampNeg)) (c2 : ¬ ((x3 + 2) < 0 ∨ L ≤ ((x3 + 2)).toNatClampNeg)) : pe_E pj_mL 429 [some (.ref 0), some (.ref 1), some (.ref 32), some (.int x3)] [] (pj_SH L, hi, hl) o = pe_E pj_mL 440 [some (.ref 0), some (.ref 1), some (.ref 32), some (.int x3)] [.int (hi 0 ((x3 + 2) : Int32).toNatClampNeg), .int (hi 0 ((x3 + 1) : Int32).toNatClampNeg), .ref 1] (pj_SH L, hi, hl) o := (pe_aload_n pr_158_429 rfl).trans ((pe_aload_n pr_158_430 rfl).trans ((pe_iload_n pr_158_431 rfl).trans ((pe_iconst pr_158_432 pc_i1).trans ((pe_iadd pr_158_433).trans ((pe_iald pr_158_434 (ps_0 L) c1).trans ((pe_aload_n pr_158_435 rfl).trans ((pe_iload_n pr_158_436 rfl).trans ((pe_iconst pr_158_437 pc_i2).trans ((pe_iadd pr_158_438).trans (pe_iald pr_158_439 (ps_0 L) c2))))))))))
set_option maxRecDepth 100000 in
set_option maxHeartbeats 4000000 in
theorem pb_la_law_462 {L : Nat} {hi : Nat → Nat → Int32} {hl : Nat → Nat → Int64} {x3 : Int32} {o : Option Value × pj_H} (c1 : ¬ ((x3 + 1) < 0 ∨ L ≤ ((x3 + 1)).toNatClampNeg)) : pe_E pj_mL 462 [some (.ref 0), some (.ref 1), some (.ref 32), some (.int x3)] [] (pj_SH L, hi, hl) o = pe_E pj_mL 468 [some (.ref 0), some (.ref 1), some (.ref 32), some (.int x3)] [.int (hi 0 ((x3 + 1) : Int32).toNatClampNeg), .ref 1] (pj_SH L, hi, hl) o := (pe_aload_n pr_158_462 rfl).trans ((pe_aload_n pr_158_463 rfl).trans ((pe_iload_n pr_158_464 rfl).trans ((pe_iconst pr_158_465 pc_i1).trans ((pe_iadd pr_158_466).trans (pe_iald pr_158_467 (ps_0 L) c1)))))
set_option maxRecDepth 100000 in
set_option maxHeartbeats 4000000 in
theorem pb_la_law_485 {L : Nat} {hi : Nat → Nat → Int32} {hl : Nat → Nat → Int64} {x3 : Int32} {o : Option Value × pj_H} (c1 : ¬ ((x3 + 1) < 0 ∨ L ≤ ((x3 + 1)).toNatClampNeg)) : pe_E pj_mL 485 [some (.ref 0), some (.ref 1), some (.ref 32), some (.int x3)] [] (pj_SH L, hi, hl) o = pe_E pj_mL 491 [some (.ref 0), some (.ref 1), some (.ref 32), some (.int x3)] [.int (hi 0 ((x3 + 1) : Int32).toNatClampNeg), .ref 1] (pj_SH L, hi, hl) o := (pe_aload_n pr_158_485 rfl).trans ((pe_aload_n pr_158_486 rfl).trans ((pe_iload_n pr_158_487 rfl).trans ((pe_iconst pr_158_488 pc_i1).trans ((pe_iadd pr_158_489).trans (pe_iald pr_158_490 (ps_0 L) c1)))))
set_option maxRecDepth 100000 in
set_option maxHeartbeats 4000000 in
theorem pb_la_law_508 {L : Nat} {hi : Nat → Nat → Int32} {hl : Nat → Nat → Int64} {x3 : Int32} {o : Option Value × pj_H} (c1 : ¬ ((x3 + 1) < 0 ∨ L ≤ ((x3 + 1)).toNatClampNeg)) (c2 : ¬ ((x3 + 2) < 0 ∨ L ≤ ((x3 + 2)).toNatClampNeg)) : pe_E pj_mL 508 [some (.ref 0), some (.ref 1), some (.ref 32), some (.int x3)] [] (pj_SH L, hi, hl) o = pe_E pj_mL 519 [some (.ref 0), some (.ref 1), some (.ref 32), some (.int x3)] [.int (hi 0 ((x3 + 2) : Int32).toNatClampNeg), .int (hi 0 ((x3 + 1) : Int32).toNatClampNeg), .ref 1] (pj_SH L, hi, hl) o := (pe_aload_n pr_158_508 rfl).trans ((pe_aload_n pr_158_509 rfl).trans ((pe_iload_n pr_158_510 rfl).trans ((pe_iconst pr_158_511 pc_i1).trans ((pe_iadd pr_158_512).trans ((pe_iald pr_158_513 (ps_0 L) c1).trans ((pe_aload_n pr_158_514 rfl).trans ((pe_iload_n pr_158_515 rfl).trans ((pe_iconst pr_158_516 pc_i2).trans ((pe_iadd pr_158_517).trans (pe_iald pr_158_518 (ps_0 L) c2))))))))))
set_option maxRecDepth 100000 in
set_option maxHeartbeats 4000000 in
theorem pb_la_law_541 {L : Nat} {hi : Nat → Nat → Int32} {hl : Nat → Nat → Int64} {x3 : Int32} {o : Option Value × pj_H}  : pe_E pj_mL 541 [some (.ref 0), some (.ref 1), some (.ref 32), some (.int x3)] [] (pj_SH L, hi, hl) o = pe_E pj_mL 542 [some (.ref 0), some (.ref 1), some (.ref 32), some (.int x3)] [.ref 1] (pj_SH L, hi, hl) o := pe_aload_n pr_158_541 rfl
set_option maxRecDepth 100000 in
set_option maxHeartbeats 4000000 in
theorem pb_la_law_554 {L : Nat} {hi : Nat → Nat → Int32} {hl : Nat → Nat → Int64} {x3 : Int32} {o : Option Value × pj_H} (c1 : ¬ ((x3 + 1) < 0 ∨ L ≤ ((x3 + 1)).toNatClampNeg)) : pe_E pj_mL 554 [some (.ref 0), some (.ref 1), some (.ref 32), some (.int x3)] [] (pj_SH L, hi, hl) o = pe_E pj_mL 560 [some (.ref 0), some (.ref 1), some (.ref 32), some (.int x3)] [.int (hi 0 ((x3 + 1) : Int32).toNatClampNeg), .ref 1] (pj_SH L, hi, hl) o := (pe_aload_n pr_158_554 rfl).trans ((pe_aload_n pr_158_555 rfl).trans ((pe_iload_n pr_158_556 rfl).trans ((pe_iconst pr_158_557 pc_i1).trans ((pe_iadd pr_158_558).trans (pe_iald pr_158_559 (ps_0 L) c1)))))
set_option maxRecDepth 100000 in
set_option maxHeartbeats 4000000 in
theorem pb_la_law_577 {L : Nat} {hi : Nat → Nat → Int32} {hl : Nat → Nat → Int64} {x3 : Int32} {o : Option Value × pj_H} (c1 : ¬ ((x3 + 1) < 0 ∨ L ≤ ((x3 + 1)).toNatClampNeg)) (c2 : ¬ ((x3 + 2) < 0 ∨ L ≤ ((x3 + 2)).toNatClampNeg)) : pe_E pj_mL 577 [some (.ref 0), some (.ref 1), some (.ref 32), some (.int x3)] [] (pj_SH L, hi, hl) o = pe_E pj_mL 596 [some (.ref 0), some (.ref 1), some (.ref 32), some (.int x3)] [.int (pz (¬ ((hi 0 ((x3 + 2) : Int32).toNatClampNeg) = 0))), .int (hi 0 ((x3 + 1) : Int32).toNatClampNeg), .ref 1] (pj_SH L, hi, hl) o := (pe_aload_n pr_158_577 rfl).trans ((pe_aload_n pr_158_578 rfl).trans ((pe_iload_n pr_158_579 rfl).trans ((pe_iconst pr_158_580 pc_i1).trans ((pe_iadd pr_158_581).trans ((pe_iald pr_158_582 (ps_0 L) c1).trans ((pe_aload_n pr_158_583 rfl).trans ((pe_iload_n pr_158_584 rfl).trans ((pe_iconst pr_158_585 pc_i2).trans ((pe_iadd pr_158_586).trans ((pe_iald pr_158_587 (ps_0 L) c2).trans ((pe_if (t := 595) (c := (hi 0 ((x3 + 2) : Int32).toNatClampNeg) = 0) pr_158_588 rfl rfl).trans (pe_mrg (c := (hi 0 ((x3 + 2) : Int32).toNatClampNeg) = 0) (C := pe_E pj_mL 596 [some (.ref 0), some (.ref 1), some (.ref 32), some (.int x3)] [.int (pz (¬ ((hi 0 ((x3 + 2) : Int32).toNatClampNeg) = 0))), .int (hi 0 ((x3 + 1) : Int32).toNatClampNeg), .ref 1] (pj_SH L, hi, hl) o) (fun h1 => (pe_iconst pr_158_595 pc_i0).trans ((show pe_E pj_mL 596 [some (.ref 0), some (.ref 1), some (.ref 32), some (.int x3)] [.int 0, .int (hi 0 ((x3 + 1) : Int32).toNatClampNeg), .ref 1] (pj_SH L, hi, hl) o = pe_E pj_mL 596 [some (.ref 0), some (.ref 1), some (.ref 32), some (.int x3)] [.int (pz (¬ ((hi 0 ((x3 + 2) : Int32).toNatClampNeg) = 0))), .int (hi 0 ((x3 + 1) : Int32).toNatClampNeg), .ref 1] (pj_SH L, hi, hl) o from by simp only [pz_nt h1]))) (fun h1 => (pe_iconst pr_158_591 pc_i1).trans ((pe_goto (t := 596) pr_158_592 rfl).trans ((show pe_E pj_mL 596 [some (.ref 0), some (.ref 1), some (.ref 32), some (.int x3)] [.int 1, .int (hi 0 ((x3 + 1) : Int32).toNatClampNeg), .ref 1] (pj_SH L, hi, hl) o = pe_E pj_mL 596 [some (.ref 0), some (.ref 1), some (.ref 32), some (.int x3)] [.int (pz (¬ ((hi 0 ((x3 + 2) : Int32).toNatClampNeg) = 0))), .int (hi 0 ((x3 + 1) : Int32).toNatClampNeg), .ref 1] (pj_SH L, hi, hl) o from by simp only [pz_t h1]))))))))))))))))
set_option maxRecDepth 100000 in
set_option maxHeartbeats 4000000 in
theorem pb_la_law_626 {L : Nat} {hi : Nat → Nat → Int32} {hl : Nat → Nat → Int64} {x3 : Int32} {o : Option Value × pj_H}  : pe_E pj_mL 626 [some (.ref 0), some (.ref 1), some (.ref 32), some (.int x3)] [] (pj_SH L, hi, hl) o = pe_E pj_mL 627 [some (.ref 0), some (.ref 1), some (.ref 32), some (.int x3)] [.ref 1] (pj_SH L, hi, hl) o := pe_aload_n pr_158_626 rfl
set_option maxRecDepth 100000 in
set_option maxHeartbeats 4000000 in
theorem pb_la_law_639 {L : Nat} {hi : Nat → Nat → Int32} {hl : Nat → Nat → Int64} {x3 : Int32} {o : Option Value × pj_H} (c1 : ¬ ((x3 + 1) < 0 ∨ L ≤ ((x3 + 1)).toNatClampNeg)) : pe_E pj_mL 639 [some (.ref 0), some (.ref 1), some (.ref 32), some (.int x3)] [] (pj_SH L, hi, hl) o = pe_E pj_mL 645 [some (.ref 0), some (.ref 1), some (.ref 32), some (.int x3)] [.int (hi 0 ((x3 + 1) : Int32).toNatClampNeg), .ref 1] (pj_SH L, hi, hl) o := (pe_aload_n pr_158_639 rfl).trans ((pe_aload_n pr_158_640 rfl).trans ((pe_iload_n pr_158_641 rfl).trans ((pe_iconst pr_158_642 pc_i1).trans ((pe_iadd pr_158_643).trans (pe_iald pr_158_644 (ps_0 L) c1)))))
set_option maxRecDepth 100000 in
set_option maxHeartbeats 4000000 in
theorem pb_la_law_662 {L : Nat} {hi : Nat → Nat → Int32} {hl : Nat → Nat → Int64} {x3 : Int32} {o : Option Value × pj_H} (c1 : ¬ ((x3 + 1) < 0 ∨ L ≤ ((x3 + 1)).toNatClampNeg)) : pe_E pj_mL 662 [some (.ref 0), some (.ref 1), some (.ref 32), some (.int x3)] [] (pj_SH L, hi, hl) o = pe_E pj_mL 668 [some (.ref 0), some (.ref 1), some (.ref 32), some (.int x3)] [.int (hi 0 ((x3 + 1) : Int32).toNatClampNeg), .ref 1] (pj_SH L, hi, hl) o := (pe_aload_n pr_158_662 rfl).trans ((pe_aload_n pr_158_663 rfl).trans ((pe_iload_n pr_158_664 rfl).trans ((pe_iconst pr_158_665 pc_i1).trans ((pe_iadd pr_158_666).trans (pe_iald pr_158_667 (ps_0 L) c1)))))
set_option maxRecDepth 100000 in
set_option maxHeartbeats 4000000 in
theorem pb_la_law_685 {L : Nat} {hi : Nat → Nat → Int32} {hl : Nat → Nat → Int64} {x3 : Int32} {o : Option Value × pj_H} (c1 : ¬ ((x3 + 1) < 0 ∨ L ≤ ((x3 + 1)).toNatClampNeg)) (c2 : ¬ ((x3 + 2) < 0 ∨ L ≤ ((x3 + 2)).toNatClampNeg)) : pe_E pj_mL 685 [some (.ref 0), some (.ref 1), some (.ref 32), some (.int x3)] [] (pj_SH L, hi, hl) o = pe_E pj_mL 696 [some (.ref 0), some (.ref 1), some (.ref 32), some (.int x3)] [.int (hi 0 ((x3 + 2) : Int32).toNatClampNeg), .int (hi 0 ((x3 + 1) : Int32).toNatClampNeg), .ref 1] (pj_SH L, hi, hl) o := (pe_aload_n pr_158_685 rfl).trans ((pe_aload_n pr_158_686 rfl).trans ((pe_iload_n pr_158_687 rfl).trans ((pe_iconst pr_158_688 pc_i1).trans ((pe_iadd pr_158_689).trans ((pe_iald pr_158_690 (ps_0 L) c1).trans ((pe_aload_n pr_158_691 rfl).trans ((pe_iload_n pr_158_692 rfl).trans ((pe_iconst pr_158_693 pc_i2).trans ((pe_iadd pr_158_694).trans (pe_iald pr_158_695 (ps_0 L) c2))))))))))
set_option maxRecDepth 100000 in
set_option maxHeartbeats 4000000 in
theorem pb_la_law_718 {L : Nat} {hi : Nat → Nat → Int32} {hl : Nat → Nat → Int64} {x3 : Int32} {o : Option Value × pj_H} (c1 : ¬ ((x3 + 1) < 0 ∨ L ≤ ((x3 + 1)).toNatClampNeg)) (c2 : ¬ ((x3 + 2) < 0 ∨ L ≤ ((x3 + 2)).toNatClampNeg)) (c3 : ¬ ((x3 + 3) < 0 ∨ L ≤ ((x3 + 3)).toNatClampNeg)) (c4 : ¬ ((x3 + 4) < 0 ∨ L ≤ ((x3 + 4)).toNatClampNeg)) : pe_E pj_mL 718 [some (.ref 0), some (.ref 1), some (.ref 32), some (.int x3)] [] (pj_SH L, hi, hl) o = pe_E pj_mL 739 [some (.ref 0), some (.ref 1), some (.ref 32), some (.int x3)] [.int (hi 0 ((x3 + 4) : Int32).toNatClampNeg), .int (hi 0 ((x3 + 3) : Int32).toNatClampNeg), .int (hi 0 ((x3 + 2) : Int32).toNatClampNeg), .int (hi 0 ((x3 + 1) : Int32).toNatClampNeg), .ref 1] (pj_SH L, hi, hl) o := (pe_aload_n pr_158_718 rfl).trans ((pe_aload_n pr_158_719 rfl).trans ((pe_iload_n pr_158_720 rfl).trans ((pe_iconst pr_158_721 pc_i1).trans ((pe_iadd pr_158_722).trans ((pe_iald pr_158_723 (ps_0 L) c1).trans ((pe_aload_n pr_158_724 rfl).trans ((pe_iload_n pr_158_725 rfl).trans ((pe_iconst pr_158_726 pc_i2).trans ((pe_iadd pr_158_727).trans ((pe_iald pr_158_728 (ps_0 L) c2).trans ((pe_aload_n pr_158_729 rfl).trans ((pe_iload_n pr_158_730 rfl).trans ((pe_iconst pr_158_731 pc_i3).trans ((pe_iadd pr_158_732).trans ((pe_iald pr_158_733 (ps_0 L) c3).trans ((pe_aload_n pr_158_734 rfl).trans ((pe_iload_n pr_158_735 rfl).trans ((pe_iconst pr_158_736 pc_i4).trans ((pe_iadd pr_158_737).trans (pe_iald pr_158_738 (ps_0 L) c4))))))))))))))))))))
set_option maxRecDepth 100000 in
set_option maxHeartbeats 4000000 in
theorem pb_la_law_772 {L : Nat} {hi : Nat → Nat → Int32} {hl : Nat → Nat → Int64} {x3 : Int32} {o : Option Value × pj_H} (c1 : ¬ ((x3 + 1) < 0 ∨ L ≤ ((x3 + 1)).toNatClampNeg)) (c2 : ¬ ((x3 + 2) < 0 ∨ L ≤ ((x3 + 2)).toNatClampNeg)) (c3 : ¬ ((x3 + 3) < 0 ∨ L ≤ ((x3 + 3)).toNatClampNeg)) : pe_E pj_mL 772 [some (.ref 0), some (.ref 1), some (.ref 32), some (.int x3)] [] (pj_SH L, hi, hl) o = pe_E pj_mL 788 [some (.ref 0), some (.ref 1), some (.ref 32), some (.int x3)] [.int (hi 0 ((x3 + 3) : Int32).toNatClampNeg), .int (hi 0 ((x3 + 2) : Int32).toNatClampNeg), .int (hi 0 ((x3 + 1) : Int32).toNatClampNeg), .ref 1] (pj_SH L, hi, hl) o := (pe_aload_n pr_158_772 rfl).trans ((pe_aload_n pr_158_773 rfl).trans ((pe_iload_n pr_158_774 rfl).trans ((pe_iconst pr_158_775 pc_i1).trans ((pe_iadd pr_158_776).trans ((pe_iald pr_158_777 (ps_0 L) c1).trans ((pe_aload_n pr_158_778 rfl).trans ((pe_iload_n pr_158_779 rfl).trans ((pe_iconst pr_158_780 pc_i2).trans ((pe_iadd pr_158_781).trans ((pe_iald pr_158_782 (ps_0 L) c2).trans ((pe_aload_n pr_158_783 rfl).trans ((pe_iload_n pr_158_784 rfl).trans ((pe_iconst pr_158_785 pc_i3).trans ((pe_iadd pr_158_786).trans (pe_iald pr_158_787 (ps_0 L) c3)))))))))))))))
set_option maxRecDepth 100000 in
set_option maxHeartbeats 4000000 in
theorem pb_la_law_815 {L : Nat} {hi : Nat → Nat → Int32} {hl : Nat → Nat → Int64} {x3 : Int32} {o : Option Value × pj_H} (c1 : ¬ ((x3 + 1) < 0 ∨ L ≤ ((x3 + 1)).toNatClampNeg)) : pe_E pj_mL 815 [some (.ref 0), some (.ref 1), some (.ref 32), some (.int x3)] [] (pj_SH L, hi, hl) o = pe_E pj_mL 821 [some (.ref 0), some (.ref 1), some (.ref 32), some (.int x3)] [.int (hi 0 ((x3 + 1) : Int32).toNatClampNeg), .ref 1] (pj_SH L, hi, hl) o := (pe_aload_n pr_158_815 rfl).trans ((pe_aload_n pr_158_816 rfl).trans ((pe_iload_n pr_158_817 rfl).trans ((pe_iconst pr_158_818 pc_i1).trans ((pe_iadd pr_158_819).trans (pe_iald pr_158_820 (ps_0 L) c1)))))
set_option maxRecDepth 100000 in
set_option maxHeartbeats 4000000 in
theorem pb_la_law_838 {L : Nat} {hi : Nat → Nat → Int32} {hl : Nat → Nat → Int64} {x3 : Int32} {o : Option Value × pj_H} (c1 : ¬ ((x3 + 1) < 0 ∨ L ≤ ((x3 + 1)).toNatClampNeg)) : pe_E pj_mL 838 [some (.ref 0), some (.ref 1), some (.ref 32), some (.int x3)] [] (pj_SH L, hi, hl) o = pe_E pj_mL 844 [some (.ref 0), some (.ref 1), some (.ref 32), some (.int x3)] [.int (hi 0 ((x3 + 1) : Int32).toNatClampNeg), .ref 1] (pj_SH L, hi, hl) o := (pe_aload_n pr_158_838 rfl).trans ((pe_aload_n pr_158_839 rfl).trans ((pe_iload_n pr_158_840 rfl).trans ((pe_iconst pr_158_841 pc_i1).trans ((pe_iadd pr_158_842).trans (pe_iald pr_158_843 (ps_0 L) c1)))))
set_option maxRecDepth 100000 in
set_option maxHeartbeats 4000000 in
theorem pb_la_law_861 {L : Nat} {hi : Nat → Nat → Int32} {hl : Nat → Nat → Int64} {x3 : Int32} {o : Option Value × pj_H} (c1 : ¬ ((x3 + 1) < 0 ∨ L ≤ ((x3 + 1)).toNatClampNeg)) : pe_E pj_mL 861 [some (.ref 0), some (.ref 1), some (.ref 32), some (.int x3)] [] (pj_SH L, hi, hl) o = pe_E pj_mL 867 [some (.ref 0), some (.ref 1), some (.ref 32), some (.int x3)] [.int (hi 0 ((x3 + 1) : Int32).toNatClampNeg), .ref 1] (pj_SH L, hi, hl) o := (pe_aload_n pr_158_861 rfl).trans ((pe_aload_n pr_158_862 rfl).trans ((pe_iload_n pr_158_863 rfl).trans ((pe_iconst pr_158_864 pc_i1).trans ((pe_iadd pr_158_865).trans (pe_iald pr_158_866 (ps_0 L) c1)))))
set_option maxRecDepth 100000 in
set_option maxHeartbeats 4000000 in
theorem pb_la_law_884 {L : Nat} {hi : Nat → Nat → Int32} {hl : Nat → Nat → Int64} {x3 : Int32} {o : Option Value × pj_H}  : pe_E pj_mL 884 [some (.ref 0), some (.ref 1), some (.ref 32), some (.int x3)] [] (pj_SH L, hi, hl) o = pe_E pj_mL 18 [some (.ref 0), some (.ref 1), some (.ref 32), some (.int (x3 + 5))] [] (pj_SH L, hi, hl) o := (pe_iinc pr_158_884 rfl pc_i5 rfl).trans (pe_goto (t := 18) pr_158_887 rfl)
set_option maxRecDepth 100000 in
set_option maxHeartbeats 4000000 in
theorem pk_la_law_172 {L : Nat} {hi : Nat → Nat → Int32} {hl : Nat → Nat → Int64} {x3 : Int32} {y0 : Int32} {y1 : Int32} {y2 : Int32} {v : Int32} {h1 : pj_H} {o : Option Value × pj_H} (cc : pe_C pj_m67 [.ref 1, .int y2, .int y1, .int y0] (pj_SH L, hi, hl) (some (.int v)) h1) : pe_E pj_mL 172 [some (.ref 0), some (.ref 1), some (.ref 32), some (.int x3)] [.int y0, .int y1, .int y2, .ref 1] (pj_SH L, hi, hl) o = pe_E pj_mL 175 [some (.ref 0), some (.ref 1), some (.ref 32), some (.int x3)] [.int v] h1 o := pe_callV [.int y2, .int y1, .int y0] [] pr_158_172 pl_ml12013 (pm_67) (Nat.le_of_ble_eq_true rfl) rfl rfl (Nat.le_of_ble_eq_true rfl) (Nat.le_of_ble_eq_true rfl) rfl cc
set_option maxRecDepth 100000 in
set_option maxHeartbeats 4000000 in
theorem pk_la_law_210 {L : Nat} {hi : Nat → Nat → Int32} {hl : Nat → Nat → Int64} {x3 : Int32} {y0 : Int32} {y1 : Int32} {v : Int32} {h1 : pj_H} {o : Option Value × pj_H} (cc : pe_C pj_m68 [.ref 1, .int y1, .int y0] (pj_SH L, hi, hl) (some (.int v)) h1) : pe_E pj_mL 210 [some (.ref 0), some (.ref 1), some (.ref 32), some (.int x3)] [.int y0, .int y1, .ref 1] (pj_SH L, hi, hl) o = pe_E pj_mL 213 [some (.ref 0), some (.ref 1), some (.ref 32), some (.int x3)] [.int v] h1 o := pe_callV [.int y1, .int y0] [] pr_158_210 pl_ml12018 (pm_68) (Nat.le_of_ble_eq_true rfl) rfl rfl (Nat.le_of_ble_eq_true rfl) (Nat.le_of_ble_eq_true rfl) rfl cc
set_option maxRecDepth 100000 in
set_option maxHeartbeats 4000000 in
theorem pk_la_law_243 {L : Nat} {hi : Nat → Nat → Int32} {hl : Nat → Nat → Int64} {x3 : Int32} {y0 : Int32} {y1 : Int32} {v : Int32} {h1 : pj_H} {o : Option Value × pj_H} (cc : pe_C pj_m69 [.ref 1, .int y1, .int y0] (pj_SH L, hi, hl) (some (.int v)) h1) : pe_E pj_mL 243 [some (.ref 0), some (.ref 1), some (.ref 32), some (.int x3)] [.int y0, .int y1, .ref 1] (pj_SH L, hi, hl) o = pe_E pj_mL 246 [some (.ref 0), some (.ref 1), some (.ref 32), some (.int x3)] [.int v] h1 o := pe_callV [.int y1, .int y0] [] pr_158_243 pl_ml12023 (pm_69) (Nat.le_of_ble_eq_true rfl) rfl rfl (Nat.le_of_ble_eq_true rfl) (Nat.le_of_ble_eq_true rfl) rfl cc
set_option maxRecDepth 100000 in
set_option maxHeartbeats 4000000 in
theorem pk_la_law_271 {L : Nat} {hi : Nat → Nat → Int32} {hl : Nat → Nat → Int64} {x3 : Int32} {y0 : Int32} {v : Int32} {h1 : pj_H} {o : Option Value × pj_H} (cc : pe_C pj_m70 [.ref 1, .int y0] (pj_SH L, hi, hl) (some (.int v)) h1) : pe_E pj_mL 271 [some (.ref 0), some (.ref 1), some (.ref 32), some (.int x3)] [.int y0, .ref 1] (pj_SH L, hi, hl) o = pe_E pj_mL 274 [some (.ref 0), some (.ref 1), some (.ref 32), some (.int x3)] [.int v] h1 o := pe_callV [.int y0] [] pr_158_271 pl_ml12027 (pm_70) (Nat.le_of_ble_eq_true rfl) rfl rfl (Nat.le_of_ble_eq_true rfl) (Nat.le_of_ble_eq_true rfl) rfl cc
set_option maxRecDepth 100000 in
set_option maxHeartbeats 4000000 in
theorem pk_la_law_289 {L : Nat} {hi : Nat → Nat → Int32} {hl : Nat → Nat → Int64} {x3 : Int32} {v : Int32} {h1 : pj_H} {o : Option Value × pj_H} (cc : pe_C pj_m71 [.ref 1] (pj_SH L, hi, hl) (some (.int v)) h1) : pe_E pj_mL 289 [some (.ref 0), some (.ref 1), some (.ref 32), some (.int x3)] [.ref 1] (pj_SH L, hi, hl) o = pe_E pj_mL 292 [some (.ref 0), some (.ref 1), some (.ref 32), some (.int x3)] [.int v] h1 o := pe_callV [] [] pr_158_289 pl_ml12032 (pm_71) (Nat.le_of_ble_eq_true rfl) rfl rfl (Nat.le_of_ble_eq_true rfl) (Nat.le_of_ble_eq_true rfl) rfl cc
set_option maxRecDepth 100000 in
set_option maxHeartbeats 4000000 in
theorem pk_la_law_302 {L : Nat} {hi : Nat → Nat → Int32} {hl : Nat → Nat → Int64} {x3 : Int32} {v : Int32} {h1 : pj_H} {o : Option Value × pj_H} (cc : pe_C pj_m72 [.ref 1] (pj_SH L, hi, hl) (some (.int v)) h1) : pe_E pj_mL 302 [some (.ref 0), some (.ref 1), some (.ref 32), some (.int x3)] [.ref 1] (pj_SH L, hi, hl) o = pe_E pj_mL 305 [some (.ref 0), some (.ref 1), some (.ref 32), some (.int x3)] [.int v] h1 o := pe_callV [] [] pr_158_302 pl_ml12037 (pm_72) (Nat.le_of_ble_eq_true rfl) rfl rfl (Nat.le_of_ble_eq_true rfl) (Nat.le_of_ble_eq_true rfl) rfl cc
set_option maxRecDepth 100000 in
set_option maxHeartbeats 4000000 in
theorem pk_la_law_320 {L : Nat} {hi : Nat → Nat → Int32} {hl : Nat → Nat → Int64} {x3 : Int32} {y0 : Int32} {v : Int32} {h1 : pj_H} {o : Option Value × pj_H} (cc : pe_C pj_m73 [.ref 1, .int y0] (pj_SH L, hi, hl) (some (.int v)) h1) : pe_E pj_mL 320 [some (.ref 0), some (.ref 1), some (.ref 32), some (.int x3)] [.int y0, .ref 1] (pj_SH L, hi, hl) o = pe_E pj_mL 323 [some (.ref 0), some (.ref 1), some (.ref 32), some (.int x3)] [.int v] h1 o := pe_callV [.int y0] [] pr_158_320 pl_ml12041 (pm_73) (Nat.le_of_ble_eq_true rfl) rfl rfl (Nat.le_of_ble_eq_true rfl) (Nat.le_of_ble_eq_true rfl) rfl cc
set_option maxRecDepth 100000 in
set_option maxHeartbeats 4000000 in
theorem pk_la_law_338 {L : Nat} {hi : Nat → Nat → Int32} {hl : Nat → Nat → Int64} {x3 : Int32} {v : Int32} {h1 : pj_H} {o : Option Value × pj_H} (cc : pe_C pj_m74 [.ref 1] (pj_SH L, hi, hl) (some (.int v)) h1) : pe_E pj_mL 338 [some (.ref 0), some (.ref 1), some (.ref 32), some (.int x3)] [.ref 1] (pj_SH L, hi, hl) o = pe_E pj_mL 341 [some (.ref 0), some (.ref 1), some (.ref 32), some (.int x3)] [.int v] h1 o := pe_callV [] [] pr_158_338 pl_ml12045 (pm_74) (Nat.le_of_ble_eq_true rfl) rfl rfl (Nat.le_of_ble_eq_true rfl) (Nat.le_of_ble_eq_true rfl) rfl cc
set_option maxRecDepth 100000 in
set_option maxHeartbeats 4000000 in
theorem pk_la_law_361 {L : Nat} {hi : Nat → Nat → Int32} {hl : Nat → Nat → Int64} {x3 : Int32} {y0 : Int32} {y1 : Int32} {v : Int32} {h1 : pj_H} {o : Option Value × pj_H} (cc : pe_C pj_m75 [.ref 1, .int y1, .int y0] (pj_SH L, hi, hl) (some (.int v)) h1) : pe_E pj_mL 361 [some (.ref 0), some (.ref 1), some (.ref 32), some (.int x3)] [.int y0, .int y1, .ref 1] (pj_SH L, hi, hl) o = pe_E pj_mL 364 [some (.ref 0), some (.ref 1), some (.ref 32), some (.int x3)] [.int v] h1 o := pe_callV [.int y1, .int y0] [] pr_158_361 pl_ml12049 (pm_75) (Nat.le_of_ble_eq_true rfl) rfl rfl (Nat.le_of_ble_eq_true rfl) (Nat.le_of_ble_eq_true rfl) rfl cc
set_option maxRecDepth 100000 in
set_option maxHeartbeats 4000000 in
theorem pk_la_law_389 {L : Nat} {hi : Nat → Nat → Int32} {hl : Nat → Nat → Int64} {x3 : Int32} {y0 : Int32} {v : Int32} {h1 : pj_H} {o : Option Value × pj_H} (cc : pe_C pj_m76 [.ref 1, .int y0] (pj_SH L, hi, hl) (some (.int v)) h1) : pe_E pj_mL 389 [some (.ref 0), some (.ref 1), some (.ref 32), some (.int x3)] [.int y0, .ref 1] (pj_SH L, hi, hl) o = pe_E pj_mL 392 [some (.ref 0), some (.ref 1), some (.ref 32), some (.int x3)] [.int v] h1 o := pe_callV [.int y0] [] pr_158_389 pl_ml12053 (pm_76) (Nat.le_of_ble_eq_true rfl) rfl rfl (Nat.le_of_ble_eq_true rfl) (Nat.le_of_ble_eq_true rfl) rfl cc
set_option maxRecDepth 100000 in
set_option maxHeartbeats 4000000 in
theorem pk_la_law_412 {L : Nat} {hi : Nat → Nat → Int32} {hl : Nat → Nat → Int64} {x3 : Int32} {y0 : Int32} {v : Int32} {h1 : pj_H} {o : Option Value × pj_H} (cc : pe_C pj_m77 [.ref 1, .int y0] (pj_SH L, hi, hl) (some (.int v)) h1) : pe_E pj_mL 412 [some (.ref 0), some (.ref 1), some (.ref 32), some (.int x3)] [.int y0, .ref 1] (pj_SH L, hi, hl) o = pe_E pj_mL 415 [some (.ref 0), some (.ref 1), some (.ref 32), some (.int x3)] [.int v] h1 o := pe_callV [.int y0] [] pr_158_412 pl_ml12057 (pm_77) (Nat.le_of_ble_eq_true rfl) rfl rfl (Nat.le_of_ble_eq_true rfl) (Nat.le_of_ble_eq_true rfl) rfl cc
set_option maxRecDepth 100000 in
set_option maxHeartbeats 4000000 in
theorem pk_la_law_440 {L : Nat} {hi : Nat → Nat → Int32} {hl : Nat → Nat → Int64} {x3 : Int32} {y0 : Int32} {y1 : Int32} {v : Int32} {h1 : pj_H} {o : Option Value × pj_H} (cc : pe_C pj_m78 [.ref 1, .int y1, .int y0] (pj_SH L, hi, hl) (some (.int v)) h1) : pe_E pj_mL 440 [some (.ref 0), some (.ref 1), some (.ref 32), some (.int x3)] [.int y0, .int y1, .ref 1] (pj_SH L, hi, hl) o = pe_E pj_mL 443 [some (.ref 0), some (.ref 1), some (.ref 32), some (.int x3)] [.int v] h1 o := pe_callV [.int y1, .int y0] [] pr_158_440 pl_ml12061 (pm_78) (Nat.le_of_ble_eq_true rfl) rfl rfl (Nat.le_of_ble_eq_true rfl) (Nat.le_of_ble_eq_true rfl) rfl cc
set_option maxRecDepth 100000 in
set_option maxHeartbeats 4000000 in
theorem pk_la_law_468 {L : Nat} {hi : Nat → Nat → Int32} {hl : Nat → Nat → Int64} {x3 : Int32} {y0 : Int32} {v : Int32} {h1 : pj_H} {o : Option Value × pj_H} (cc : pe_C pj_m79 [.ref 1, .int y0] (pj_SH L, hi, hl) (some (.int v)) h1) : pe_E pj_mL 468 [some (.ref 0), some (.ref 1), some (.ref 32), some (.int x3)] [.int y0, .ref 1] (pj_SH L, hi, hl) o = pe_E pj_mL 471 [some (.ref 0), some (.ref 1), some (.ref 32), some (.int x3)] [.int v] h1 o := pe_callV [.int y0] [] pr_158_468 pl_ml12065 (pm_79) (Nat.le_of_ble_eq_true rfl) rfl rfl (Nat.le_of_ble_eq_true rfl) (Nat.le_of_ble_eq_true rfl) rfl cc
set_option maxRecDepth 100000 in
set_option maxHeartbeats 4000000 in
theorem pk_la_law_491 {L : Nat} {hi : Nat → Nat → Int32} {hl : Nat → Nat → Int64} {x3 : Int32} {y0 : Int32} {v : Int32} {h1 : pj_H} {o : Option Value × pj_H} (cc : pe_C pj_m80 [.ref 1, .int y0] (pj_SH L, hi, hl) (some (.int v)) h1) : pe_E pj_mL 491 [some (.ref 0), some (.ref 1), some (.ref 32), some (.int x3)] [.int y0, .ref 1] (pj_SH L, hi, hl) o = pe_E pj_mL 494 [some (.ref 0), some (.ref 1), some (.ref 32), some (.int x3)] [.int v] h1 o := pe_callV [.int y0] [] pr_158_491 pl_ml12069 (pm_80) (Nat.le_of_ble_eq_true rfl) rfl rfl (Nat.le_of_ble_eq_true rfl) (Nat.le_of_ble_eq_true rfl) rfl cc
set_option maxRecDepth 100000 in
set_option maxHeartbeats 4000000 in
theorem pk_la_law_519 {L : Nat} {hi : Nat → Nat → Int32} {hl : Nat → Nat → Int64} {x3 : Int32} {y0 : Int32} {y1 : Int32} {v : Int32} {h1 : pj_H} {o : Option Value × pj_H} (cc : pe_C pj_m81 [.ref 1, .int y1, .int y0] (pj_SH L, hi, hl) (some (.int v)) h1) : pe_E pj_mL 519 [some (.ref 0), some (.ref 1), some (.ref 32), some (.int x3)] [.int y0, .int y1, .ref 1] (pj_SH L, hi, hl) o = pe_E pj_mL 522 [some (.ref 0), some (.ref 1), some (.ref 32), some (.int x3)] [.int v] h1 o := pe_callV [.int y1, .int y0] [] pr_158_519 pl_ml12073 (pm_81) (Nat.le_of_ble_eq_true rfl) rfl rfl (Nat.le_of_ble_eq_true rfl) (Nat.le_of_ble_eq_true rfl) rfl cc
set_option maxRecDepth 100000 in
set_option maxHeartbeats 4000000 in
theorem pk_la_law_542 {L : Nat} {hi : Nat → Nat → Int32} {hl : Nat → Nat → Int64} {x3 : Int32} {v : Int32} {h1 : pj_H} {o : Option Value × pj_H} (cc : pe_C pj_m82 [.ref 1] (pj_SH L, hi, hl) (some (.int v)) h1) : pe_E pj_mL 542 [some (.ref 0), some (.ref 1), some (.ref 32), some (.int x3)] [.ref 1] (pj_SH L, hi, hl) o = pe_E pj_mL 545 [some (.ref 0), some (.ref 1), some (.ref 32), some (.int x3)] [.int v] h1 o := pe_callV [] [] pr_158_542 pl_ml12077 (pm_82) (Nat.le_of_ble_eq_true rfl) rfl rfl (Nat.le_of_ble_eq_true rfl) (Nat.le_of_ble_eq_true rfl) rfl cc
set_option maxRecDepth 100000 in
set_option maxHeartbeats 4000000 in
theorem pk_la_law_560 {L : Nat} {hi : Nat → Nat → Int32} {hl : Nat → Nat → Int64} {x3 : Int32} {y0 : Int32} {v : Int32} {h1 : pj_H} {o : Option Value × pj_H} (cc : pe_C pj_m83 [.ref 1, .int y0] (pj_SH L, hi, hl) (some (.int v)) h1) : pe_E pj_mL 560 [some (.ref 0), some (.ref 1), some (.ref 32), some (.int x3)] [.int y0, .ref 1] (pj_SH L, hi, hl) o = pe_E pj_mL 563 [some (.ref 0), some (.ref 1), some (.ref 32), some (.int x3)] [.int v] h1 o := pe_callV [.int y0] [] pr_158_560 pl_ml12081 (pm_83) (Nat.le_of_ble_eq_true rfl) rfl rfl (Nat.le_of_ble_eq_true rfl) (Nat.le_of_ble_eq_true rfl) rfl cc
set_option maxRecDepth 100000 in
set_option maxHeartbeats 4000000 in
theorem pk_la_law_596 {L : Nat} {hi : Nat → Nat → Int32} {hl : Nat → Nat → Int64} {x3 : Int32} {y0 : Int32} {y1 : Int32} {v : Int32} {h1 : pj_H} {o : Option Value × pj_H} (cc : pe_C pj_m84 [.ref 1, .int y1, .int y0] (pj_SH L, hi, hl) (some (.int v)) h1) : pe_E pj_mL 596 [some (.ref 0), some (.ref 1), some (.ref 32), some (.int x3)] [.int y0, .int y1, .ref 1] (pj_SH L, hi, hl) o = pe_E pj_mL 599 [some (.ref 0), some (.ref 1), some (.ref 32), some (.int x3)] [.int v] h1 o := pe_callV [.int y1, .int y0] [] pr_158_596 pl_ml12085 (pm_84) (Nat.le_of_ble_eq_true rfl) rfl rfl (Nat.le_of_ble_eq_true rfl) (Nat.le_of_ble_eq_true rfl) rfl cc
set_option maxRecDepth 100000 in
set_option maxHeartbeats 4000000 in
theorem pk_la_law_627 {L : Nat} {hi : Nat → Nat → Int32} {hl : Nat → Nat → Int64} {x3 : Int32} {v : Int32} {h1 : pj_H} {o : Option Value × pj_H} (cc : pe_C pj_m85 [.ref 1] (pj_SH L, hi, hl) (some (.int v)) h1) : pe_E pj_mL 627 [some (.ref 0), some (.ref 1), some (.ref 32), some (.int x3)] [.ref 1] (pj_SH L, hi, hl) o = pe_E pj_mL 630 [some (.ref 0), some (.ref 1), some (.ref 32), some (.int x3)] [.int v] h1 o := pe_callV [] [] pr_158_627 pl_ml12090 (pm_85) (Nat.le_of_ble_eq_true rfl) rfl rfl (Nat.le_of_ble_eq_true rfl) (Nat.le_of_ble_eq_true rfl) rfl cc
set_option maxRecDepth 100000 in
set_option maxHeartbeats 4000000 in
theorem pk_la_law_645 {L : Nat} {hi : Nat → Nat → Int32} {hl : Nat → Nat → Int64} {x3 : Int32} {y0 : Int32} {v : Int32} {h1 : pj_H} {o : Option Value × pj_H} (cc : pe_C pj_m86 [.ref 1, .int y0] (pj_SH L, hi, hl) (some (.int v)) h1) : pe_E pj_mL 645 [some (.ref 0), some (.ref 1), some (.ref 32), some (.int x3)] [.int y0, .ref 1] (pj_SH L, hi, hl) o = pe_E pj_mL 648 [some (.ref 0), some (.ref 1), some (.ref 32), some (.int x3)] [.int v] h1 o := pe_callV [.int y0] [] pr_158_645 pl_ml12094 (pm_86) (Nat.le_of_ble_eq_true rfl) rfl rfl (Nat.le_of_ble_eq_true rfl) (Nat.le_of_ble_eq_true rfl) rfl cc
set_option maxRecDepth 100000 in
set_option maxHeartbeats 4000000 in
theorem pk_la_law_668 {L : Nat} {hi : Nat → Nat → Int32} {hl : Nat → Nat → Int64} {x3 : Int32} {y0 : Int32} {v : Int32} {h1 : pj_H} {o : Option Value × pj_H} (cc : pe_C pj_m87 [.ref 1, .int y0] (pj_SH L, hi, hl) (some (.int v)) h1) : pe_E pj_mL 668 [some (.ref 0), some (.ref 1), some (.ref 32), some (.int x3)] [.int y0, .ref 1] (pj_SH L, hi, hl) o = pe_E pj_mL 671 [some (.ref 0), some (.ref 1), some (.ref 32), some (.int x3)] [.int v] h1 o := pe_callV [.int y0] [] pr_158_668 pl_ml12098 (pm_87) (Nat.le_of_ble_eq_true rfl) rfl rfl (Nat.le_of_ble_eq_true rfl) (Nat.le_of_ble_eq_true rfl) rfl cc
set_option maxRecDepth 100000 in
set_option maxHeartbeats 4000000 in
theorem pk_la_law_696 {L : Nat} {hi : Nat → Nat → Int32} {hl : Nat → Nat → Int64} {x3 : Int32} {y0 : Int32} {y1 : Int32} {v : Int32} {h1 : pj_H} {o : Option Value × pj_H} (cc : pe_C pj_m88 [.ref 1, .int y1, .int y0] (pj_SH L, hi, hl) (some (.int v)) h1) : pe_E pj_mL 696 [some (.ref 0), some (.ref 1), some (.ref 32), some (.int x3)] [.int y0, .int y1, .ref 1] (pj_SH L, hi, hl) o = pe_E pj_mL 699 [some (.ref 0), some (.ref 1), some (.ref 32), some (.int x3)] [.int v] h1 o := pe_callV [.int y1, .int y0] [] pr_158_696 pl_ml12102 (pm_88) (Nat.le_of_ble_eq_true rfl) rfl rfl (Nat.le_of_ble_eq_true rfl) (Nat.le_of_ble_eq_true rfl) rfl cc
set_option maxRecDepth 100000 in
set_option maxHeartbeats 4000000 in
theorem pk_la_law_739 {L : Nat} {hi : Nat → Nat → Int32} {hl : Nat → Nat → Int64} {x3 : Int32} {y0 : Int32} {y1 : Int32} {y2 : Int32} {y3 : Int32} {v : Int64} {h1 : pj_H} {o : Option Value × pj_H} (cc : pe_C pj_m89 [.ref 1, .int y3, .int y2, .int y1, .int y0] (pj_SH L, hi, hl) (some (.long v)) h1) : pe_E pj_mL 739 [some (.ref 0), some (.ref 1), some (.ref 32), some (.int x3)] [.int y0, .int y1, .int y2, .int y3, .ref 1] (pj_SH L, hi, hl) o = pe_E pj_mL 742 [some (.ref 0), some (.ref 1), some (.ref 32), some (.int x3)] [.long v] h1 o := pe_callV [.int y3, .int y2, .int y1, .int y0] [] pr_158_739 pl_ml12106 (pm_89) (Nat.le_of_ble_eq_true rfl) rfl rfl (Nat.le_of_ble_eq_true rfl) (Nat.le_of_ble_eq_true rfl) rfl cc
set_option maxRecDepth 100000 in
set_option maxHeartbeats 4000000 in
theorem pk_la_law_788 {L : Nat} {hi : Nat → Nat → Int32} {hl : Nat → Nat → Int64} {x3 : Int32} {y0 : Int32} {y1 : Int32} {y2 : Int32} {v : Int32} {h1 : pj_H} {o : Option Value × pj_H} (cc : pe_C pj_m90 [.ref 1, .int y2, .int y1, .int y0] (pj_SH L, hi, hl) (some (.int v)) h1) : pe_E pj_mL 788 [some (.ref 0), some (.ref 1), some (.ref 32), some (.int x3)] [.int y0, .int y1, .int y2, .ref 1] (pj_SH L, hi, hl) o = pe_E pj_mL 791 [some (.ref 0), some (.ref 1), some (.ref 32), some (.int x3)] [.int v] h1 o := pe_callV [.int y2, .int y1, .int y0] [] pr_158_788 pl_ml12111 (pm_90) (Nat.le_of_ble_eq_true rfl) rfl rfl (Nat.le_of_ble_eq_true rfl) (Nat.le_of_ble_eq_true rfl) rfl cc
set_option maxRecDepth 100000 in
set_option maxHeartbeats 4000000 in
theorem pk_la_law_821 {L : Nat} {hi : Nat → Nat → Int32} {hl : Nat → Nat → Int64} {x3 : Int32} {y0 : Int32} {v : Int32} {h1 : pj_H} {o : Option Value × pj_H} (cc : pe_C pj_m91 [.ref 1, .int y0] (pj_SH L, hi, hl) (some (.int v)) h1) : pe_E pj_mL 821 [some (.ref 0), some (.ref 1), some (.ref 32), some (.int x3)] [.int y0, .ref 1] (pj_SH L, hi, hl) o = pe_E pj_mL 824 [some (.ref 0), some (.ref 1), some (.ref 32), some (.int x3)] [.int v] h1 o := pe_callV [.int y0] [] pr_158_821 pl_ml12115 (pm_91) (Nat.le_of_ble_eq_true rfl) rfl rfl (Nat.le_of_ble_eq_true rfl) (Nat.le_of_ble_eq_true rfl) rfl cc
set_option maxRecDepth 100000 in
set_option maxHeartbeats 4000000 in
theorem pk_la_law_844 {L : Nat} {hi : Nat → Nat → Int32} {hl : Nat → Nat → Int64} {x3 : Int32} {y0 : Int32} {v : Int32} {h1 : pj_H} {o : Option Value × pj_H} (cc : pe_C pj_m92 [.ref 1, .int y0] (pj_SH L, hi, hl) (some (.int v)) h1) : pe_E pj_mL 844 [some (.ref 0), some (.ref 1), some (.ref 32), some (.int x3)] [.int y0, .ref 1] (pj_SH L, hi, hl) o = pe_E pj_mL 847 [some (.ref 0), some (.ref 1), some (.ref 32), some (.int x3)] [.int v] h1 o := pe_callV [.int y0] [] pr_158_844 pl_ml12119 (pm_92) (Nat.le_of_ble_eq_true rfl) rfl rfl (Nat.le_of_ble_eq_true rfl) (Nat.le_of_ble_eq_true rfl) rfl cc
set_option maxRecDepth 100000 in
set_option maxHeartbeats 4000000 in
theorem pk_la_law_867 {L : Nat} {hi : Nat → Nat → Int32} {hl : Nat → Nat → Int64} {x3 : Int32} {y0 : Int32} {v : Int32} {h1 : pj_H} {o : Option Value × pj_H} (cc : pe_C pj_m93 [.ref 1, .int y0] (pj_SH L, hi, hl) (some (.int v)) h1) : pe_E pj_mL 867 [some (.ref 0), some (.ref 1), some (.ref 32), some (.int x3)] [.int y0, .ref 1] (pj_SH L, hi, hl) o = pe_E pj_mL 870 [some (.ref 0), some (.ref 1), some (.ref 32), some (.int x3)] [.int v] h1 o := pe_callV [.int y0] [] pr_158_867 pl_ml12123 (pm_93) (Nat.le_of_ble_eq_true rfl) rfl rfl (Nat.le_of_ble_eq_true rfl) (Nat.le_of_ble_eq_true rfl) rfl cc
set_option maxRecDepth 100000 in
set_option maxHeartbeats 4000000 in
theorem pb_la_law_175 {L : Nat} {hi : Nat → Nat → Int32} {hl : Nat → Nat → Int64} {x3 : Int32} {y0 : Int32} {o : Option Value × pj_H} (c1 : ¬ ((x3 + 1) < 0 ∨ L ≤ ((x3 + 1)).toNatClampNeg)) (c2 : ¬ ((x3 + 2) < 0 ∨ L ≤ ((x3 + 2)).toNatClampNeg)) (c3 : ¬ ((x3 + 3) < 0 ∨ L ≤ ((x3 + 3)).toNatClampNeg)) : pe_E pj_mL 175 [some (.ref 0), some (.ref 1), some (.ref 32), some (.int x3)] [.int y0] (pj_SH L, hi, hl) o = pe_E pj_mL 191 [some (.ref 0), some (.ref 1), some (.ref 32), some (.int x3)] [.int (hi 0 ((x3 + 3) : Int32).toNatClampNeg), .int (hi 0 ((x3 + 2) : Int32).toNatClampNeg), .int (hi 0 ((x3 + 1) : Int32).toNatClampNeg), .ref 32, .int y0] (pj_SH L, hi, hl) o := (pe_aload_n pr_158_175 rfl).trans ((pe_aload_n pr_158_176 rfl).trans ((pe_iload_n pr_158_177 rfl).trans ((pe_iconst pr_158_178 pc_i1).trans ((pe_iadd pr_158_179).trans ((pe_iald pr_158_180 (ps_0 L) c1).trans ((pe_aload_n pr_158_181 rfl).trans ((pe_iload_n pr_158_182 rfl).trans ((pe_iconst pr_158_183 pc_i2).trans ((pe_iadd pr_158_184).trans ((pe_iald pr_158_185 (ps_0 L) c2).trans ((pe_aload_n pr_158_186 rfl).trans ((pe_iload_n pr_158_187 rfl).trans ((pe_iconst pr_158_188 pc_i3).trans ((pe_iadd pr_158_189).trans (pe_iald pr_158_190 (ps_0 L) c3)))))))))))))))
set_option maxRecDepth 100000 in
set_option maxHeartbeats 4000000 in
theorem pb_la_law_213 {L : Nat} {hi : Nat → Nat → Int32} {hl : Nat → Nat → Int64} {x3 : Int32} {y0 : Int32} {o : Option Value × pj_H} (c1 : ¬ ((x3 + 1) < 0 ∨ L ≤ ((x3 + 1)).toNatClampNeg)) (c2 : ¬ ((x3 + 2) < 0 ∨ L ≤ ((x3 + 2)).toNatClampNeg)) : pe_E pj_mL 213 [some (.ref 0), some (.ref 1), some (.ref 32), some (.int x3)] [.int y0] (pj_SH L, hi, hl) o = pe_E pj_mL 224 [some (.ref 0), some (.ref 1), some (.ref 32), some (.int x3)] [.int (hi 0 ((x3 + 2) : Int32).toNatClampNeg), .int (hi 0 ((x3 + 1) : Int32).toNatClampNeg), .ref 32, .int y0] (pj_SH L, hi, hl) o := (pe_aload_n pr_158_213 rfl).trans ((pe_aload_n pr_158_214 rfl).trans ((pe_iload_n pr_158_215 rfl).trans ((pe_iconst pr_158_216 pc_i1).trans ((pe_iadd pr_158_217).trans ((pe_iald pr_158_218 (ps_0 L) c1).trans ((pe_aload_n pr_158_219 rfl).trans ((pe_iload_n pr_158_220 rfl).trans ((pe_iconst pr_158_221 pc_i2).trans ((pe_iadd pr_158_222).trans (pe_iald pr_158_223 (ps_0 L) c2))))))))))
set_option maxRecDepth 100000 in
set_option maxHeartbeats 4000000 in
theorem pb_la_law_246 {L : Nat} {hi : Nat → Nat → Int32} {hl : Nat → Nat → Int64} {x3 : Int32} {y0 : Int32} {o : Option Value × pj_H} (c1 : ¬ ((x3 + 1) < 0 ∨ L ≤ ((x3 + 1)).toNatClampNeg)) (c2 : ¬ ((x3 + 2) < 0 ∨ L ≤ ((x3 + 2)).toNatClampNeg)) : pe_E pj_mL 246 [some (.ref 0), some (.ref 1), some (.ref 32), some (.int x3)] [.int y0] (pj_SH L, hi, hl) o = pe_E pj_mL 257 [some (.ref 0), some (.ref 1), some (.ref 32), some (.int x3)] [.int (hi 0 ((x3 + 2) : Int32).toNatClampNeg), .int (hi 0 ((x3 + 1) : Int32).toNatClampNeg), .ref 32, .int y0] (pj_SH L, hi, hl) o := (pe_aload_n pr_158_246 rfl).trans ((pe_aload_n pr_158_247 rfl).trans ((pe_iload_n pr_158_248 rfl).trans ((pe_iconst pr_158_249 pc_i1).trans ((pe_iadd pr_158_250).trans ((pe_iald pr_158_251 (ps_0 L) c1).trans ((pe_aload_n pr_158_252 rfl).trans ((pe_iload_n pr_158_253 rfl).trans ((pe_iconst pr_158_254 pc_i2).trans ((pe_iadd pr_158_255).trans (pe_iald pr_158_256 (ps_0 L) c2))))))))))
set_option maxRecDepth 100000 in
set_option maxHeartbeats 4000000 in
theorem pb_la_law_274 {L : Nat} {hi : Nat → Nat → Int32} {hl : Nat → Nat → Int64} {x3 : Int32} {y0 : Int32} {o : Option Value × pj_H} (c1 : ¬ ((x3 + 1) < 0 ∨ L ≤ ((x3 + 1)).toNatClampNeg)) : pe_E pj_mL 274 [some (.ref 0), some (.ref 1), some (.ref 32), some (.int x3)] [.int y0] (pj_SH L, hi, hl) o = pe_E pj_mL 280 [some (.ref 0), some (.ref 1), some (.ref 32), some (.int x3)] [.int (hi 0 ((x3 + 1) : Int32).toNatClampNeg), .ref 32, .int y0] (pj_SH L, hi, hl) o := (pe_aload_n pr_158_274 rfl).trans ((pe_aload_n pr_158_275 rfl).trans ((pe_iload_n pr_158_276 rfl).trans ((pe_iconst pr_158_277 pc_i1).trans ((pe_iadd pr_158_278).trans (pe_iald pr_158_279 (ps_0 L) c1)))))
set_option maxRecDepth 100000 in
set_option maxHeartbeats 4000000 in
theorem pb_la_law_292 {L : Nat} {hi : Nat → Nat → Int32} {hl : Nat → Nat → Int64} {x3 : Int32} {y0 : Int32} {o : Option Value × pj_H}  : pe_E pj_mL 292 [some (.ref 0), some (.ref 1), some (.ref 32), some (.int x3)] [.int y0] (pj_SH L, hi, hl) o = pe_E pj_mL 293 [some (.ref 0), some (.ref 1), some (.ref 32), some (.int x3)] [.ref 32, .int y0] (pj_SH L, hi, hl) o := pe_aload_n pr_158_292 rfl
set_option maxRecDepth 100000 in
set_option maxHeartbeats 4000000 in
theorem pb_la_law_305 {L : Nat} {hi : Nat → Nat → Int32} {hl : Nat → Nat → Int64} {x3 : Int32} {y0 : Int32} {o : Option Value × pj_H}  : pe_E pj_mL 305 [some (.ref 0), some (.ref 1), some (.ref 32), some (.int x3)] [.int y0] (pj_SH L, hi, hl) o = pe_E pj_mL 306 [some (.ref 0), some (.ref 1), some (.ref 32), some (.int x3)] [.ref 32, .int y0] (pj_SH L, hi, hl) o := pe_aload_n pr_158_305 rfl
set_option maxRecDepth 100000 in
set_option maxHeartbeats 4000000 in
theorem pb_la_law_323 {L : Nat} {hi : Nat → Nat → Int32} {hl : Nat → Nat → Int64} {x3 : Int32} {y0 : Int32} {o : Option Value × pj_H} (c1 : ¬ ((x3 + 1) < 0 ∨ L ≤ ((x3 + 1)).toNatClampNeg)) : pe_E pj_mL 323 [some (.ref 0), some (.ref 1), some (.ref 32), some (.int x3)] [.int y0] (pj_SH L, hi, hl) o = pe_E pj_mL 329 [some (.ref 0), some (.ref 1), some (.ref 32), some (.int x3)] [.int (hi 0 ((x3 + 1) : Int32).toNatClampNeg), .ref 32, .int y0] (pj_SH L, hi, hl) o := (pe_aload_n pr_158_323 rfl).trans ((pe_aload_n pr_158_324 rfl).trans ((pe_iload_n pr_158_325 rfl).trans ((pe_iconst pr_158_326 pc_i1).trans ((pe_iadd pr_158_327).trans (pe_iald pr_158_328 (ps_0 L) c1)))))
set_option maxRecDepth 100000 in
set_option maxHeartbeats 4000000 in
theorem pb_la_law_341 {L : Nat} {hi : Nat → Nat → Int32} {hl : Nat → Nat → Int64} {x3 : Int32} {y0 : Int32} {o : Option Value × pj_H}  : pe_E pj_mL 341 [some (.ref 0), some (.ref 1), some (.ref 32), some (.int x3)] [.int y0] (pj_SH L, hi, hl) o = pe_E pj_mL 342 [some (.ref 0), some (.ref 1), some (.ref 32), some (.int x3)] [.ref 32, .int y0] (pj_SH L, hi, hl) o := pe_aload_n pr_158_341 rfl
set_option maxRecDepth 100000 in
set_option maxHeartbeats 4000000 in
theorem pb_la_law_364 {L : Nat} {hi : Nat → Nat → Int32} {hl : Nat → Nat → Int64} {x3 : Int32} {y0 : Int32} {o : Option Value × pj_H} (c1 : ¬ ((x3 + 1) < 0 ∨ L ≤ ((x3 + 1)).toNatClampNeg)) (c2 : ¬ ((x3 + 2) < 0 ∨ L ≤ ((x3 + 2)).toNatClampNeg)) : pe_E pj_mL 364 [some (.ref 0), some (.ref 1), some (.ref 32), some (.int x3)] [.int y0] (pj_SH L, hi, hl) o = pe_E pj_mL 375 [some (.ref 0), some (.ref 1), some (.ref 32), some (.int x3)] [.int (hi 0 ((x3 + 2) : Int32).toNatClampNeg), .int (hi 0 ((x3 + 1) : Int32).toNatClampNeg), .ref 32, .int y0] (pj_SH L, hi, hl) o := (pe_aload_n pr_158_364 rfl).trans ((pe_aload_n pr_158_365 rfl).trans ((pe_iload_n pr_158_366 rfl).trans ((pe_iconst pr_158_367 pc_i1).trans ((pe_iadd pr_158_368).trans ((pe_iald pr_158_369 (ps_0 L) c1).trans ((pe_aload_n pr_158_370 rfl).trans ((pe_iload_n pr_158_371 rfl).trans ((pe_iconst pr_158_372 pc_i2).trans ((pe_iadd pr_158_373).trans (pe_iald pr_158_374 (ps_0 L) c2))))))))))
set_option maxRecDepth 100000 in
set_option maxHeartbeats 4000000 in
theorem pb_la_law_392 {L : Nat} {hi : Nat → Nat → Int32} {hl : Nat → Nat → Int64} {x3 : Int32} {y0 : Int32} {o : Option Value × pj_H} (c1 : ¬ ((x3 + 1) < 0 ∨ L ≤ ((x3 + 1)).toNatClampNeg)) : pe_E pj_mL 392 [some (.ref 0), some (.ref 1), some (.ref 32), some (.int x3)] [.int y0] (pj_SH L, hi, hl) o = pe_E pj_mL 398 [some (.ref 0), some (.ref 1), some (.ref 32), some (.int x3)] [.int (hi 0 ((x3 + 1) : Int32).toNatClampNeg), .ref 32, .int y0] (pj_SH L, hi, hl) o := (pe_aload_n pr_158_392 rfl).trans ((pe_aload_n pr_158_393 rfl).trans ((pe_iload_n pr_158_394 rfl).trans ((pe_iconst pr_158_395 pc_i1).trans ((pe_iadd pr_158_396).trans (pe_iald pr_158_397 (ps_0 L) c1)))))
set_option maxRecDepth 100000 in
set_option maxHeartbeats 4000000 in
theorem pb_la_law_415 {L : Nat} {hi : Nat → Nat → Int32} {hl : Nat → Nat → Int64} {x3 : Int32} {y0 : Int32} {o : Option Value × pj_H} (c1 : ¬ ((x3 + 1) < 0 ∨ L ≤ ((x3 + 1)).toNatClampNeg)) : pe_E pj_mL 415 [some (.ref 0), some (.ref 1), some (.ref 32), some (.int x3)] [.int y0] (pj_SH L, hi, hl) o = pe_E pj_mL 421 [some (.ref 0), some (.ref 1), some (.ref 32), some (.int x3)] [.int (hi 0 ((x3 + 1) : Int32).toNatClampNeg), .ref 32, .int y0] (pj_SH L, hi, hl) o := (pe_aload_n pr_158_415 rfl).trans ((pe_aload_n pr_158_416 rfl).trans ((pe_iload_n pr_158_417 rfl).trans ((pe_iconst pr_158_418 pc_i1).trans ((pe_iadd pr_158_419).trans (pe_iald pr_158_420 (ps_0 L) c1)))))
set_option maxRecDepth 100000 in
set_option maxHeartbeats 4000000 in
theorem pb_la_law_443 {L : Nat} {hi : Nat → Nat → Int32} {hl : Nat → Nat → Int64} {x3 : Int32} {y0 : Int32} {o : Option Value × pj_H} (c1 : ¬ ((x3 + 1) < 0 ∨ L ≤ ((x3 + 1)).toNatClampNeg)) (c2 : ¬ ((x3 + 2) < 0 ∨ L ≤ ((x3 + 2)).toNatClampNeg)) : pe_E pj_mL 443 [some (.ref 0), some (.ref 1), some (.ref 32), some (.int x3)] [.int y0] (pj_SH L, hi, hl) o = pe_E pj_mL 454 [some (.ref 0), some (.ref 1), some (.ref 32), some (.int x3)] [.int (hi 0 ((x3 + 2) : Int32).toNatClampNeg), .int (hi 0 ((x3 + 1) : Int32).toNatClampNeg), .ref 32, .int y0] (pj_SH L, hi, hl) o := (pe_aload_n pr_158_443 rfl).trans ((pe_aload_n pr_158_444 rfl).trans ((pe_iload_n pr_158_445 rfl).trans ((pe_iconst pr_158_446 pc_i1).trans ((pe_iadd pr_158_447).trans ((pe_iald pr_158_448 (ps_0 L) c1).trans ((pe_aload_n pr_158_449 rfl).trans ((pe_iload_n pr_158_450 rfl).trans ((pe_iconst pr_158_451 pc_i2).trans ((pe_iadd pr_158_452).trans (pe_iald pr_158_453 (ps_0 L) c2))))))))))
set_option maxRecDepth 100000 in
set_option maxHeartbeats 4000000 in
theorem pb_la_law_471 {L : Nat} {hi : Nat → Nat → Int32} {hl : Nat → Nat → Int64} {x3 : Int32} {y0 : Int32} {o : Option Value × pj_H} (c1 : ¬ ((x3 + 1) < 0 ∨ L ≤ ((x3 + 1)).toNatClampNeg)) : pe_E pj_mL 471 [some (.ref 0), some (.ref 1), some (.ref 32), some (.int x3)] [.int y0] (pj_SH L, hi, hl) o = pe_E pj_mL 477 [some (.ref 0), some (.ref 1), some (.ref 32), some (.int x3)] [.int (hi 0 ((x3 + 1) : Int32).toNatClampNeg), .ref 32, .int y0] (pj_SH L, hi, hl) o := (pe_aload_n pr_158_471 rfl).trans ((pe_aload_n pr_158_472 rfl).trans ((pe_iload_n pr_158_473 rfl).trans ((pe_iconst pr_158_474 pc_i1).trans ((pe_iadd pr_158_475).trans (pe_iald pr_158_476 (ps_0 L) c1)))))
set_option maxRecDepth 100000 in
set_option maxHeartbeats 4000000 in
theorem pb_la_law_494 {L : Nat} {hi : Nat → Nat → Int32} {hl : Nat → Nat → Int64} {x3 : Int32} {y0 : Int32} {o : Option Value × pj_H} (c1 : ¬ ((x3 + 1) < 0 ∨ L ≤ ((x3 + 1)).toNatClampNeg)) : pe_E pj_mL 494 [some (.ref 0), some (.ref 1), some (.ref 32), some (.int x3)] [.int y0] (pj_SH L, hi, hl) o = pe_E pj_mL 500 [some (.ref 0), some (.ref 1), some (.ref 32), some (.int x3)] [.int (hi 0 ((x3 + 1) : Int32).toNatClampNeg), .ref 32, .int y0] (pj_SH L, hi, hl) o := (pe_aload_n pr_158_494 rfl).trans ((pe_aload_n pr_158_495 rfl).trans ((pe_iload_n pr_158_496 rfl).trans ((pe_iconst pr_158_497 pc_i1).trans ((pe_iadd pr_158_498).trans (pe_iald pr_158_499 (ps_0 L) c1)))))
set_option maxRecDepth 100000 in
set_option maxHeartbeats 4000000 in
theorem pb_la_law_522 {L : Nat} {hi : Nat → Nat → Int32} {hl : Nat → Nat → Int64} {x3 : Int32} {y0 : Int32} {o : Option Value × pj_H} (c1 : ¬ ((x3 + 1) < 0 ∨ L ≤ ((x3 + 1)).toNatClampNeg)) (c2 : ¬ ((x3 + 2) < 0 ∨ L ≤ ((x3 + 2)).toNatClampNeg)) : pe_E pj_mL 522 [some (.ref 0), some (.ref 1), some (.ref 32), some (.int x3)] [.int y0] (pj_SH L, hi, hl) o = pe_E pj_mL 533 [some (.ref 0), some (.ref 1), some (.ref 32), some (.int x3)] [.int (hi 0 ((x3 + 2) : Int32).toNatClampNeg), .int (hi 0 ((x3 + 1) : Int32).toNatClampNeg), .ref 32, .int y0] (pj_SH L, hi, hl) o := (pe_aload_n pr_158_522 rfl).trans ((pe_aload_n pr_158_523 rfl).trans ((pe_iload_n pr_158_524 rfl).trans ((pe_iconst pr_158_525 pc_i1).trans ((pe_iadd pr_158_526).trans ((pe_iald pr_158_527 (ps_0 L) c1).trans ((pe_aload_n pr_158_528 rfl).trans ((pe_iload_n pr_158_529 rfl).trans ((pe_iconst pr_158_530 pc_i2).trans ((pe_iadd pr_158_531).trans (pe_iald pr_158_532 (ps_0 L) c2))))))))))
set_option maxRecDepth 100000 in
set_option maxHeartbeats 4000000 in
theorem pb_la_law_545 {L : Nat} {hi : Nat → Nat → Int32} {hl : Nat → Nat → Int64} {x3 : Int32} {y0 : Int32} {o : Option Value × pj_H}  : pe_E pj_mL 545 [some (.ref 0), some (.ref 1), some (.ref 32), some (.int x3)] [.int y0] (pj_SH L, hi, hl) o = pe_E pj_mL 546 [some (.ref 0), some (.ref 1), some (.ref 32), some (.int x3)] [.ref 32, .int y0] (pj_SH L, hi, hl) o := pe_aload_n pr_158_545 rfl
set_option maxRecDepth 100000 in
set_option maxHeartbeats 4000000 in
theorem pb_la_law_563 {L : Nat} {hi : Nat → Nat → Int32} {hl : Nat → Nat → Int64} {x3 : Int32} {y0 : Int32} {o : Option Value × pj_H} (c1 : ¬ ((x3 + 1) < 0 ∨ L ≤ ((x3 + 1)).toNatClampNeg)) : pe_E pj_mL 563 [some (.ref 0), some (.ref 1), some (.ref 32), some (.int x3)] [.int y0] (pj_SH L, hi, hl) o = pe_E pj_mL 569 [some (.ref 0), some (.ref 1), some (.ref 32), some (.int x3)] [.int (hi 0 ((x3 + 1) : Int32).toNatClampNeg), .ref 32, .int y0] (pj_SH L, hi, hl) o := (pe_aload_n pr_158_563 rfl).trans ((pe_aload_n pr_158_564 rfl).trans ((pe_iload_n pr_158_565 rfl).trans ((pe_iconst pr_158_566 pc_i1).trans ((pe_iadd pr_158_567).trans (pe_iald pr_158_568 (ps_0 L) c1)))))
set_option maxRecDepth 100000 in
set_option maxHeartbeats 4000000 in
theorem pb_la_law_599 {L : Nat} {hi : Nat → Nat → Int32} {hl : Nat → Nat → Int64} {x3 : Int32} {y0 : Int32} {o : Option Value × pj_H} (c1 : ¬ ((x3 + 1) < 0 ∨ L ≤ ((x3 + 1)).toNatClampNeg)) (c2 : ¬ ((x3 + 2) < 0 ∨ L ≤ ((x3 + 2)).toNatClampNeg)) : pe_E pj_mL 599 [some (.ref 0), some (.ref 1), some (.ref 32), some (.int x3)] [.int y0] (pj_SH L, hi, hl) o = pe_E pj_mL 618 [some (.ref 0), some (.ref 1), some (.ref 32), some (.int x3)] [.int (pz (¬ ((hi 0 ((x3 + 2) : Int32).toNatClampNeg) = 0))), .int (hi 0 ((x3 + 1) : Int32).toNatClampNeg), .ref 32, .int y0] (pj_SH L, hi, hl) o := (pe_aload_n pr_158_599 rfl).trans ((pe_aload_n pr_158_600 rfl).trans ((pe_iload_n pr_158_601 rfl).trans ((pe_iconst pr_158_602 pc_i1).trans ((pe_iadd pr_158_603).trans ((pe_iald pr_158_604 (ps_0 L) c1).trans ((pe_aload_n pr_158_605 rfl).trans ((pe_iload_n pr_158_606 rfl).trans ((pe_iconst pr_158_607 pc_i2).trans ((pe_iadd pr_158_608).trans ((pe_iald pr_158_609 (ps_0 L) c2).trans ((pe_if (t := 617) (c := (hi 0 ((x3 + 2) : Int32).toNatClampNeg) = 0) pr_158_610 rfl rfl).trans (pe_mrg (c := (hi 0 ((x3 + 2) : Int32).toNatClampNeg) = 0) (C := pe_E pj_mL 618 [some (.ref 0), some (.ref 1), some (.ref 32), some (.int x3)] [.int (pz (¬ ((hi 0 ((x3 + 2) : Int32).toNatClampNeg) = 0))), .int (hi 0 ((x3 + 1) : Int32).toNatClampNeg), .ref 32, .int y0] (pj_SH L, hi, hl) o) (fun h1 => (pe_iconst pr_158_617 pc_i0).trans ((show pe_E pj_mL 618 [some (.ref 0), some (.ref 1), some (.ref 32), some (.int x3)] [.int 0, .int (hi 0 ((x3 + 1) : Int32).toNatClampNeg), .ref 32, .int y0] (pj_SH L, hi, hl) o = pe_E pj_mL 618 [some (.ref 0), some (.ref 1), some (.ref 32), some (.int x3)] [.int (pz (¬ ((hi 0 ((x3 + 2) : Int32).toNatClampNeg) = 0))), .int (hi 0 ((x3 + 1) : Int32).toNatClampNeg), .ref 32, .int y0] (pj_SH L, hi, hl) o from by simp only [pz_nt h1]))) (fun h1 => (pe_iconst pr_158_613 pc_i1).trans ((pe_goto (t := 618) pr_158_614 rfl).trans ((show pe_E pj_mL 618 [some (.ref 0), some (.ref 1), some (.ref 32), some (.int x3)] [.int 1, .int (hi 0 ((x3 + 1) : Int32).toNatClampNeg), .ref 32, .int y0] (pj_SH L, hi, hl) o = pe_E pj_mL 618 [some (.ref 0), some (.ref 1), some (.ref 32), some (.int x3)] [.int (pz (¬ ((hi 0 ((x3 + 2) : Int32).toNatClampNeg) = 0))), .int (hi 0 ((x3 + 1) : Int32).toNatClampNeg), .ref 32, .int y0] (pj_SH L, hi, hl) o from by simp only [pz_t h1]))))))))))))))))
set_option maxRecDepth 100000 in
set_option maxHeartbeats 4000000 in
theorem pb_la_law_630 {L : Nat} {hi : Nat → Nat → Int32} {hl : Nat → Nat → Int64} {x3 : Int32} {y0 : Int32} {o : Option Value × pj_H}  : pe_E pj_mL 630 [some (.ref 0), some (.ref 1), some (.ref 32), some (.int x3)] [.int y0] (pj_SH L, hi, hl) o = pe_E pj_mL 631 [some (.ref 0), some (.ref 1), some (.ref 32), some (.int x3)] [.ref 32, .int y0] (pj_SH L, hi, hl) o := pe_aload_n pr_158_630 rfl
set_option maxRecDepth 100000 in
set_option maxHeartbeats 4000000 in
theorem pb_la_law_648 {L : Nat} {hi : Nat → Nat → Int32} {hl : Nat → Nat → Int64} {x3 : Int32} {y0 : Int32} {o : Option Value × pj_H} (c1 : ¬ ((x3 + 1) < 0 ∨ L ≤ ((x3 + 1)).toNatClampNeg)) : pe_E pj_mL 648 [some (.ref 0), some (.ref 1), some (.ref 32), some (.int x3)] [.int y0] (pj_SH L, hi, hl) o = pe_E pj_mL 654 [some (.ref 0), some (.ref 1), some (.ref 32), some (.int x3)] [.int (hi 0 ((x3 + 1) : Int32).toNatClampNeg), .ref 32, .int y0] (pj_SH L, hi, hl) o := (pe_aload_n pr_158_648 rfl).trans ((pe_aload_n pr_158_649 rfl).trans ((pe_iload_n pr_158_650 rfl).trans ((pe_iconst pr_158_651 pc_i1).trans ((pe_iadd pr_158_652).trans (pe_iald pr_158_653 (ps_0 L) c1)))))
set_option maxRecDepth 100000 in
set_option maxHeartbeats 4000000 in
theorem pb_la_law_671 {L : Nat} {hi : Nat → Nat → Int32} {hl : Nat → Nat → Int64} {x3 : Int32} {y0 : Int32} {o : Option Value × pj_H} (c1 : ¬ ((x3 + 1) < 0 ∨ L ≤ ((x3 + 1)).toNatClampNeg)) : pe_E pj_mL 671 [some (.ref 0), some (.ref 1), some (.ref 32), some (.int x3)] [.int y0] (pj_SH L, hi, hl) o = pe_E pj_mL 677 [some (.ref 0), some (.ref 1), some (.ref 32), some (.int x3)] [.int (hi 0 ((x3 + 1) : Int32).toNatClampNeg), .ref 32, .int y0] (pj_SH L, hi, hl) o := (pe_aload_n pr_158_671 rfl).trans ((pe_aload_n pr_158_672 rfl).trans ((pe_iload_n pr_158_673 rfl).trans ((pe_iconst pr_158_674 pc_i1).trans ((pe_iadd pr_158_675).trans (pe_iald pr_158_676 (ps_0 L) c1)))))
set_option maxRecDepth 100000 in
set_option maxHeartbeats 4000000 in
theorem pb_la_law_699 {L : Nat} {hi : Nat → Nat → Int32} {hl : Nat → Nat → Int64} {x3 : Int32} {y0 : Int32} {o : Option Value × pj_H} (c1 : ¬ ((x3 + 1) < 0 ∨ L ≤ ((x3 + 1)).toNatClampNeg)) (c2 : ¬ ((x3 + 2) < 0 ∨ L ≤ ((x3 + 2)).toNatClampNeg)) : pe_E pj_mL 699 [some (.ref 0), some (.ref 1), some (.ref 32), some (.int x3)] [.int y0] (pj_SH L, hi, hl) o = pe_E pj_mL 710 [some (.ref 0), some (.ref 1), some (.ref 32), some (.int x3)] [.int (hi 0 ((x3 + 2) : Int32).toNatClampNeg), .int (hi 0 ((x3 + 1) : Int32).toNatClampNeg), .ref 32, .int y0] (pj_SH L, hi, hl) o := (pe_aload_n pr_158_699 rfl).trans ((pe_aload_n pr_158_700 rfl).trans ((pe_iload_n pr_158_701 rfl).trans ((pe_iconst pr_158_702 pc_i1).trans ((pe_iadd pr_158_703).trans ((pe_iald pr_158_704 (ps_0 L) c1).trans ((pe_aload_n pr_158_705 rfl).trans ((pe_iload_n pr_158_706 rfl).trans ((pe_iconst pr_158_707 pc_i2).trans ((pe_iadd pr_158_708).trans (pe_iald pr_158_709 (ps_0 L) c2))))))))))
set_option maxRecDepth 100000 in
set_option maxHeartbeats 4000000 in
theorem pb_la_law_742 {L : Nat} {hi : Nat → Nat → Int32} {hl : Nat → Nat → Int64} {x3 : Int32} {z0 : Int64} {o : Option Value × pj_H} (c1 : ¬ ((x3 + 1) < 0 ∨ L ≤ ((x3 + 1)).toNatClampNeg)) (c2 : ¬ ((x3 + 2) < 0 ∨ L ≤ ((x3 + 2)).toNatClampNeg)) (c3 : ¬ ((x3 + 3) < 0 ∨ L ≤ ((x3 + 3)).toNatClampNeg)) (c4 : ¬ ((x3 + 4) < 0 ∨ L ≤ ((x3 + 4)).toNatClampNeg)) : pe_E pj_mL 742 [some (.ref 0), some (.ref 1), some (.ref 32), some (.int x3)] [.long z0] (pj_SH L, hi, hl) o = pe_E pj_mL 763 [some (.ref 0), some (.ref 1), some (.ref 32), some (.int x3)] [.int (hi 0 ((x3 + 4) : Int32).toNatClampNeg), .int (hi 0 ((x3 + 3) : Int32).toNatClampNeg), .int (hi 0 ((x3 + 2) : Int32).toNatClampNeg), .int (hi 0 ((x3 + 1) : Int32).toNatClampNeg), .ref 32, .long z0] (pj_SH L, hi, hl) o := (pe_aload_n pr_158_742 rfl).trans ((pe_aload_n pr_158_743 rfl).trans ((pe_iload_n pr_158_744 rfl).trans ((pe_iconst pr_158_745 pc_i1).trans ((pe_iadd pr_158_746).trans ((pe_iald pr_158_747 (ps_0 L) c1).trans ((pe_aload_n pr_158_748 rfl).trans ((pe_iload_n pr_158_749 rfl).trans ((pe_iconst pr_158_750 pc_i2).trans ((pe_iadd pr_158_751).trans ((pe_iald pr_158_752 (ps_0 L) c2).trans ((pe_aload_n pr_158_753 rfl).trans ((pe_iload_n pr_158_754 rfl).trans ((pe_iconst pr_158_755 pc_i3).trans ((pe_iadd pr_158_756).trans ((pe_iald pr_158_757 (ps_0 L) c3).trans ((pe_aload_n pr_158_758 rfl).trans ((pe_iload_n pr_158_759 rfl).trans ((pe_iconst pr_158_760 pc_i4).trans ((pe_iadd pr_158_761).trans (pe_iald pr_158_762 (ps_0 L) c4))))))))))))))))))))
set_option maxRecDepth 100000 in
set_option maxHeartbeats 4000000 in
theorem pb_la_law_791 {L : Nat} {hi : Nat → Nat → Int32} {hl : Nat → Nat → Int64} {x3 : Int32} {y0 : Int32} {o : Option Value × pj_H} (c1 : ¬ ((x3 + 1) < 0 ∨ L ≤ ((x3 + 1)).toNatClampNeg)) (c2 : ¬ ((x3 + 2) < 0 ∨ L ≤ ((x3 + 2)).toNatClampNeg)) (c3 : ¬ ((x3 + 3) < 0 ∨ L ≤ ((x3 + 3)).toNatClampNeg)) : pe_E pj_mL 791 [some (.ref 0), some (.ref 1), some (.ref 32), some (.int x3)] [.int y0] (pj_SH L, hi, hl) o = pe_E pj_mL 807 [some (.ref 0), some (.ref 1), some (.ref 32), some (.int x3)] [.int (hi 0 ((x3 + 3) : Int32).toNatClampNeg), .int (hi 0 ((x3 + 2) : Int32).toNatClampNeg), .int (hi 0 ((x3 + 1) : Int32).toNatClampNeg), .ref 32, .int y0] (pj_SH L, hi, hl) o := (pe_aload_n pr_158_791 rfl).trans ((pe_aload_n pr_158_792 rfl).trans ((pe_iload_n pr_158_793 rfl).trans ((pe_iconst pr_158_794 pc_i1).trans ((pe_iadd pr_158_795).trans ((pe_iald pr_158_796 (ps_0 L) c1).trans ((pe_aload_n pr_158_797 rfl).trans ((pe_iload_n pr_158_798 rfl).trans ((pe_iconst pr_158_799 pc_i2).trans ((pe_iadd pr_158_800).trans ((pe_iald pr_158_801 (ps_0 L) c2).trans ((pe_aload_n pr_158_802 rfl).trans ((pe_iload_n pr_158_803 rfl).trans ((pe_iconst pr_158_804 pc_i3).trans ((pe_iadd pr_158_805).trans (pe_iald pr_158_806 (ps_0 L) c3)))))))))))))))
set_option maxRecDepth 100000 in
set_option maxHeartbeats 4000000 in
theorem pb_la_law_824 {L : Nat} {hi : Nat → Nat → Int32} {hl : Nat → Nat → Int64} {x3 : Int32} {y0 : Int32} {o : Option Value × pj_H} (c1 : ¬ ((x3 + 1) < 0 ∨ L ≤ ((x3 + 1)).toNatClampNeg)) : pe_E pj_mL 824 [some (.ref 0), some (.ref 1), some (.ref 32), some (.int x3)] [.int y0] (pj_SH L, hi, hl) o = pe_E pj_mL 830 [some (.ref 0), some (.ref 1), some (.ref 32), some (.int x3)] [.int (hi 0 ((x3 + 1) : Int32).toNatClampNeg), .ref 32, .int y0] (pj_SH L, hi, hl) o := (pe_aload_n pr_158_824 rfl).trans ((pe_aload_n pr_158_825 rfl).trans ((pe_iload_n pr_158_826 rfl).trans ((pe_iconst pr_158_827 pc_i1).trans ((pe_iadd pr_158_828).trans (pe_iald pr_158_829 (ps_0 L) c1)))))
set_option maxRecDepth 100000 in
set_option maxHeartbeats 4000000 in
theorem pb_la_law_847 {L : Nat} {hi : Nat → Nat → Int32} {hl : Nat → Nat → Int64} {x3 : Int32} {y0 : Int32} {o : Option Value × pj_H} (c1 : ¬ ((x3 + 1) < 0 ∨ L ≤ ((x3 + 1)).toNatClampNeg)) : pe_E pj_mL 847 [some (.ref 0), some (.ref 1), some (.ref 32), some (.int x3)] [.int y0] (pj_SH L, hi, hl) o = pe_E pj_mL 853 [some (.ref 0), some (.ref 1), some (.ref 32), some (.int x3)] [.int (hi 0 ((x3 + 1) : Int32).toNatClampNeg), .ref 32, .int y0] (pj_SH L, hi, hl) o := (pe_aload_n pr_158_847 rfl).trans ((pe_aload_n pr_158_848 rfl).trans ((pe_iload_n pr_158_849 rfl).trans ((pe_iconst pr_158_850 pc_i1).trans ((pe_iadd pr_158_851).trans (pe_iald pr_158_852 (ps_0 L) c1)))))
set_option maxRecDepth 100000 in
set_option maxHeartbeats 4000000 in
theorem pb_la_law_870 {L : Nat} {hi : Nat → Nat → Int32} {hl : Nat → Nat → Int64} {x3 : Int32} {y0 : Int32} {o : Option Value × pj_H} (c1 : ¬ ((x3 + 1) < 0 ∨ L ≤ ((x3 + 1)).toNatClampNeg)) : pe_E pj_mL 870 [some (.ref 0), some (.ref 1), some (.ref 32), some (.int x3)] [.int y0] (pj_SH L, hi, hl) o = pe_E pj_mL 876 [some (.ref 0), some (.ref 1), some (.ref 32), some (.int x3)] [.int (hi 0 ((x3 + 1) : Int32).toNatClampNeg), .ref 32, .int y0] (pj_SH L, hi, hl) o := (pe_aload_n pr_158_870 rfl).trans ((pe_aload_n pr_158_871 rfl).trans ((pe_iload_n pr_158_872 rfl).trans ((pe_iconst pr_158_873 pc_i1).trans ((pe_iadd pr_158_874).trans (pe_iald pr_158_875 (ps_0 L) c1)))))
set_option maxRecDepth 100000 in
set_option maxHeartbeats 4000000 in
theorem pk_la_law_191 {L : Nat} {hi : Nat → Nat → Int32} {hl : Nat → Nat → Int64} {x3 : Int32} {y0 : Int32} {y1 : Int32} {y2 : Int32} {y4 : Int32} {v : Int32} {h1 : pj_H} {o : Option Value × pj_H} (cc : pe_C pj_m107 [.ref 32, .int y2, .int y1, .int y0] (pj_SH L, hi, hl) (some (.int v)) h1) : pe_E pj_mL 191 [some (.ref 0), some (.ref 1), some (.ref 32), some (.int x3)] [.int y0, .int y1, .int y2, .ref 32, .int y4] (pj_SH L, hi, hl) o = pe_E pj_mL 194 [some (.ref 0), some (.ref 1), some (.ref 32), some (.int x3)] [.int v, .int y4] h1 o := pe_callV [.int y2, .int y1, .int y0] [.int y4] pr_158_191 pl_ml12017 (pm_107) (Nat.le_of_ble_eq_true rfl) rfl rfl (Nat.le_of_ble_eq_true rfl) (Nat.le_of_ble_eq_true rfl) rfl cc
set_option maxRecDepth 100000 in
set_option maxHeartbeats 4000000 in
theorem pk_la_law_224 {L : Nat} {hi : Nat → Nat → Int32} {hl : Nat → Nat → Int64} {x3 : Int32} {y0 : Int32} {y1 : Int32} {y3 : Int32} {v : Int32} {h1 : pj_H} {o : Option Value × pj_H} (cc : pe_C pj_m108 [.ref 32, .int y1, .int y0] (pj_SH L, hi, hl) (some (.int v)) h1) : pe_E pj_mL 224 [some (.ref 0), some (.ref 1), some (.ref 32), some (.int x3)] [.int y0, .int y1, .ref 32, .int y3] (pj_SH L, hi, hl) o = pe_E pj_mL 227 [some (.ref 0), some (.ref 1), some (.ref 32), some (.int x3)] [.int v, .int y3] h1 o := pe_callV [.int y1, .int y0] [.int y3] pr_158_224 pl_ml12022 (pm_108) (Nat.le_of_ble_eq_true rfl) rfl rfl (Nat.le_of_ble_eq_true rfl) (Nat.le_of_ble_eq_true rfl) rfl cc
set_option maxRecDepth 100000 in
set_option maxHeartbeats 4000000 in
theorem pk_la_law_257 {L : Nat} {hi : Nat → Nat → Int32} {hl : Nat → Nat → Int64} {x3 : Int32} {y0 : Int32} {y1 : Int32} {y3 : Int32} {v : Int32} {h1 : pj_H} {o : Option Value × pj_H} (cc : pe_C pj_m109 [.ref 32, .int y1, .int y0] (pj_SH L, hi, hl) (some (.int v)) h1) : pe_E pj_mL 257 [some (.ref 0), some (.ref 1), some (.ref 32), some (.int x3)] [.int y0, .int y1, .ref 32, .int y3] (pj_SH L, hi, hl) o = pe_E pj_mL 260 [some (.ref 0), some (.ref 1), some (.ref 32), some (.int x3)] [.int v, .int y3] h1 o := pe_callV [.int y1, .int y0] [.int y3] pr_158_257 pl_ml12026 (pm_109) (Nat.le_of_ble_eq_true rfl) rfl rfl (Nat.le_of_ble_eq_true rfl) (Nat.le_of_ble_eq_true rfl) rfl cc
set_option maxRecDepth 100000 in
set_option maxHeartbeats 4000000 in
theorem pk_la_law_280 {L : Nat} {hi : Nat → Nat → Int32} {hl : Nat → Nat → Int64} {x3 : Int32} {y0 : Int32} {y2 : Int32} {v : Int32} {h1 : pj_H} {o : Option Value × pj_H} (cc : pe_C pj_m110 [.ref 32, .int y0] (pj_SH L, hi, hl) (some (.int v)) h1) : pe_E pj_mL 280 [some (.ref 0), some (.ref 1), some (.ref 32), some (.int x3)] [.int y0, .ref 32, .int y2] (pj_SH L, hi, hl) o = pe_E pj_mL 283 [some (.ref 0), some (.ref 1), some (.ref 32), some (.int x3)] [.int v, .int y2] h1 o := pe_callV [.int y0] [.int y2] pr_158_280 pl_ml12031 (pm_110) (Nat.le_of_ble_eq_true rfl) rfl rfl (Nat.le_of_ble_eq_true rfl) (Nat.le_of_ble_eq_true rfl) rfl cc
set_option maxRecDepth 100000 in
set_option maxHeartbeats 4000000 in
theorem pk_la_law_293 {L : Nat} {hi : Nat → Nat → Int32} {hl : Nat → Nat → Int64} {x3 : Int32} {y1 : Int32} {v : Int32} {h1 : pj_H} {o : Option Value × pj_H} (cc : pe_C pj_m111 [.ref 32] (pj_SH L, hi, hl) (some (.int v)) h1) : pe_E pj_mL 293 [some (.ref 0), some (.ref 1), some (.ref 32), some (.int x3)] [.ref 32, .int y1] (pj_SH L, hi, hl) o = pe_E pj_mL 296 [some (.ref 0), some (.ref 1), some (.ref 32), some (.int x3)] [.int v, .int y1] h1 o := pe_callV [] [.int y1] pr_158_293 pl_ml12036 (pm_111) (Nat.le_of_ble_eq_true rfl) rfl rfl (Nat.le_of_ble_eq_true rfl) (Nat.le_of_ble_eq_true rfl) rfl cc
set_option maxRecDepth 100000 in
set_option maxHeartbeats 4000000 in
theorem pk_la_law_306 {L : Nat} {hi : Nat → Nat → Int32} {hl : Nat → Nat → Int64} {x3 : Int32} {y1 : Int32} {v : Int32} {h1 : pj_H} {o : Option Value × pj_H} (cc : pe_C pj_m114 [.ref 32] (pj_SH L, hi, hl) (some (.int v)) h1) : pe_E pj_mL 306 [some (.ref 0), some (.ref 1), some (.ref 32), some (.int x3)] [.ref 32, .int y1] (pj_SH L, hi, hl) o = pe_E pj_mL 309 [some (.ref 0), some (.ref 1), some (.ref 32), some (.int x3)] [.int v, .int y1] h1 o := pe_callV [] [.int y1] pr_158_306 pl_ml12040 (pm_114) (Nat.le_of_ble_eq_true rfl) rfl rfl (Nat.le_of_ble_eq_true rfl) (Nat.le_of_ble_eq_true rfl) rfl cc
set_option maxRecDepth 100000 in
set_option maxHeartbeats 4000000 in
theorem pk_la_law_329 {L : Nat} {hi : Nat → Nat → Int32} {hl : Nat → Nat → Int64} {x3 : Int32} {y0 : Int32} {y2 : Int32} {v : Int32} {h1 : pj_H} {o : Option Value × pj_H} (cc : pe_C pj_m127 [.ref 32, .int y0] (pj_SH L, hi, hl) (some (.int v)) h1) : pe_E pj_mL 329 [some (.ref 0), some (.ref 1), some (.ref 32), some (.int x3)] [.int y0, .ref 32, .int y2] (pj_SH L, hi, hl) o = pe_E pj_mL 332 [some (.ref 0), some (.ref 1), some (.ref 32), some (.int x3)] [.int v, .int y2] h1 o := pe_callV [.int y0] [.int y2] pr_158_329 pl_ml12044 (pm_127) (Nat.le_of_ble_eq_true rfl) rfl rfl (Nat.le_of_ble_eq_true rfl) (Nat.le_of_ble_eq_true rfl) rfl cc
set_option maxRecDepth 100000 in
set_option maxHeartbeats 4000000 in
theorem pk_la_law_342 {L : Nat} {hi : Nat → Nat → Int32} {hl : Nat → Nat → Int64} {x3 : Int32} {y1 : Int32} {v : Int32} {h1 : pj_H} {o : Option Value × pj_H} (cc : pe_C pj_m129 [.ref 32] (pj_SH L, hi, hl) (some (.int v)) h1) : pe_E pj_mL 342 [some (.ref 0), some (.ref 1), some (.ref 32), some (.int x3)] [.ref 32, .int y1] (pj_SH L, hi, hl) o = pe_E pj_mL 345 [some (.ref 0), some (.ref 1), some (.ref 32), some (.int x3)] [.int v, .int y1] h1 o := pe_callV [] [.int y1] pr_158_342 pl_ml12048 (pm_129) (Nat.le_of_ble_eq_true rfl) rfl rfl (Nat.le_of_ble_eq_true rfl) (Nat.le_of_ble_eq_true rfl) rfl cc
set_option maxRecDepth 100000 in
set_option maxHeartbeats 4000000 in
theorem pk_la_law_375 {L : Nat} {hi : Nat → Nat → Int32} {hl : Nat → Nat → Int64} {x3 : Int32} {y0 : Int32} {y1 : Int32} {y3 : Int32} {v : Int32} {h1 : pj_H} {o : Option Value × pj_H} (cc : pe_C pj_m130 [.ref 32, .int y1, .int y0] (pj_SH L, hi, hl) (some (.int v)) h1) : pe_E pj_mL 375 [some (.ref 0), some (.ref 1), some (.ref 32), some (.int x3)] [.int y0, .int y1, .ref 32, .int y3] (pj_SH L, hi, hl) o = pe_E pj_mL 378 [some (.ref 0), some (.ref 1), some (.ref 32), some (.int x3)] [.int v, .int y3] h1 o := pe_callV [.int y1, .int y0] [.int y3] pr_158_375 pl_ml12052 (pm_130) (Nat.le_of_ble_eq_true rfl) rfl rfl (Nat.le_of_ble_eq_true rfl) (Nat.le_of_ble_eq_true rfl) rfl cc
set_option maxRecDepth 100000 in
set_option maxHeartbeats 4000000 in
theorem pk_la_law_398 {L : Nat} {hi : Nat → Nat → Int32} {hl : Nat → Nat → Int64} {x3 : Int32} {y0 : Int32} {y2 : Int32} {v : Int32} {h1 : pj_H} {o : Option Value × pj_H} (cc : pe_C pj_m131 [.ref 32, .int y0] (pj_SH L, hi, hl) (some (.int v)) h1) : pe_E pj_mL 398 [some (.ref 0), some (.ref 1), some (.ref 32), some (.int x3)] [.int y0, .ref 32, .int y2] (pj_SH L, hi, hl) o = pe_E pj_mL 401 [some (.ref 0), some (.ref 1), some (.ref 32), some (.int x3)] [.int v, .int y2] h1 o := pe_callV [.int y0] [.int y2] pr_158_398 pl_ml12056 (pm_131) (Nat.le_of_ble_eq_true rfl) rfl rfl (Nat.le_of_ble_eq_true rfl) (Nat.le_of_ble_eq_true rfl) rfl cc
set_option maxRecDepth 100000 in
set_option maxHeartbeats 4000000 in
theorem pk_la_law_421 {L : Nat} {hi : Nat → Nat → Int32} {hl : Nat → Nat → Int64} {x3 : Int32} {y0 : Int32} {y2 : Int32} {v : Int32} {h1 : pj_H} {o : Option Value × pj_H} (cc : pe_C pj_m132 [.ref 32, .int y0] (pj_SH L, hi, hl) (some (.int v)) h1) : pe_E pj_mL 421 [some (.ref 0), some (.ref 1), some (.ref 32), some (.int x3)] [.int y0, .ref 32, .int y2] (pj_SH L, hi, hl) o = pe_E pj_mL 424 [some (.ref 0), some (.ref 1), some (.ref 32), some (.int x3)] [.int v, .int y2] h1 o := pe_callV [.int y0] [.int y2] pr_158_421 pl_ml12060 (pm_132) (Nat.le_of_ble_eq_true rfl) rfl rfl (Nat.le_of_ble_eq_true rfl) (Nat.le_of_ble_eq_true rfl) rfl cc
set_option maxRecDepth 100000 in
set_option maxHeartbeats 4000000 in
theorem pk_la_law_454 {L : Nat} {hi : Nat → Nat → Int32} {hl : Nat → Nat → Int64} {x3 : Int32} {y0 : Int32} {y1 : Int32} {y3 : Int32} {v : Int32} {h1 : pj_H} {o : Option Value × pj_H} (cc : pe_C pj_m118 [.ref 32, .int y1, .int y0] (pj_SH L, hi, hl) (some (.int v)) h1) : pe_E pj_mL 454 [some (.ref 0), some (.ref 1), some (.ref 32), some (.int x3)] [.int y0, .int y1, .ref 32, .int y3] (pj_SH L, hi, hl) o = pe_E pj_mL 457 [some (.ref 0), some (.ref 1), some (.ref 32), some (.int x3)] [.int v, .int y3] h1 o := pe_callV [.int y1, .int y0] [.int y3] pr_158_454 pl_ml12064 (pm_118) (Nat.le_of_ble_eq_true rfl) rfl rfl (Nat.le_of_ble_eq_true rfl) (Nat.le_of_ble_eq_true rfl) rfl cc
set_option maxRecDepth 100000 in
set_option maxHeartbeats 4000000 in
theorem pk_la_law_477 {L : Nat} {hi : Nat → Nat → Int32} {hl : Nat → Nat → Int64} {x3 : Int32} {y0 : Int32} {y2 : Int32} {v : Int32} {h1 : pj_H} {o : Option Value × pj_H} (cc : pe_C pj_m134 [.ref 32, .int y0] (pj_SH L, hi, hl) (some (.int v)) h1) : pe_E pj_mL 477 [some (.ref 0), some (.ref 1), some (.ref 32), some (.int x3)] [.int y0, .ref 32, .int y2] (pj_SH L, hi, hl) o = pe_E pj_mL 480 [some (.ref 0), some (.ref 1), some (.ref 32), some (.int x3)] [.int v, .int y2] h1 o := pe_callV [.int y0] [.int y2] pr_158_477 pl_ml12068 (pm_134) (Nat.le_of_ble_eq_true rfl) rfl rfl (Nat.le_of_ble_eq_true rfl) (Nat.le_of_ble_eq_true rfl) rfl cc
set_option maxRecDepth 100000 in
set_option maxHeartbeats 4000000 in
theorem pk_la_law_500 {L : Nat} {hi : Nat → Nat → Int32} {hl : Nat → Nat → Int64} {x3 : Int32} {y0 : Int32} {y2 : Int32} {v : Int32} {h1 : pj_H} {o : Option Value × pj_H} (cc : pe_C pj_m135 [.ref 32, .int y0] (pj_SH L, hi, hl) (some (.int v)) h1) : pe_E pj_mL 500 [some (.ref 0), some (.ref 1), some (.ref 32), some (.int x3)] [.int y0, .ref 32, .int y2] (pj_SH L, hi, hl) o = pe_E pj_mL 503 [some (.ref 0), some (.ref 1), some (.ref 32), some (.int x3)] [.int v, .int y2] h1 o := pe_callV [.int y0] [.int y2] pr_158_500 pl_ml12072 (pm_135) (Nat.le_of_ble_eq_true rfl) rfl rfl (Nat.le_of_ble_eq_true rfl) (Nat.le_of_ble_eq_true rfl) rfl cc
set_option maxRecDepth 100000 in
set_option maxHeartbeats 4000000 in
theorem pk_la_law_533 {L : Nat} {hi : Nat → Nat → Int32} {hl : Nat → Nat → Int64} {x3 : Int32} {y0 : Int32} {y1 : Int32} {y3 : Int32} {v : Int32} {h1 : pj_H} {o : Option Value × pj_H} (cc : pe_C pj_m136 [.ref 32, .int y1, .int y0] (pj_SH L, hi, hl) (some (.int v)) h1) : pe_E pj_mL 533 [some (.ref 0), some (.ref 1), some (.ref 32), some (.int x3)] [.int y0, .int y1, .ref 32, .int y3] (pj_SH L, hi, hl) o = pe_E pj_mL 536 [some (.ref 0), some (.ref 1), some (.ref 32), some (.int x3)] [.int v, .int y3] h1 o := pe_callV [.int y1, .int y0] [.int y3] pr_158_533 pl_ml12076 (pm_136) (Nat.le_of_ble_eq_true rfl) rfl rfl (Nat.le_of_ble_eq_true rfl) (Nat.le_of_ble_eq_true rfl) rfl cc
set_option maxRecDepth 100000 in
set_option maxHeartbeats 4000000 in
theorem pk_la_law_546 {L : Nat} {hi : Nat → Nat → Int32} {hl : Nat → Nat → Int64} {x3 : Int32} {y1 : Int32} {v : Int32} {h1 : pj_H} {o : Option Value × pj_H} (cc : pe_C pj_m139 [.ref 32] (pj_SH L, hi, hl) (some (.int v)) h1) : pe_E pj_mL 546 [some (.ref 0), some (.ref 1), some (.ref 32), some (.int x3)] [.ref 32, .int y1] (pj_SH L, hi, hl) o = pe_E pj_mL 549 [some (.ref 0), some (.ref 1), some (.ref 32), some (.int x3)] [.int v, .int y1] h1 o := pe_callV [] [.int y1] pr_158_546 pl_ml12080 (pm_139) (Nat.le_of_ble_eq_true rfl) rfl rfl (Nat.le_of_ble_eq_true rfl) (Nat.le_of_ble_eq_true rfl) rfl cc
set_option maxRecDepth 100000 in
set_option maxHeartbeats 4000000 in
theorem pk_la_law_569 {L : Nat} {hi : Nat → Nat → Int32} {hl : Nat → Nat → Int64} {x3 : Int32} {y0 : Int32} {y2 : Int32} {v : Int32} {h1 : pj_H} {o : Option Value × pj_H} (cc : pe_C pj_m140 [.ref 32, .int y0] (pj_SH L, hi, hl) (some (.int v)) h1) : pe_E pj_mL 569 [some (.ref 0), some (.ref 1), some (.ref 32), some (.int x3)] [.int y0, .ref 32, .int y2] (pj_SH L, hi, hl) o = pe_E pj_mL 572 [some (.ref 0), some (.ref 1), some (.ref 32), some (.int x3)] [.int v, .int y2] h1 o := pe_callV [.int y0] [.int y2] pr_158_569 pl_ml12084 (pm_140) (Nat.le_of_ble_eq_true rfl) rfl rfl (Nat.le_of_ble_eq_true rfl) (Nat.le_of_ble_eq_true rfl) rfl cc
set_option maxRecDepth 100000 in
set_option maxHeartbeats 4000000 in
theorem pk_la_law_618 {L : Nat} {hi : Nat → Nat → Int32} {hl : Nat → Nat → Int64} {x3 : Int32} {y0 : Int32} {y1 : Int32} {y3 : Int32} {v : Int32} {h1 : pj_H} {o : Option Value × pj_H} (cc : pe_C pj_m142 [.ref 32, .int y1, .int y0] (pj_SH L, hi, hl) (some (.int v)) h1) : pe_E pj_mL 618 [some (.ref 0), some (.ref 1), some (.ref 32), some (.int x3)] [.int y0, .int y1, .ref 32, .int y3] (pj_SH L, hi, hl) o = pe_E pj_mL 621 [some (.ref 0), some (.ref 1), some (.ref 32), some (.int x3)] [.int v, .int y3] h1 o := pe_callV [.int y1, .int y0] [.int y3] pr_158_618 pl_ml12089 (pm_142) (Nat.le_of_ble_eq_true rfl) rfl rfl (Nat.le_of_ble_eq_true rfl) (Nat.le_of_ble_eq_true rfl) rfl cc
set_option maxRecDepth 100000 in
set_option maxHeartbeats 4000000 in
theorem pk_la_law_631 {L : Nat} {hi : Nat → Nat → Int32} {hl : Nat → Nat → Int64} {x3 : Int32} {y1 : Int32} {v : Int32} {h1 : pj_H} {o : Option Value × pj_H} (cc : pe_C pj_m143 [.ref 32] (pj_SH L, hi, hl) (some (.int v)) h1) : pe_E pj_mL 631 [some (.ref 0), some (.ref 1), some (.ref 32), some (.int x3)] [.ref 32, .int y1] (pj_SH L, hi, hl) o = pe_E pj_mL 634 [some (.ref 0), some (.ref 1), some (.ref 32), some (.int x3)] [.int v, .int y1] h1 o := pe_callV [] [.int y1] pr_158_631 pl_ml12093 (pm_143) (Nat.le_of_ble_eq_true rfl) rfl rfl (Nat.le_of_ble_eq_true rfl) (Nat.le_of_ble_eq_true rfl) rfl cc
set_option maxRecDepth 100000 in
set_option maxHeartbeats 4000000 in
theorem pk_la_law_654 {L : Nat} {hi : Nat → Nat → Int32} {hl : Nat → Nat → Int64} {x3 : Int32} {y0 : Int32} {y2 : Int32} {v : Int32} {h1 : pj_H} {o : Option Value × pj_H} (cc : pe_C pj_m146 [.ref 32, .int y0] (pj_SH L, hi, hl) (some (.int v)) h1) : pe_E pj_mL 654 [some (.ref 0), some (.ref 1), some (.ref 32), some (.int x3)] [.int y0, .ref 32, .int y2] (pj_SH L, hi, hl) o = pe_E pj_mL 657 [some (.ref 0), some (.ref 1), some (.ref 32), some (.int x3)] [.int v, .int y2] h1 o := pe_callV [.int y0] [.int y2] pr_158_654 pl_ml12097 (pm_146) (Nat.le_of_ble_eq_true rfl) rfl rfl (Nat.le_of_ble_eq_true rfl) (Nat.le_of_ble_eq_true rfl) rfl cc
set_option maxRecDepth 100000 in
set_option maxHeartbeats 4000000 in
theorem pk_la_law_677 {L : Nat} {hi : Nat → Nat → Int32} {hl : Nat → Nat → Int64} {x3 : Int32} {y0 : Int32} {y2 : Int32} {v : Int32} {h1 : pj_H} {o : Option Value × pj_H} (cc : pe_C pj_m147 [.ref 32, .int y0] (pj_SH L, hi, hl) (some (.int v)) h1) : pe_E pj_mL 677 [some (.ref 0), some (.ref 1), some (.ref 32), some (.int x3)] [.int y0, .ref 32, .int y2] (pj_SH L, hi, hl) o = pe_E pj_mL 680 [some (.ref 0), some (.ref 1), some (.ref 32), some (.int x3)] [.int v, .int y2] h1 o := pe_callV [.int y0] [.int y2] pr_158_677 pl_ml12101 (pm_147) (Nat.le_of_ble_eq_true rfl) rfl rfl (Nat.le_of_ble_eq_true rfl) (Nat.le_of_ble_eq_true rfl) rfl cc
set_option maxRecDepth 100000 in
set_option maxHeartbeats 4000000 in
theorem pk_la_law_710 {L : Nat} {hi : Nat → Nat → Int32} {hl : Nat → Nat → Int64} {x3 : Int32} {y0 : Int32} {y1 : Int32} {y3 : Int32} {v : Int32} {h1 : pj_H} {o : Option Value × pj_H} (cc : pe_C pj_m148 [.ref 32, .int y1, .int y0] (pj_SH L, hi, hl) (some (.int v)) h1) : pe_E pj_mL 710 [some (.ref 0), some (.ref 1), some (.ref 32), some (.int x3)] [.int y0, .int y1, .ref 32, .int y3] (pj_SH L, hi, hl) o = pe_E pj_mL 713 [some (.ref 0), some (.ref 1), some (.ref 32), some (.int x3)] [.int v, .int y3] h1 o := pe_callV [.int y1, .int y0] [.int y3] pr_158_710 pl_ml12105 (pm_148) (Nat.le_of_ble_eq_true rfl) rfl rfl (Nat.le_of_ble_eq_true rfl) (Nat.le_of_ble_eq_true rfl) rfl cc
set_option maxRecDepth 100000 in
set_option maxHeartbeats 4000000 in
theorem pk_la_law_763 {L : Nat} {hi : Nat → Nat → Int32} {hl : Nat → Nat → Int64} {x3 : Int32} {y0 : Int32} {y1 : Int32} {y2 : Int32} {y3 : Int32} {z5 : Int64} {v : Int64} {h1 : pj_H} {o : Option Value × pj_H} (cc : pe_C pj_m149 [.ref 32, .int y3, .int y2, .int y1, .int y0] (pj_SH L, hi, hl) (some (.long v)) h1) : pe_E pj_mL 763 [some (.ref 0), some (.ref 1), some (.ref 32), some (.int x3)] [.int y0, .int y1, .int y2, .int y3, .ref 32, .long z5] (pj_SH L, hi, hl) o = pe_E pj_mL 766 [some (.ref 0), some (.ref 1), some (.ref 32), some (.int x3)] [.long v, .long z5] h1 o := pe_callV [.int y3, .int y2, .int y1, .int y0] [.long z5] pr_158_763 pl_ml12110 (pm_149) (Nat.le_of_ble_eq_true rfl) rfl rfl (Nat.le_of_ble_eq_true rfl) (Nat.le_of_ble_eq_true rfl) rfl cc
set_option maxRecDepth 100000 in
set_option maxHeartbeats 4000000 in
theorem pk_la_law_807 {L : Nat} {hi : Nat → Nat → Int32} {hl : Nat → Nat → Int64} {x3 : Int32} {y0 : Int32} {y1 : Int32} {y2 : Int32} {y4 : Int32} {v : Int32} {h1 : pj_H} {o : Option Value × pj_H} (cc : pe_C pj_m150 [.ref 32, .int y2, .int y1, .int y0] (pj_SH L, hi, hl) (some (.int v)) h1) : pe_E pj_mL 807 [some (.ref 0), some (.ref 1), some (.ref 32), some (.int x3)] [.int y0, .int y1, .int y2, .ref 32, .int y4] (pj_SH L, hi, hl) o = pe_E pj_mL 810 [some (.ref 0), some (.ref 1), some (.ref 32), some (.int x3)] [.int v, .int y4] h1 o := pe_callV [.int y2, .int y1, .int y0] [.int y4] pr_158_807 pl_ml12114 (pm_150) (Nat.le_of_ble_eq_true rfl) rfl rfl (Nat.le_of_ble_eq_true rfl) (Nat.le_of_ble_eq_true rfl) rfl cc
set_option maxRecDepth 100000 in
set_option maxHeartbeats 4000000 in
theorem pk_la_law_830 {L : Nat} {hi : Nat → Nat → Int32} {hl : Nat → Nat → Int64} {x3 : Int32} {y0 : Int32} {y2 : Int32} {v : Int32} {h1 : pj_H} {o : Option Value × pj_H} (cc : pe_C pj_m151 [.ref 32, .int y0] (pj_SH L, hi, hl) (some (.int v)) h1) : pe_E pj_mL 830 [some (.ref 0), some (.ref 1), some (.ref 32), some (.int x3)] [.int y0, .ref 32, .int y2] (pj_SH L, hi, hl) o = pe_E pj_mL 833 [some (.ref 0), some (.ref 1), some (.ref 32), some (.int x3)] [.int v, .int y2] h1 o := pe_callV [.int y0] [.int y2] pr_158_830 pl_ml12118 (pm_151) (Nat.le_of_ble_eq_true rfl) rfl rfl (Nat.le_of_ble_eq_true rfl) (Nat.le_of_ble_eq_true rfl) rfl cc
set_option maxRecDepth 100000 in
set_option maxHeartbeats 4000000 in
theorem pk_la_law_853 {L : Nat} {hi : Nat → Nat → Int32} {hl : Nat → Nat → Int64} {x3 : Int32} {y0 : Int32} {y2 : Int32} {v : Int32} {h1 : pj_H} {o : Option Value × pj_H} (cc : pe_C pj_m152 [.ref 32, .int y0] (pj_SH L, hi, hl) (some (.int v)) h1) : pe_E pj_mL 853 [some (.ref 0), some (.ref 1), some (.ref 32), some (.int x3)] [.int y0, .ref 32, .int y2] (pj_SH L, hi, hl) o = pe_E pj_mL 856 [some (.ref 0), some (.ref 1), some (.ref 32), some (.int x3)] [.int v, .int y2] h1 o := pe_callV [.int y0] [.int y2] pr_158_853 pl_ml12122 (pm_152) (Nat.le_of_ble_eq_true rfl) rfl rfl (Nat.le_of_ble_eq_true rfl) (Nat.le_of_ble_eq_true rfl) rfl cc
set_option maxRecDepth 100000 in
set_option maxHeartbeats 4000000 in
theorem pk_la_law_876 {L : Nat} {hi : Nat → Nat → Int32} {hl : Nat → Nat → Int64} {x3 : Int32} {y0 : Int32} {y2 : Int32} {v : Int32} {h1 : pj_H} {o : Option Value × pj_H} (cc : pe_C pj_m153 [.ref 32, .int y0] (pj_SH L, hi, hl) (some (.int v)) h1) : pe_E pj_mL 876 [some (.ref 0), some (.ref 1), some (.ref 32), some (.int x3)] [.int y0, .ref 32, .int y2] (pj_SH L, hi, hl) o = pe_E pj_mL 879 [some (.ref 0), some (.ref 1), some (.ref 32), some (.int x3)] [.int v, .int y2] h1 o := pe_callV [.int y0] [.int y2] pr_158_876 pl_ml12126 (pm_153) (Nat.le_of_ble_eq_true rfl) rfl rfl (Nat.le_of_ble_eq_true rfl) (Nat.le_of_ble_eq_true rfl) rfl cc
set_option maxRecDepth 100000 in
set_option maxHeartbeats 4000000 in
theorem pb_la_law_194 {L : Nat} {hi : Nat → Nat → Int32} {hl : Nat → Nat → Int64} {x3 : Int32} {y0 : Int32} {y1 : Int32} {o : Option Value × pj_H}  : pe_E pj_mL 194 [some (.ref 0), some (.ref 1), some (.ref 32), some (.int x3)] [.int y0, .int y1] (pj_SH L, hi, hl) o = (if y1 = y0 then pe_E pj_mL 18 [some (.ref 0), some (.ref 1), some (.ref 32), some (.int (x3 + 5))] [] (pj_SH L, hi, hl) o else ((some (.int 0), (pj_SH L, hi, hl)) = o)) := (pe_icmp (t := 884) (c := y1 = y0) pr_158_194 rfl rfl).trans (pe_cng (c := y1 = y0) (fun h1 => (pe_iinc pr_158_884 rfl pc_i5 rfl).trans (pe_goto (t := 18) pr_158_887 rfl)) (fun h1 => (pe_iconst pr_158_197 pc_i0).trans (pe_zret pr_158_198 rfl (by decide))))
set_option maxRecDepth 100000 in
set_option maxHeartbeats 4000000 in
theorem pb_la_law_227 {L : Nat} {hi : Nat → Nat → Int32} {hl : Nat → Nat → Int64} {x3 : Int32} {y0 : Int32} {y1 : Int32} {o : Option Value × pj_H}  : pe_E pj_mL 227 [some (.ref 0), some (.ref 1), some (.ref 32), some (.int x3)] [.int y0, .int y1] (pj_SH L, hi, hl) o = (if y1 = y0 then pe_E pj_mL 18 [some (.ref 0), some (.ref 1), some (.ref 32), some (.int (x3 + 5))] [] (pj_SH L, hi, hl) o else ((some (.int 0), (pj_SH L, hi, hl)) = o)) := (pe_icmp (t := 884) (c := y1 = y0) pr_158_227 rfl rfl).trans (pe_cng (c := y1 = y0) (fun h1 => (pe_iinc pr_158_884 rfl pc_i5 rfl).trans (pe_goto (t := 18) pr_158_887 rfl)) (fun h1 => (pe_iconst pr_158_230 pc_i0).trans (pe_zret pr_158_231 rfl (by decide))))
set_option maxRecDepth 100000 in
set_option maxHeartbeats 4000000 in
theorem pb_la_law_260 {L : Nat} {hi : Nat → Nat → Int32} {hl : Nat → Nat → Int64} {x3 : Int32} {y0 : Int32} {y1 : Int32} {o : Option Value × pj_H}  : pe_E pj_mL 260 [some (.ref 0), some (.ref 1), some (.ref 32), some (.int x3)] [.int y0, .int y1] (pj_SH L, hi, hl) o = (if y1 = y0 then pe_E pj_mL 18 [some (.ref 0), some (.ref 1), some (.ref 32), some (.int (x3 + 5))] [] (pj_SH L, hi, hl) o else ((some (.int 0), (pj_SH L, hi, hl)) = o)) := (pe_icmp (t := 884) (c := y1 = y0) pr_158_260 rfl rfl).trans (pe_cng (c := y1 = y0) (fun h1 => (pe_iinc pr_158_884 rfl pc_i5 rfl).trans (pe_goto (t := 18) pr_158_887 rfl)) (fun h1 => (pe_iconst pr_158_263 pc_i0).trans (pe_zret pr_158_264 rfl (by decide))))
set_option maxRecDepth 100000 in
set_option maxHeartbeats 4000000 in
theorem pb_la_law_283 {L : Nat} {hi : Nat → Nat → Int32} {hl : Nat → Nat → Int64} {x3 : Int32} {y0 : Int32} {y1 : Int32} {o : Option Value × pj_H}  : pe_E pj_mL 283 [some (.ref 0), some (.ref 1), some (.ref 32), some (.int x3)] [.int y0, .int y1] (pj_SH L, hi, hl) o = (if y1 = y0 then pe_E pj_mL 18 [some (.ref 0), some (.ref 1), some (.ref 32), some (.int (x3 + 5))] [] (pj_SH L, hi, hl) o else ((some (.int 0), (pj_SH L, hi, hl)) = o)) := (pe_icmp (t := 884) (c := y1 = y0) pr_158_283 rfl rfl).trans (pe_cng (c := y1 = y0) (fun h1 => (pe_iinc pr_158_884 rfl pc_i5 rfl).trans (pe_goto (t := 18) pr_158_887 rfl)) (fun h1 => (pe_iconst pr_158_286 pc_i0).trans (pe_zret pr_158_287 rfl (by decide))))
set_option maxRecDepth 100000 in
set_option maxHeartbeats 4000000 in
theorem pb_la_law_296 {L : Nat} {hi : Nat → Nat → Int32} {hl : Nat → Nat → Int64} {x3 : Int32} {y0 : Int32} {y1 : Int32} {o : Option Value × pj_H}  : pe_E pj_mL 296 [some (.ref 0), some (.ref 1), some (.ref 32), some (.int x3)] [.int y0, .int y1] (pj_SH L, hi, hl) o = (if y1 = y0 then pe_E pj_mL 18 [some (.ref 0), some (.ref 1), some (.ref 32), some (.int (x3 + 5))] [] (pj_SH L, hi, hl) o else ((some (.int 0), (pj_SH L, hi, hl)) = o)) := (pe_icmp (t := 884) (c := y1 = y0) pr_158_296 rfl rfl).trans (pe_cng (c := y1 = y0) (fun h1 => (pe_iinc pr_158_884 rfl pc_i5 rfl).trans (pe_goto (t := 18) pr_158_887 rfl)) (fun h1 => (pe_iconst pr_158_299 pc_i0).trans (pe_zret pr_158_300 rfl (by decide))))
set_option maxRecDepth 100000 in
set_option maxHeartbeats 4000000 in
theorem pb_la_law_309 {L : Nat} {hi : Nat → Nat → Int32} {hl : Nat → Nat → Int64} {x3 : Int32} {y0 : Int32} {y1 : Int32} {o : Option Value × pj_H}  : pe_E pj_mL 309 [some (.ref 0), some (.ref 1), some (.ref 32), some (.int x3)] [.int y0, .int y1] (pj_SH L, hi, hl) o = (if y1 = y0 then pe_E pj_mL 18 [some (.ref 0), some (.ref 1), some (.ref 32), some (.int (x3 + 5))] [] (pj_SH L, hi, hl) o else ((some (.int 0), (pj_SH L, hi, hl)) = o)) := (pe_icmp (t := 884) (c := y1 = y0) pr_158_309 rfl rfl).trans (pe_cng (c := y1 = y0) (fun h1 => (pe_iinc pr_158_884 rfl pc_i5 rfl).trans (pe_goto (t := 18) pr_158_887 rfl)) (fun h1 => (pe_iconst pr_158_312 pc_i0).trans (pe_zret pr_158_313 rfl (by decide))))
set_option maxRecDepth 100000 in
set_option maxHeartbeats 4000000 in
theorem pb_la_law_332 {L : Nat} {hi : Nat → Nat → Int32} {hl : Nat → Nat → Int64} {x3 : Int32} {y0 : Int32} {y1 : Int32} {o : Option Value × pj_H}  : pe_E pj_mL 332 [some (.ref 0), some (.ref 1), some (.ref 32), some (.int x3)] [.int y0, .int y1] (pj_SH L, hi, hl) o = (if y1 = y0 then pe_E pj_mL 18 [some (.ref 0), some (.ref 1), some (.ref 32), some (.int (x3 + 5))] [] (pj_SH L, hi, hl) o else ((some (.int 0), (pj_SH L, hi, hl)) = o)) := (pe_icmp (t := 884) (c := y1 = y0) pr_158_332 rfl rfl).trans (pe_cng (c := y1 = y0) (fun h1 => (pe_iinc pr_158_884 rfl pc_i5 rfl).trans (pe_goto (t := 18) pr_158_887 rfl)) (fun h1 => (pe_iconst pr_158_335 pc_i0).trans (pe_zret pr_158_336 rfl (by decide))))
set_option maxRecDepth 100000 in
set_option maxHeartbeats 4000000 in
theorem pb_la_law_345 {L : Nat} {hi : Nat → Nat → Int32} {hl : Nat → Nat → Int64} {x3 : Int32} {y0 : Int32} {y1 : Int32} {o : Option Value × pj_H}  : pe_E pj_mL 345 [some (.ref 0), some (.ref 1), some (.ref 32), some (.int x3)] [.int y0, .int y1] (pj_SH L, hi, hl) o = (if y1 = y0 then pe_E pj_mL 18 [some (.ref 0), some (.ref 1), some (.ref 32), some (.int (x3 + 5))] [] (pj_SH L, hi, hl) o else ((some (.int 0), (pj_SH L, hi, hl)) = o)) := (pe_icmp (t := 884) (c := y1 = y0) pr_158_345 rfl rfl).trans (pe_cng (c := y1 = y0) (fun h1 => (pe_iinc pr_158_884 rfl pc_i5 rfl).trans (pe_goto (t := 18) pr_158_887 rfl)) (fun h1 => (pe_iconst pr_158_348 pc_i0).trans (pe_zret pr_158_349 rfl (by decide))))
set_option maxRecDepth 100000 in
set_option maxHeartbeats 4000000 in
theorem pb_la_law_378 {L : Nat} {hi : Nat → Nat → Int32} {hl : Nat → Nat → Int64} {x3 : Int32} {y0 : Int32} {y1 : Int32} {o : Option Value × pj_H}  : pe_E pj_mL 378 [some (.ref 0), some (.ref 1), some (.ref 32), some (.int x3)] [.int y0, .int y1] (pj_SH L, hi, hl) o = (if y1 = y0 then pe_E pj_mL 18 [some (.ref 0), some (.ref 1), some (.ref 32), some (.int (x3 + 5))] [] (pj_SH L, hi, hl) o else ((some (.int 0), (pj_SH L, hi, hl)) = o)) := (pe_icmp (t := 884) (c := y1 = y0) pr_158_378 rfl rfl).trans (pe_cng (c := y1 = y0) (fun h1 => (pe_iinc pr_158_884 rfl pc_i5 rfl).trans (pe_goto (t := 18) pr_158_887 rfl)) (fun h1 => (pe_iconst pr_158_381 pc_i0).trans (pe_zret pr_158_382 rfl (by decide))))
set_option maxRecDepth 100000 in
set_option maxHeartbeats 4000000 in
theorem pb_la_law_401 {L : Nat} {hi : Nat → Nat → Int32} {hl : Nat → Nat → Int64} {x3 : Int32} {y0 : Int32} {y1 : Int32} {o : Option Value × pj_H}  : pe_E pj_mL 401 [some (.ref 0), some (.ref 1), some (.ref 32), some (.int x3)] [.int y0, .int y1] (pj_SH L, hi, hl) o = (if y1 = y0 then pe_E pj_mL 18 [some (.ref 0), some (.ref 1), some (.ref 32), some (.int (x3 + 5))] [] (pj_SH L, hi, hl) o else ((some (.int 0), (pj_SH L, hi, hl)) = o)) := (pe_icmp (t := 884) (c := y1 = y0) pr_158_401 rfl rfl).trans (pe_cng (c := y1 = y0) (fun h1 => (pe_iinc pr_158_884 rfl pc_i5 rfl).trans (pe_goto (t := 18) pr_158_887 rfl)) (fun h1 => (pe_iconst pr_158_404 pc_i0).trans (pe_zret pr_158_405 rfl (by decide))))
set_option maxRecDepth 100000 in
set_option maxHeartbeats 4000000 in
theorem pb_la_law_424 {L : Nat} {hi : Nat → Nat → Int32} {hl : Nat → Nat → Int64} {x3 : Int32} {y0 : Int32} {y1 : Int32} {o : Option Value × pj_H}  : pe_E pj_mL 424 [some (.ref 0), some (.ref 1), some (.ref 32), some (.int x3)] [.int y0, .int y1] (pj_SH L, hi, hl) o = (if y1 = y0 then pe_E pj_mL 18 [some (.ref 0), some (.ref 1), some (.ref 32), some (.int (x3 + 5))] [] (pj_SH L, hi, hl) o else ((some (.int 0), (pj_SH L, hi, hl)) = o)) := (pe_icmp (t := 884) (c := y1 = y0) pr_158_424 rfl rfl).trans (pe_cng (c := y1 = y0) (fun h1 => (pe_iinc pr_158_884 rfl pc_i5 rfl).trans (pe_goto (t := 18) pr_158_887 rfl)) (fun h1 => (pe_iconst pr_158_427 pc_i0).trans (pe_zret pr_158_428 rfl (by decide))))
set_option maxRecDepth 100000 in
set_option maxHeartbeats 4000000 in
theorem pb_la_law_457 {L : Nat} {hi : Nat → Nat → Int32} {hl : Nat → Nat → Int64} {x3 : Int32} {y0 : Int32} {y1 : Int32} {o : Option Value × pj_H}  : pe_E pj_mL 457 [some (.ref 0), some (.ref 1), some (.ref 32), some (.int x3)] [.int y0, .int y1] (pj_SH L, hi, hl) o = (if y1 = y0 then pe_E pj_mL 18 [some (.ref 0), some (.ref 1), some (.ref 32), some (.int (x3 + 5))] [] (pj_SH L, hi, hl) o else ((some (.int 0), (pj_SH L, hi, hl)) = o)) := (pe_icmp (t := 884) (c := y1 = y0) pr_158_457 rfl rfl).trans (pe_cng (c := y1 = y0) (fun h1 => (pe_iinc pr_158_884 rfl pc_i5 rfl).trans (pe_goto (t := 18) pr_158_887 rfl)) (fun h1 => (pe_iconst pr_158_460 pc_i0).trans (pe_zret pr_158_461 rfl (by decide))))
set_option maxRecDepth 100000 in
set_option maxHeartbeats 4000000 in
theorem pb_la_law_480 {L : Nat} {hi : Nat → Nat → Int32} {hl : Nat → Nat → Int64} {x3 : Int32} {y0 : Int32} {y1 : Int32} {o : Option Value × pj_H}  : pe_E pj_mL 480 [some (.ref 0), some (.ref 1), some (.ref 32), some (.int x3)] [.int y0, .int y1] (pj_SH L, hi, hl) o = (if y1 = y0 then pe_E pj_mL 18 [some (.ref 0), some (.ref 1), some (.ref 32), some (.int (x3 + 5))] [] (pj_SH L, hi, hl) o else ((some (.int 0), (pj_SH L, hi, hl)) = o)) := (pe_icmp (t := 884) (c := y1 = y0) pr_158_480 rfl rfl).trans (pe_cng (c := y1 = y0) (fun h1 => (pe_iinc pr_158_884 rfl pc_i5 rfl).trans (pe_goto (t := 18) pr_158_887 rfl)) (fun h1 => (pe_iconst pr_158_483 pc_i0).trans (pe_zret pr_158_484 rfl (by decide))))
set_option maxRecDepth 100000 in
set_option maxHeartbeats 4000000 in
theorem pb_la_law_503 {L : Nat} {hi : Nat → Nat → Int32} {hl : Nat → Nat → Int64} {x3 : Int32} {y0 : Int32} {y1 : Int32} {o : Option Value × pj_H}  : pe_E pj_mL 503 [some (.ref 0), some (.ref 1), some (.ref 32), some (.int x3)] [.int y0, .int y1] (pj_SH L, hi, hl) o = (if y1 = y0 then pe_E pj_mL 18 [some (.ref 0), some (.ref 1), some (.ref 32), some (.int (x3 + 5))] [] (pj_SH L, hi, hl) o else ((some (.int 0), (pj_SH L, hi, hl)) = o)) := (pe_icmp (t := 884) (c := y1 = y0) pr_158_503 rfl rfl).trans (pe_cng (c := y1 = y0) (fun h1 => (pe_iinc pr_158_884 rfl pc_i5 rfl).trans (pe_goto (t := 18) pr_158_887 rfl)) (fun h1 => (pe_iconst pr_158_506 pc_i0).trans (pe_zret pr_158_507 rfl (by decide))))
set_option maxRecDepth 100000 in
set_option maxHeartbeats 4000000 in
theorem pb_la_law_536 {L : Nat} {hi : Nat → Nat → Int32} {hl : Nat → Nat → Int64} {x3 : Int32} {y0 : Int32} {y1 : Int32} {o : Option Value × pj_H}  : pe_E pj_mL 536 [some (.ref 0), some (.ref 1), some (.ref 32), some (.int x3)] [.int y0, .int y1] (pj_SH L, hi, hl) o = (if y1 = y0 then pe_E pj_mL 18 [some (.ref 0), some (.ref 1), some (.ref 32), some (.int (x3 + 5))] [] (pj_SH L, hi, hl) o else ((some (.int 0), (pj_SH L, hi, hl)) = o)) := (pe_icmp (t := 884) (c := y1 = y0) pr_158_536 rfl rfl).trans (pe_cng (c := y1 = y0) (fun h1 => (pe_iinc pr_158_884 rfl pc_i5 rfl).trans (pe_goto (t := 18) pr_158_887 rfl)) (fun h1 => (pe_iconst pr_158_539 pc_i0).trans (pe_zret pr_158_540 rfl (by decide))))
set_option maxRecDepth 100000 in
set_option maxHeartbeats 4000000 in
theorem pb_la_law_549 {L : Nat} {hi : Nat → Nat → Int32} {hl : Nat → Nat → Int64} {x3 : Int32} {y0 : Int32} {y1 : Int32} {o : Option Value × pj_H}  : pe_E pj_mL 549 [some (.ref 0), some (.ref 1), some (.ref 32), some (.int x3)] [.int y0, .int y1] (pj_SH L, hi, hl) o = (if y1 = y0 then pe_E pj_mL 18 [some (.ref 0), some (.ref 1), some (.ref 32), some (.int (x3 + 5))] [] (pj_SH L, hi, hl) o else ((some (.int 0), (pj_SH L, hi, hl)) = o)) := (pe_icmp (t := 884) (c := y1 = y0) pr_158_549 rfl rfl).trans (pe_cng (c := y1 = y0) (fun h1 => (pe_iinc pr_158_884 rfl pc_i5 rfl).trans (pe_goto (t := 18) pr_158_887 rfl)) (fun h1 => (pe_iconst pr_158_552 pc_i0).trans (pe_zret pr_158_553 rfl (by decide))))
set_option maxRecDepth 100000 in
set_option maxHeartbeats 4000000 in
theorem pb_la_law_572 {L : Nat} {hi : Nat → Nat → Int32} {hl : Nat → Nat → Int64} {x3 : Int32} {y0 : Int32} {y1 : Int32} {o : Option Value × pj_H}  : pe_E pj_mL 572 [some (.ref 0), some (.ref 1), some (.ref 32), some (.int x3)] [.int y0, .int y1] (pj_SH L, hi, hl) o = (if y1 = y0 then pe_E pj_mL 18 [some (.ref 0), some (.ref 1), some (.ref 32), some (.int (x3 + 5))] [] (pj_SH L, hi, hl) o else ((some (.int 0), (pj_SH L, hi, hl)) = o)) := (pe_icmp (t := 884) (c := y1 = y0) pr_158_572 rfl rfl).trans (pe_cng (c := y1 = y0) (fun h1 => (pe_iinc pr_158_884 rfl pc_i5 rfl).trans (pe_goto (t := 18) pr_158_887 rfl)) (fun h1 => (pe_iconst pr_158_575 pc_i0).trans (pe_zret pr_158_576 rfl (by decide))))
set_option maxRecDepth 100000 in
set_option maxHeartbeats 4000000 in
theorem pb_la_law_621 {L : Nat} {hi : Nat → Nat → Int32} {hl : Nat → Nat → Int64} {x3 : Int32} {y0 : Int32} {y1 : Int32} {o : Option Value × pj_H}  : pe_E pj_mL 621 [some (.ref 0), some (.ref 1), some (.ref 32), some (.int x3)] [.int y0, .int y1] (pj_SH L, hi, hl) o = (if y1 = y0 then pe_E pj_mL 18 [some (.ref 0), some (.ref 1), some (.ref 32), some (.int (x3 + 5))] [] (pj_SH L, hi, hl) o else ((some (.int 0), (pj_SH L, hi, hl)) = o)) := (pe_icmp (t := 884) (c := y1 = y0) pr_158_621 rfl rfl).trans (pe_cng (c := y1 = y0) (fun h1 => (pe_iinc pr_158_884 rfl pc_i5 rfl).trans (pe_goto (t := 18) pr_158_887 rfl)) (fun h1 => (pe_iconst pr_158_624 pc_i0).trans (pe_zret pr_158_625 rfl (by decide))))
set_option maxRecDepth 100000 in
set_option maxHeartbeats 4000000 in
theorem pb_la_law_634 {L : Nat} {hi : Nat → Nat → Int32} {hl : Nat → Nat → Int64} {x3 : Int32} {y0 : Int32} {y1 : Int32} {o : Option Value × pj_H}  : pe_E pj_mL 634 [some (.ref 0), some (.ref 1), some (.ref 32), some (.int x3)] [.int y0, .int y1] (pj_SH L, hi, hl) o = (if y1 = y0 then pe_E pj_mL 18 [some (.ref 0), some (.ref 1), some (.ref 32), some (.int (x3 + 5))] [] (pj_SH L, hi, hl) o else ((some (.int 0), (pj_SH L, hi, hl)) = o)) := (pe_icmp (t := 884) (c := y1 = y0) pr_158_634 rfl rfl).trans (pe_cng (c := y1 = y0) (fun h1 => (pe_iinc pr_158_884 rfl pc_i5 rfl).trans (pe_goto (t := 18) pr_158_887 rfl)) (fun h1 => (pe_iconst pr_158_637 pc_i0).trans (pe_zret pr_158_638 rfl (by decide))))
set_option maxRecDepth 100000 in
set_option maxHeartbeats 4000000 in
theorem pb_la_law_657 {L : Nat} {hi : Nat → Nat → Int32} {hl : Nat → Nat → Int64} {x3 : Int32} {y0 : Int32} {y1 : Int32} {o : Option Value × pj_H}  : pe_E pj_mL 657 [some (.ref 0), some (.ref 1), some (.ref 32), some (.int x3)] [.int y0, .int y1] (pj_SH L, hi, hl) o = (if y1 = y0 then pe_E pj_mL 18 [some (.ref 0), some (.ref 1), some (.ref 32), some (.int (x3 + 5))] [] (pj_SH L, hi, hl) o else ((some (.int 0), (pj_SH L, hi, hl)) = o)) := (pe_icmp (t := 884) (c := y1 = y0) pr_158_657 rfl rfl).trans (pe_cng (c := y1 = y0) (fun h1 => (pe_iinc pr_158_884 rfl pc_i5 rfl).trans (pe_goto (t := 18) pr_158_887 rfl)) (fun h1 => (pe_iconst pr_158_660 pc_i0).trans (pe_zret pr_158_661 rfl (by decide))))
set_option maxRecDepth 100000 in
set_option maxHeartbeats 4000000 in
theorem pb_la_law_680 {L : Nat} {hi : Nat → Nat → Int32} {hl : Nat → Nat → Int64} {x3 : Int32} {y0 : Int32} {y1 : Int32} {o : Option Value × pj_H}  : pe_E pj_mL 680 [some (.ref 0), some (.ref 1), some (.ref 32), some (.int x3)] [.int y0, .int y1] (pj_SH L, hi, hl) o = (if y1 = y0 then pe_E pj_mL 18 [some (.ref 0), some (.ref 1), some (.ref 32), some (.int (x3 + 5))] [] (pj_SH L, hi, hl) o else ((some (.int 0), (pj_SH L, hi, hl)) = o)) := (pe_icmp (t := 884) (c := y1 = y0) pr_158_680 rfl rfl).trans (pe_cng (c := y1 = y0) (fun h1 => (pe_iinc pr_158_884 rfl pc_i5 rfl).trans (pe_goto (t := 18) pr_158_887 rfl)) (fun h1 => (pe_iconst pr_158_683 pc_i0).trans (pe_zret pr_158_684 rfl (by decide))))
set_option maxRecDepth 100000 in
set_option maxHeartbeats 4000000 in
theorem pb_la_law_713 {L : Nat} {hi : Nat → Nat → Int32} {hl : Nat → Nat → Int64} {x3 : Int32} {y0 : Int32} {y1 : Int32} {o : Option Value × pj_H}  : pe_E pj_mL 713 [some (.ref 0), some (.ref 1), some (.ref 32), some (.int x3)] [.int y0, .int y1] (pj_SH L, hi, hl) o = (if y1 = y0 then pe_E pj_mL 18 [some (.ref 0), some (.ref 1), some (.ref 32), some (.int (x3 + 5))] [] (pj_SH L, hi, hl) o else ((some (.int 0), (pj_SH L, hi, hl)) = o)) := (pe_icmp (t := 884) (c := y1 = y0) pr_158_713 rfl rfl).trans (pe_cng (c := y1 = y0) (fun h1 => (pe_iinc pr_158_884 rfl pc_i5 rfl).trans (pe_goto (t := 18) pr_158_887 rfl)) (fun h1 => (pe_iconst pr_158_716 pc_i0).trans (pe_zret pr_158_717 rfl (by decide))))
set_option maxRecDepth 100000 in
set_option maxHeartbeats 4000000 in
theorem pb_la_law_766 {L : Nat} {hi : Nat → Nat → Int32} {hl : Nat → Nat → Int64} {x3 : Int32} {z0 : Int64} {z1 : Int64} {o : Option Value × pj_H}  : pe_E pj_mL 766 [some (.ref 0), some (.ref 1), some (.ref 32), some (.int x3)] [.long z0, .long z1] (pj_SH L, hi, hl) o = (if (lg_cmp z1 z0) = 0 then pe_E pj_mL 18 [some (.ref 0), some (.ref 1), some (.ref 32), some (.int (x3 + 5))] [] (pj_SH L, hi, hl) o else ((some (.int 0), (pj_SH L, hi, hl)) = o)) := (pe_lcmp pr_158_766).trans ((pe_if (t := 884) (c := (lg_cmp z1 z0) = 0) pr_158_767 rfl rfl).trans (pe_cng (c := (lg_cmp z1 z0) = 0) (fun h1 => (pe_iinc pr_158_884 rfl pc_i5 rfl).trans (pe_goto (t := 18) pr_158_887 rfl)) (fun h1 => (pe_iconst pr_158_770 pc_i0).trans (pe_zret pr_158_771 rfl (by decide)))))
set_option maxRecDepth 100000 in
set_option maxHeartbeats 4000000 in
theorem pb_la_law_810 {L : Nat} {hi : Nat → Nat → Int32} {hl : Nat → Nat → Int64} {x3 : Int32} {y0 : Int32} {y1 : Int32} {o : Option Value × pj_H}  : pe_E pj_mL 810 [some (.ref 0), some (.ref 1), some (.ref 32), some (.int x3)] [.int y0, .int y1] (pj_SH L, hi, hl) o = (if y1 = y0 then pe_E pj_mL 18 [some (.ref 0), some (.ref 1), some (.ref 32), some (.int (x3 + 5))] [] (pj_SH L, hi, hl) o else ((some (.int 0), (pj_SH L, hi, hl)) = o)) := (pe_icmp (t := 884) (c := y1 = y0) pr_158_810 rfl rfl).trans (pe_cng (c := y1 = y0) (fun h1 => (pe_iinc pr_158_884 rfl pc_i5 rfl).trans (pe_goto (t := 18) pr_158_887 rfl)) (fun h1 => (pe_iconst pr_158_813 pc_i0).trans (pe_zret pr_158_814 rfl (by decide))))
set_option maxRecDepth 100000 in
set_option maxHeartbeats 4000000 in
theorem pb_la_law_833 {L : Nat} {hi : Nat → Nat → Int32} {hl : Nat → Nat → Int64} {x3 : Int32} {y0 : Int32} {y1 : Int32} {o : Option Value × pj_H}  : pe_E pj_mL 833 [some (.ref 0), some (.ref 1), some (.ref 32), some (.int x3)] [.int y0, .int y1] (pj_SH L, hi, hl) o = (if y1 = y0 then pe_E pj_mL 18 [some (.ref 0), some (.ref 1), some (.ref 32), some (.int (x3 + 5))] [] (pj_SH L, hi, hl) o else ((some (.int 0), (pj_SH L, hi, hl)) = o)) := (pe_icmp (t := 884) (c := y1 = y0) pr_158_833 rfl rfl).trans (pe_cng (c := y1 = y0) (fun h1 => (pe_iinc pr_158_884 rfl pc_i5 rfl).trans (pe_goto (t := 18) pr_158_887 rfl)) (fun h1 => (pe_iconst pr_158_836 pc_i0).trans (pe_zret pr_158_837 rfl (by decide))))
set_option maxRecDepth 100000 in
set_option maxHeartbeats 4000000 in
theorem pb_la_law_856 {L : Nat} {hi : Nat → Nat → Int32} {hl : Nat → Nat → Int64} {x3 : Int32} {y0 : Int32} {y1 : Int32} {o : Option Value × pj_H}  : pe_E pj_mL 856 [some (.ref 0), some (.ref 1), some (.ref 32), some (.int x3)] [.int y0, .int y1] (pj_SH L, hi, hl) o = (if y1 = y0 then pe_E pj_mL 18 [some (.ref 0), some (.ref 1), some (.ref 32), some (.int (x3 + 5))] [] (pj_SH L, hi, hl) o else ((some (.int 0), (pj_SH L, hi, hl)) = o)) := (pe_icmp (t := 884) (c := y1 = y0) pr_158_856 rfl rfl).trans (pe_cng (c := y1 = y0) (fun h1 => (pe_iinc pr_158_884 rfl pc_i5 rfl).trans (pe_goto (t := 18) pr_158_887 rfl)) (fun h1 => (pe_iconst pr_158_859 pc_i0).trans (pe_zret pr_158_860 rfl (by decide))))
set_option maxRecDepth 100000 in
set_option maxHeartbeats 4000000 in
theorem pb_la_law_879 {L : Nat} {hi : Nat → Nat → Int32} {hl : Nat → Nat → Int64} {x3 : Int32} {y0 : Int32} {y1 : Int32} {o : Option Value × pj_H}  : pe_E pj_mL 879 [some (.ref 0), some (.ref 1), some (.ref 32), some (.int x3)] [.int y0, .int y1] (pj_SH L, hi, hl) o = (if y1 = y0 then pe_E pj_mL 18 [some (.ref 0), some (.ref 1), some (.ref 32), some (.int (x3 + 5))] [] (pj_SH L, hi, hl) o else ((some (.int 0), (pj_SH L, hi, hl)) = o)) := (pe_icmp (t := 884) (c := y1 = y0) pr_158_879 rfl rfl).trans (pe_cng (c := y1 = y0) (fun h1 => (pe_iinc pr_158_884 rfl pc_i5 rfl).trans (pe_goto (t := 18) pr_158_887 rfl)) (fun h1 => (pe_iconst pr_158_882 pc_i0).trans (pe_zret pr_158_883 rfl (by decide))))
/-- a pair of calls answers alike and keeps the relation -/
def pr_OK (R : (Nat → Nat → Int32) → (Nat → Nat → Int64) → Prop) (L : Nat) (y1 y2 : pj_M) (as : List Value) : Prop := ∀ hi hl, R hi hl → ∃ (v : Int32) (hi1 : Nat → Nat → Int32) (hl1 : Nat → Nat → Int64) (hi2 : Nat → Nat → Int32) (hl2 : Nat → Nat → Int64), pe_C y1 (.ref 1 :: as) (pj_SH L, hi, hl) (some (.int v)) (pj_SH L, hi1, hl1) ∧ pe_C y2 (.ref 32 :: as) (pj_SH L, hi1, hl1) (some (.int v)) (pj_SH L, hi2, hl2) ∧ R hi2 hl2 ∧ hi1 0 = hi 0 ∧ hi2 0 = hi 0
def pr_OKL (R : (Nat → Nat → Int32) → (Nat → Nat → Int64) → Prop) (L : Nat) (y1 y2 : pj_M) (as : List Value) : Prop := ∀ hi hl, R hi hl → ∃ (v : Int64) (hi1 : Nat → Nat → Int32) (hl1 : Nat → Nat → Int64) (hi2 : Nat → Nat → Int32) (hl2 : Nat → Nat → Int64), pe_C y1 (.ref 1 :: as) (pj_SH L, hi, hl) (some (.long v)) (pj_SH L, hi1, hl1) ∧ pe_C y2 (.ref 32 :: as) (pj_SH L, hi1, hl1) (some (.long v)) (pj_SH L, hi2, hl2) ∧ R hi2 hl2 ∧ hi1 0 = hi 0 ∧ hi2 0 = hi 0
theorem pl_ix {L i k : Nat} (h : i + k < L) (hL : L ≤ 2560) (e : nI i + nI k = nI (i + k)) : ¬ ((nI i + nI k) < 0 ∨ L ≤ (nI i + nI k).toNatClampNeg) := by rw [e]; exact nI_in h (by omega)
theorem lg_cmp_self (v : Int64) : lg_cmp v v = 0 := by unfold lg_cmp; rw [if_neg (fun h => Int64.lt_irrefl h), if_pos rfl]
set_option maxRecDepth 100000 in
set_option maxHeartbeats 4000000 in
/-- the law's case 0: lay -/
theorem pl_case0 {R : (Nat → Nat → Int32) → (Nat → Nat → Int64) → Prop} {L i : Nat} {hi : Nat → Nat → Int32} {hl : Nat → Nat → Int64} (hL : L ≤ 2560) (h5 : i + 5 ≤ L) (OK : ∀ a b c : Int32, pr_OK R L pj_m67 pj_m107 [.int a, .int b, .int c]) (hR : R hi hl) (ih : ∀ hi2 hl2, R hi2 hl2 → ∃ hi3 hl3, pe_E pj_mL 18 [some (.ref 0), some (.ref 1), some (.ref 32), some (.int (nI (i + 5)))] [] (pj_SH L, hi2, hl2) (some (.int 1), (pj_SH L, hi3, hl3))) : ∃ hi3 hl3, pe_E pj_mL 32 [some (.ref 0), some (.ref 1), some (.ref 32), some (.int (nI i))] [.int 0] (pj_SH L, hi, hl) (some (.int 1), (pj_SH L, hi3, hl3)) := by
  obtain ⟨v, hi1, hl1, hi2, hl2, q1, q2, q3, q4, q5⟩ := OK (hi 0 (nI i + nI 1).toNatClampNeg) (hi 0 (nI i + nI 2).toNatClampNeg) (hi 0 (nI i + nI 3).toNatClampNeg) hi hl hR
  obtain ⟨hi3, hl3, hE⟩ := ih hi2 hl2 q3
  refine ⟨hi3, hl3, pb_la_law_32_0.mpr ?_⟩
  refine (pb_la_law_156 (pl_ix (k := 1) (by omega) hL (nI_add i 1)) (pl_ix (k := 2) (by omega) hL (nI_add i 2)) (pl_ix (k := 3) (by omega) hL (nI_add i 3))).mpr ?_
  refine (pk_la_law_172 q1).mpr ?_
  refine (pb_la_law_175 (pl_ix (k := 1) (by omega) hL (nI_add i 1)) (pl_ix (k := 2) (by omega) hL (nI_add i 2)) (pl_ix (k := 3) (by omega) hL (nI_add i 3))).mpr ?_
  rw [q4]
  refine (pk_la_law_191 q2).mpr ?_
  refine (pb_la_law_194.trans (if_pos rfl)).mpr ?_
  have e5 : nI i + 5 = nI (i + 5) := nI_add i 5
  rw [e5]
  exact hE
set_option maxRecDepth 100000 in
set_option maxHeartbeats 4000000 in
/-- the law's case 1: card -/
theorem pl_case1 {R : (Nat → Nat → Int32) → (Nat → Nat → Int64) → Prop} {L i : Nat} {hi : Nat → Nat → Int32} {hl : Nat → Nat → Int64} (hL : L ≤ 2560) (h5 : i + 5 ≤ L) (OK : ∀ a b : Int32, pr_OK R L pj_m68 pj_m108 [.int a, .int b]) (hR : R hi hl) (ih : ∀ hi2 hl2, R hi2 hl2 → ∃ hi3 hl3, pe_E pj_mL 18 [some (.ref 0), some (.ref 1), some (.ref 32), some (.int (nI (i + 5)))] [] (pj_SH L, hi2, hl2) (some (.int 1), (pj_SH L, hi3, hl3))) : ∃ hi3 hl3, pe_E pj_mL 32 [some (.ref 0), some (.ref 1), some (.ref 32), some (.int (nI i))] [.int 1] (pj_SH L, hi, hl) (some (.int 1), (pj_SH L, hi3, hl3)) := by
  obtain ⟨v, hi1, hl1, hi2, hl2, q1, q2, q3, q4, q5⟩ := OK (hi 0 (nI i + nI 1).toNatClampNeg) (hi 0 (nI i + nI 2).toNatClampNeg) hi hl hR
  obtain ⟨hi3, hl3, hE⟩ := ih hi2 hl2 q3
  refine ⟨hi3, hl3, pb_la_law_32_1.mpr ?_⟩
  refine (pb_la_law_199 (pl_ix (k := 1) (by omega) hL (nI_add i 1)) (pl_ix (k := 2) (by omega) hL (nI_add i 2))).mpr ?_
  refine (pk_la_law_210 q1).mpr ?_
  refine (pb_la_law_213 (pl_ix (k := 1) (by omega) hL (nI_add i 1)) (pl_ix (k := 2) (by omega) hL (nI_add i 2))).mpr ?_
  rw [q4]
  refine (pk_la_law_224 q2).mpr ?_
  refine (pb_la_law_227.trans (if_pos rfl)).mpr ?_
  have e5 : nI i + 5 = nI (i + 5) := nI_add i 5
  rw [e5]
  exact hE
set_option maxRecDepth 100000 in
set_option maxHeartbeats 4000000 in
/-- the law's case 2: can -/
theorem pl_case2 {R : (Nat → Nat → Int32) → (Nat → Nat → Int64) → Prop} {L i : Nat} {hi : Nat → Nat → Int32} {hl : Nat → Nat → Int64} (hL : L ≤ 2560) (h5 : i + 5 ≤ L) (OK : ∀ a b : Int32, pr_OK R L pj_m69 pj_m109 [.int a, .int b]) (hR : R hi hl) (ih : ∀ hi2 hl2, R hi2 hl2 → ∃ hi3 hl3, pe_E pj_mL 18 [some (.ref 0), some (.ref 1), some (.ref 32), some (.int (nI (i + 5)))] [] (pj_SH L, hi2, hl2) (some (.int 1), (pj_SH L, hi3, hl3))) : ∃ hi3 hl3, pe_E pj_mL 32 [some (.ref 0), some (.ref 1), some (.ref 32), some (.int (nI i))] [.int 2] (pj_SH L, hi, hl) (some (.int 1), (pj_SH L, hi3, hl3)) := by
  obtain ⟨v, hi1, hl1, hi2, hl2, q1, q2, q3, q4, q5⟩ := OK (hi 0 (nI i + nI 1).toNatClampNeg) (hi 0 (nI i + nI 2).toNatClampNeg) hi hl hR
  obtain ⟨hi3, hl3, hE⟩ := ih hi2 hl2 q3
  refine ⟨hi3, hl3, pb_la_law_32_2.mpr ?_⟩
  refine (pb_la_law_232 (pl_ix (k := 1) (by omega) hL (nI_add i 1)) (pl_ix (k := 2) (by omega) hL (nI_add i 2))).mpr ?_
  refine (pk_la_law_243 q1).mpr ?_
  refine (pb_la_law_246 (pl_ix (k := 1) (by omega) hL (nI_add i 1)) (pl_ix (k := 2) (by omega) hL (nI_add i 2))).mpr ?_
  rw [q4]
  refine (pk_la_law_257 q2).mpr ?_
  refine (pb_la_law_260.trans (if_pos rfl)).mpr ?_
  have e5 : nI i + 5 = nI (i + 5) := nI_add i 5
  rw [e5]
  exact hE
set_option maxRecDepth 100000 in
set_option maxHeartbeats 4000000 in
/-- the law's case 3: say -/
theorem pl_case3 {R : (Nat → Nat → Int32) → (Nat → Nat → Int64) → Prop} {L i : Nat} {hi : Nat → Nat → Int32} {hl : Nat → Nat → Int64} (hL : L ≤ 2560) (h5 : i + 5 ≤ L) (OK : ∀ a : Int32, pr_OK R L pj_m70 pj_m110 [.int a]) (hR : R hi hl) (ih : ∀ hi2 hl2, R hi2 hl2 → ∃ hi3 hl3, pe_E pj_mL 18 [some (.ref 0), some (.ref 1), some (.ref 32), some (.int (nI (i + 5)))] [] (pj_SH L, hi2, hl2) (some (.int 1), (pj_SH L, hi3, hl3))) : ∃ hi3 hl3, pe_E pj_mL 32 [some (.ref 0), some (.ref 1), some (.ref 32), some (.int (nI i))] [.int 3] (pj_SH L, hi, hl) (some (.int 1), (pj_SH L, hi3, hl3)) := by
  obtain ⟨v, hi1, hl1, hi2, hl2, q1, q2, q3, q4, q5⟩ := OK (hi 0 (nI i + nI 1).toNatClampNeg) hi hl hR
  obtain ⟨hi3, hl3, hE⟩ := ih hi2 hl2 q3
  refine ⟨hi3, hl3, pb_la_law_32_3.mpr ?_⟩
  refine (pb_la_law_265 (pl_ix (k := 1) (by omega) hL (nI_add i 1))).mpr ?_
  refine (pk_la_law_271 q1).mpr ?_
  refine (pb_la_law_274 (pl_ix (k := 1) (by omega) hL (nI_add i 1))).mpr ?_
  rw [q4]
  refine (pk_la_law_280 q2).mpr ?_
  refine (pb_la_law_283.trans (if_pos rfl)).mpr ?_
  have e5 : nI i + 5 = nI (i + 5) := nI_add i 5
  rw [e5]
  exact hE
set_option maxRecDepth 100000 in
set_option maxHeartbeats 4000000 in
/-- the law's case 4: wipe -/
theorem pl_case4 {R : (Nat → Nat → Int32) → (Nat → Nat → Int64) → Prop} {L i : Nat} {hi : Nat → Nat → Int32} {hl : Nat → Nat → Int64} (hL : L ≤ 2560) (h5 : i + 5 ≤ L) (OK : pr_OK R L pj_m71 pj_m111 []) (hR : R hi hl) (ih : ∀ hi2 hl2, R hi2 hl2 → ∃ hi3 hl3, pe_E pj_mL 18 [some (.ref 0), some (.ref 1), some (.ref 32), some (.int (nI (i + 5)))] [] (pj_SH L, hi2, hl2) (some (.int 1), (pj_SH L, hi3, hl3))) : ∃ hi3 hl3, pe_E pj_mL 32 [some (.ref 0), some (.ref 1), some (.ref 32), some (.int (nI i))] [.int 4] (pj_SH L, hi, hl) (some (.int 1), (pj_SH L, hi3, hl3)) := by
  obtain ⟨v, hi1, hl1, hi2, hl2, q1, q2, q3, q4, q5⟩ := OK hi hl hR
  obtain ⟨hi3, hl3, hE⟩ := ih hi2 hl2 q3
  refine ⟨hi3, hl3, pb_la_law_32_4.mpr ?_⟩
  refine (pb_la_law_288).mpr ?_
  refine (pk_la_law_289 q1).mpr ?_
  refine (pb_la_law_292).mpr ?_
  refine (pk_la_law_293 q2).mpr ?_
  refine (pb_la_law_296.trans (if_pos rfl)).mpr ?_
  have e5 : nI i + 5 = nI (i + 5) := nI_add i 5
  rw [e5]
  exact hE
set_option maxRecDepth 100000 in
set_option maxHeartbeats 4000000 in
/-- the law's case 5: fault -/
theorem pl_case5 {R : (Nat → Nat → Int32) → (Nat → Nat → Int64) → Prop} {L i : Nat} {hi : Nat → Nat → Int32} {hl : Nat → Nat → Int64} (hL : L ≤ 2560) (h5 : i + 5 ≤ L) (OK : pr_OK R L pj_m72 pj_m114 []) (hR : R hi hl) (ih : ∀ hi2 hl2, R hi2 hl2 → ∃ hi3 hl3, pe_E pj_mL 18 [some (.ref 0), some (.ref 1), some (.ref 32), some (.int (nI (i + 5)))] [] (pj_SH L, hi2, hl2) (some (.int 1), (pj_SH L, hi3, hl3))) : ∃ hi3 hl3, pe_E pj_mL 32 [some (.ref 0), some (.ref 1), some (.ref 32), some (.int (nI i))] [.int 5] (pj_SH L, hi, hl) (some (.int 1), (pj_SH L, hi3, hl3)) := by
  obtain ⟨v, hi1, hl1, hi2, hl2, q1, q2, q3, q4, q5⟩ := OK hi hl hR
  obtain ⟨hi3, hl3, hE⟩ := ih hi2 hl2 q3
  refine ⟨hi3, hl3, pb_la_law_32_5.mpr ?_⟩
  refine (pb_la_law_301).mpr ?_
  refine (pk_la_law_302 q1).mpr ?_
  refine (pb_la_law_305).mpr ?_
  refine (pk_la_law_306 q2).mpr ?_
  refine (pb_la_law_309.trans (if_pos rfl)).mpr ?_
  have e5 : nI i + 5 = nI (i + 5) := nI_add i 5
  rw [e5]
  exact hE
set_option maxRecDepth 100000 in
set_option maxHeartbeats 4000000 in
/-- the law's case 6: judge -/
theorem pl_case6 {R : (Nat → Nat → Int32) → (Nat → Nat → Int64) → Prop} {L i : Nat} {hi : Nat → Nat → Int32} {hl : Nat → Nat → Int64} (hL : L ≤ 2560) (h5 : i + 5 ≤ L) (OK : ∀ a : Int32, pr_OK R L pj_m73 pj_m127 [.int a]) (hR : R hi hl) (ih : ∀ hi2 hl2, R hi2 hl2 → ∃ hi3 hl3, pe_E pj_mL 18 [some (.ref 0), some (.ref 1), some (.ref 32), some (.int (nI (i + 5)))] [] (pj_SH L, hi2, hl2) (some (.int 1), (pj_SH L, hi3, hl3))) : ∃ hi3 hl3, pe_E pj_mL 32 [some (.ref 0), some (.ref 1), some (.ref 32), some (.int (nI i))] [.int 6] (pj_SH L, hi, hl) (some (.int 1), (pj_SH L, hi3, hl3)) := by
  obtain ⟨v, hi1, hl1, hi2, hl2, q1, q2, q3, q4, q5⟩ := OK (hi 0 (nI i + nI 1).toNatClampNeg) hi hl hR
  obtain ⟨hi3, hl3, hE⟩ := ih hi2 hl2 q3
  refine ⟨hi3, hl3, pb_la_law_32_6.mpr ?_⟩
  refine (pb_la_law_314 (pl_ix (k := 1) (by omega) hL (nI_add i 1))).mpr ?_
  refine (pk_la_law_320 q1).mpr ?_
  refine (pb_la_law_323 (pl_ix (k := 1) (by omega) hL (nI_add i 1))).mpr ?_
  rw [q4]
  refine (pk_la_law_329 q2).mpr ?_
  refine (pb_la_law_332.trans (if_pos rfl)).mpr ?_
  have e5 : nI i + 5 = nI (i + 5) := nI_add i 5
  rw [e5]
  exact hE
set_option maxRecDepth 100000 in
set_option maxHeartbeats 4000000 in
/-- the law's case 7: done -/
theorem pl_case7 {R : (Nat → Nat → Int32) → (Nat → Nat → Int64) → Prop} {L i : Nat} {hi : Nat → Nat → Int32} {hl : Nat → Nat → Int64} (hL : L ≤ 2560) (h5 : i + 5 ≤ L) (OK : pr_OK R L pj_m74 pj_m129 []) (hR : R hi hl) (ih : ∀ hi2 hl2, R hi2 hl2 → ∃ hi3 hl3, pe_E pj_mL 18 [some (.ref 0), some (.ref 1), some (.ref 32), some (.int (nI (i + 5)))] [] (pj_SH L, hi2, hl2) (some (.int 1), (pj_SH L, hi3, hl3))) : ∃ hi3 hl3, pe_E pj_mL 32 [some (.ref 0), some (.ref 1), some (.ref 32), some (.int (nI i))] [.int 7] (pj_SH L, hi, hl) (some (.int 1), (pj_SH L, hi3, hl3)) := by
  obtain ⟨v, hi1, hl1, hi2, hl2, q1, q2, q3, q4, q5⟩ := OK hi hl hR
  obtain ⟨hi3, hl3, hE⟩ := ih hi2 hl2 q3
  refine ⟨hi3, hl3, pb_la_law_32_7.mpr ?_⟩
  refine (pb_la_law_337).mpr ?_
  refine (pk_la_law_338 q1).mpr ?_
  refine (pb_la_law_341).mpr ?_
  refine (pk_la_law_342 q2).mpr ?_
  refine (pb_la_law_345.trans (if_pos rfl)).mpr ?_
  have e5 : nI i + 5 = nI (i + 5) := nI_add i 5
  rw [e5]
  exact hE
set_option maxRecDepth 100000 in
set_option maxHeartbeats 4000000 in
/-- the law's case 8: behind -/
theorem pl_case8 {R : (Nat → Nat → Int32) → (Nat → Nat → Int64) → Prop} {L i : Nat} {hi : Nat → Nat → Int32} {hl : Nat → Nat → Int64} (hL : L ≤ 2560) (h5 : i + 5 ≤ L) (OK : ∀ a b : Int32, pr_OK R L pj_m75 pj_m130 [.int a, .int b]) (hR : R hi hl) (ih : ∀ hi2 hl2, R hi2 hl2 → ∃ hi3 hl3, pe_E pj_mL 18 [some (.ref 0), some (.ref 1), some (.ref 32), some (.int (nI (i + 5)))] [] (pj_SH L, hi2, hl2) (some (.int 1), (pj_SH L, hi3, hl3))) : ∃ hi3 hl3, pe_E pj_mL 32 [some (.ref 0), some (.ref 1), some (.ref 32), some (.int (nI i))] [.int 8] (pj_SH L, hi, hl) (some (.int 1), (pj_SH L, hi3, hl3)) := by
  obtain ⟨v, hi1, hl1, hi2, hl2, q1, q2, q3, q4, q5⟩ := OK (hi 0 (nI i + nI 1).toNatClampNeg) (hi 0 (nI i + nI 2).toNatClampNeg) hi hl hR
  obtain ⟨hi3, hl3, hE⟩ := ih hi2 hl2 q3
  refine ⟨hi3, hl3, pb_la_law_32_8.mpr ?_⟩
  refine (pb_la_law_350 (pl_ix (k := 1) (by omega) hL (nI_add i 1)) (pl_ix (k := 2) (by omega) hL (nI_add i 2))).mpr ?_
  refine (pk_la_law_361 q1).mpr ?_
  refine (pb_la_law_364 (pl_ix (k := 1) (by omega) hL (nI_add i 1)) (pl_ix (k := 2) (by omega) hL (nI_add i 2))).mpr ?_
  rw [q4]
  refine (pk_la_law_375 q2).mpr ?_
  refine (pb_la_law_378.trans (if_pos rfl)).mpr ?_
  have e5 : nI i + 5 = nI (i + 5) := nI_add i 5
  rw [e5]
  exact hE
set_option maxRecDepth 100000 in
set_option maxHeartbeats 4000000 in
/-- the law's case 9: left -/
theorem pl_case9 {R : (Nat → Nat → Int32) → (Nat → Nat → Int64) → Prop} {L i : Nat} {hi : Nat → Nat → Int32} {hl : Nat → Nat → Int64} (hL : L ≤ 2560) (h5 : i + 5 ≤ L) (OK : ∀ a : Int32, pr_OK R L pj_m76 pj_m131 [.int a]) (hR : R hi hl) (ih : ∀ hi2 hl2, R hi2 hl2 → ∃ hi3 hl3, pe_E pj_mL 18 [some (.ref 0), some (.ref 1), some (.ref 32), some (.int (nI (i + 5)))] [] (pj_SH L, hi2, hl2) (some (.int 1), (pj_SH L, hi3, hl3))) : ∃ hi3 hl3, pe_E pj_mL 32 [some (.ref 0), some (.ref 1), some (.ref 32), some (.int (nI i))] [.int 9] (pj_SH L, hi, hl) (some (.int 1), (pj_SH L, hi3, hl3)) := by
  obtain ⟨v, hi1, hl1, hi2, hl2, q1, q2, q3, q4, q5⟩ := OK (hi 0 (nI i + nI 1).toNatClampNeg) hi hl hR
  obtain ⟨hi3, hl3, hE⟩ := ih hi2 hl2 q3
  refine ⟨hi3, hl3, pb_la_law_32_9.mpr ?_⟩
  refine (pb_la_law_383 (pl_ix (k := 1) (by omega) hL (nI_add i 1))).mpr ?_
  refine (pk_la_law_389 q1).mpr ?_
  refine (pb_la_law_392 (pl_ix (k := 1) (by omega) hL (nI_add i 1))).mpr ?_
  rw [q4]
  refine (pk_la_law_398 q2).mpr ?_
  refine (pb_la_law_401.trans (if_pos rfl)).mpr ?_
  have e5 : nI i + 5 = nI (i + 5) := nI_add i 5
  rw [e5]
  exact hE
set_option maxRecDepth 100000 in
set_option maxHeartbeats 4000000 in
/-- the law's case 10: then -/
theorem pl_case10 {R : (Nat → Nat → Int32) → (Nat → Nat → Int64) → Prop} {L i : Nat} {hi : Nat → Nat → Int32} {hl : Nat → Nat → Int64} (hL : L ≤ 2560) (h5 : i + 5 ≤ L) (OK : ∀ a : Int32, pr_OK R L pj_m77 pj_m132 [.int a]) (hR : R hi hl) (ih : ∀ hi2 hl2, R hi2 hl2 → ∃ hi3 hl3, pe_E pj_mL 18 [some (.ref 0), some (.ref 1), some (.ref 32), some (.int (nI (i + 5)))] [] (pj_SH L, hi2, hl2) (some (.int 1), (pj_SH L, hi3, hl3))) : ∃ hi3 hl3, pe_E pj_mL 32 [some (.ref 0), some (.ref 1), some (.ref 32), some (.int (nI i))] [.int 10] (pj_SH L, hi, hl) (some (.int 1), (pj_SH L, hi3, hl3)) := by
  obtain ⟨v, hi1, hl1, hi2, hl2, q1, q2, q3, q4, q5⟩ := OK (hi 0 (nI i + nI 1).toNatClampNeg) hi hl hR
  obtain ⟨hi3, hl3, hE⟩ := ih hi2 hl2 q3
  refine ⟨hi3, hl3, pb_la_law_32_10.mpr ?_⟩
  refine (pb_la_law_406 (pl_ix (k := 1) (by omega) hL (nI_add i 1))).mpr ?_
  refine (pk_la_law_412 q1).mpr ?_
  refine (pb_la_law_415 (pl_ix (k := 1) (by omega) hL (nI_add i 1))).mpr ?_
  rw [q4]
  refine (pk_la_law_421 q2).mpr ?_
  refine (pb_la_law_424.trans (if_pos rfl)).mpr ?_
  have e5 : nI i + 5 = nI (i + 5) := nI_add i 5
  rw [e5]
  exact hE
set_option maxRecDepth 100000 in
set_option maxHeartbeats 4000000 in
/-- the law's case 11: turned -/
theorem pl_case11 {R : (Nat → Nat → Int32) → (Nat → Nat → Int64) → Prop} {L i : Nat} {hi : Nat → Nat → Int32} {hl : Nat → Nat → Int64} (hL : L ≤ 2560) (h5 : i + 5 ≤ L) (OK : ∀ a b : Int32, pr_OK R L pj_m78 pj_m118 [.int a, .int b]) (hR : R hi hl) (ih : ∀ hi2 hl2, R hi2 hl2 → ∃ hi3 hl3, pe_E pj_mL 18 [some (.ref 0), some (.ref 1), some (.ref 32), some (.int (nI (i + 5)))] [] (pj_SH L, hi2, hl2) (some (.int 1), (pj_SH L, hi3, hl3))) : ∃ hi3 hl3, pe_E pj_mL 32 [some (.ref 0), some (.ref 1), some (.ref 32), some (.int (nI i))] [.int 11] (pj_SH L, hi, hl) (some (.int 1), (pj_SH L, hi3, hl3)) := by
  obtain ⟨v, hi1, hl1, hi2, hl2, q1, q2, q3, q4, q5⟩ := OK (hi 0 (nI i + nI 1).toNatClampNeg) (hi 0 (nI i + nI 2).toNatClampNeg) hi hl hR
  obtain ⟨hi3, hl3, hE⟩ := ih hi2 hl2 q3
  refine ⟨hi3, hl3, pb_la_law_32_11.mpr ?_⟩
  refine (pb_la_law_429 (pl_ix (k := 1) (by omega) hL (nI_add i 1)) (pl_ix (k := 2) (by omega) hL (nI_add i 2))).mpr ?_
  refine (pk_la_law_440 q1).mpr ?_
  refine (pb_la_law_443 (pl_ix (k := 1) (by omega) hL (nI_add i 1)) (pl_ix (k := 2) (by omega) hL (nI_add i 2))).mpr ?_
  rw [q4]
  refine (pk_la_law_454 q2).mpr ?_
  refine (pb_la_law_457.trans (if_pos rfl)).mpr ?_
  have e5 : nI i + 5 = nI (i + 5) := nI_add i 5
  rw [e5]
  exact hE
set_option maxRecDepth 100000 in
set_option maxHeartbeats 4000000 in
/-- the law's case 12: patch -/
theorem pl_case12 {R : (Nat → Nat → Int32) → (Nat → Nat → Int64) → Prop} {L i : Nat} {hi : Nat → Nat → Int32} {hl : Nat → Nat → Int64} (hL : L ≤ 2560) (h5 : i + 5 ≤ L) (OK : ∀ a : Int32, pr_OK R L pj_m79 pj_m134 [.int a]) (hR : R hi hl) (ih : ∀ hi2 hl2, R hi2 hl2 → ∃ hi3 hl3, pe_E pj_mL 18 [some (.ref 0), some (.ref 1), some (.ref 32), some (.int (nI (i + 5)))] [] (pj_SH L, hi2, hl2) (some (.int 1), (pj_SH L, hi3, hl3))) : ∃ hi3 hl3, pe_E pj_mL 32 [some (.ref 0), some (.ref 1), some (.ref 32), some (.int (nI i))] [.int 12] (pj_SH L, hi, hl) (some (.int 1), (pj_SH L, hi3, hl3)) := by
  obtain ⟨v, hi1, hl1, hi2, hl2, q1, q2, q3, q4, q5⟩ := OK (hi 0 (nI i + nI 1).toNatClampNeg) hi hl hR
  obtain ⟨hi3, hl3, hE⟩ := ih hi2 hl2 q3
  refine ⟨hi3, hl3, pb_la_law_32_12.mpr ?_⟩
  refine (pb_la_law_462 (pl_ix (k := 1) (by omega) hL (nI_add i 1))).mpr ?_
  refine (pk_la_law_468 q1).mpr ?_
  refine (pb_la_law_471 (pl_ix (k := 1) (by omega) hL (nI_add i 1))).mpr ?_
  rw [q4]
  refine (pk_la_law_477 q2).mpr ?_
  refine (pb_la_law_480.trans (if_pos rfl)).mpr ?_
  have e5 : nI i + 5 = nI (i + 5) := nI_add i 5
  rw [e5]
  exact hE
set_option maxRecDepth 100000 in
set_option maxHeartbeats 4000000 in
/-- the law's case 13: box -/
theorem pl_case13 {R : (Nat → Nat → Int32) → (Nat → Nat → Int64) → Prop} {L i : Nat} {hi : Nat → Nat → Int32} {hl : Nat → Nat → Int64} (hL : L ≤ 2560) (h5 : i + 5 ≤ L) (OK : ∀ a : Int32, pr_OK R L pj_m80 pj_m135 [.int a]) (hR : R hi hl) (ih : ∀ hi2 hl2, R hi2 hl2 → ∃ hi3 hl3, pe_E pj_mL 18 [some (.ref 0), some (.ref 1), some (.ref 32), some (.int (nI (i + 5)))] [] (pj_SH L, hi2, hl2) (some (.int 1), (pj_SH L, hi3, hl3))) : ∃ hi3 hl3, pe_E pj_mL 32 [some (.ref 0), some (.ref 1), some (.ref 32), some (.int (nI i))] [.int 13] (pj_SH L, hi, hl) (some (.int 1), (pj_SH L, hi3, hl3)) := by
  obtain ⟨v, hi1, hl1, hi2, hl2, q1, q2, q3, q4, q5⟩ := OK (hi 0 (nI i + nI 1).toNatClampNeg) hi hl hR
  obtain ⟨hi3, hl3, hE⟩ := ih hi2 hl2 q3
  refine ⟨hi3, hl3, pb_la_law_32_13.mpr ?_⟩
  refine (pb_la_law_485 (pl_ix (k := 1) (by omega) hL (nI_add i 1))).mpr ?_
  refine (pk_la_law_491 q1).mpr ?_
  refine (pb_la_law_494 (pl_ix (k := 1) (by omega) hL (nI_add i 1))).mpr ?_
  rw [q4]
  refine (pk_la_law_500 q2).mpr ?_
  refine (pb_la_law_503.trans (if_pos rfl)).mpr ?_
  have e5 : nI i + 5 = nI (i + 5) := nI_add i 5
  rw [e5]
  exact hE
set_option maxRecDepth 100000 in
set_option maxHeartbeats 4000000 in
/-- the law's case 14: cover -/
theorem pl_case14 {R : (Nat → Nat → Int32) → (Nat → Nat → Int64) → Prop} {L i : Nat} {hi : Nat → Nat → Int32} {hl : Nat → Nat → Int64} (hL : L ≤ 2560) (h5 : i + 5 ≤ L) (OK : ∀ a b : Int32, pr_OK R L pj_m81 pj_m136 [.int a, .int b]) (hR : R hi hl) (ih : ∀ hi2 hl2, R hi2 hl2 → ∃ hi3 hl3, pe_E pj_mL 18 [some (.ref 0), some (.ref 1), some (.ref 32), some (.int (nI (i + 5)))] [] (pj_SH L, hi2, hl2) (some (.int 1), (pj_SH L, hi3, hl3))) : ∃ hi3 hl3, pe_E pj_mL 32 [some (.ref 0), some (.ref 1), some (.ref 32), some (.int (nI i))] [.int 14] (pj_SH L, hi, hl) (some (.int 1), (pj_SH L, hi3, hl3)) := by
  obtain ⟨v, hi1, hl1, hi2, hl2, q1, q2, q3, q4, q5⟩ := OK (hi 0 (nI i + nI 1).toNatClampNeg) (hi 0 (nI i + nI 2).toNatClampNeg) hi hl hR
  obtain ⟨hi3, hl3, hE⟩ := ih hi2 hl2 q3
  refine ⟨hi3, hl3, pb_la_law_32_14.mpr ?_⟩
  refine (pb_la_law_508 (pl_ix (k := 1) (by omega) hL (nI_add i 1)) (pl_ix (k := 2) (by omega) hL (nI_add i 2))).mpr ?_
  refine (pk_la_law_519 q1).mpr ?_
  refine (pb_la_law_522 (pl_ix (k := 1) (by omega) hL (nI_add i 1)) (pl_ix (k := 2) (by omega) hL (nI_add i 2))).mpr ?_
  rw [q4]
  refine (pk_la_law_533 q2).mpr ?_
  refine (pb_la_law_536.trans (if_pos rfl)).mpr ?_
  have e5 : nI i + 5 = nI (i + 5) := nI_add i 5
  rw [e5]
  exact hE
set_option maxRecDepth 100000 in
set_option maxHeartbeats 4000000 in
/-- the law's case 15: pictures -/
theorem pl_case15 {R : (Nat → Nat → Int32) → (Nat → Nat → Int64) → Prop} {L i : Nat} {hi : Nat → Nat → Int32} {hl : Nat → Nat → Int64} (hL : L ≤ 2560) (h5 : i + 5 ≤ L) (OK : pr_OK R L pj_m82 pj_m139 []) (hR : R hi hl) (ih : ∀ hi2 hl2, R hi2 hl2 → ∃ hi3 hl3, pe_E pj_mL 18 [some (.ref 0), some (.ref 1), some (.ref 32), some (.int (nI (i + 5)))] [] (pj_SH L, hi2, hl2) (some (.int 1), (pj_SH L, hi3, hl3))) : ∃ hi3 hl3, pe_E pj_mL 32 [some (.ref 0), some (.ref 1), some (.ref 32), some (.int (nI i))] [.int 15] (pj_SH L, hi, hl) (some (.int 1), (pj_SH L, hi3, hl3)) := by
  obtain ⟨v, hi1, hl1, hi2, hl2, q1, q2, q3, q4, q5⟩ := OK hi hl hR
  obtain ⟨hi3, hl3, hE⟩ := ih hi2 hl2 q3
  refine ⟨hi3, hl3, pb_la_law_32_15.mpr ?_⟩
  refine (pb_la_law_541).mpr ?_
  refine (pk_la_law_542 q1).mpr ?_
  refine (pb_la_law_545).mpr ?_
  refine (pk_la_law_546 q2).mpr ?_
  refine (pb_la_law_549.trans (if_pos rfl)).mpr ?_
  have e5 : nI i + 5 = nI (i + 5) := nI_add i 5
  rw [e5]
  exact hE
set_option maxRecDepth 100000 in
set_option maxHeartbeats 4000000 in
/-- the law's case 16: made -/
theorem pl_case16 {R : (Nat → Nat → Int32) → (Nat → Nat → Int64) → Prop} {L i : Nat} {hi : Nat → Nat → Int32} {hl : Nat → Nat → Int64} (hL : L ≤ 2560) (h5 : i + 5 ≤ L) (OK : ∀ a : Int32, pr_OK R L pj_m83 pj_m140 [.int a]) (hR : R hi hl) (ih : ∀ hi2 hl2, R hi2 hl2 → ∃ hi3 hl3, pe_E pj_mL 18 [some (.ref 0), some (.ref 1), some (.ref 32), some (.int (nI (i + 5)))] [] (pj_SH L, hi2, hl2) (some (.int 1), (pj_SH L, hi3, hl3))) : ∃ hi3 hl3, pe_E pj_mL 32 [some (.ref 0), some (.ref 1), some (.ref 32), some (.int (nI i))] [.int 16] (pj_SH L, hi, hl) (some (.int 1), (pj_SH L, hi3, hl3)) := by
  obtain ⟨v, hi1, hl1, hi2, hl2, q1, q2, q3, q4, q5⟩ := OK (hi 0 (nI i + nI 1).toNatClampNeg) hi hl hR
  obtain ⟨hi3, hl3, hE⟩ := ih hi2 hl2 q3
  refine ⟨hi3, hl3, pb_la_law_32_16.mpr ?_⟩
  refine (pb_la_law_554 (pl_ix (k := 1) (by omega) hL (nI_add i 1))).mpr ?_
  refine (pk_la_law_560 q1).mpr ?_
  refine (pb_la_law_563 (pl_ix (k := 1) (by omega) hL (nI_add i 1))).mpr ?_
  rw [q4]
  refine (pk_la_law_569 q2).mpr ?_
  refine (pb_la_law_572.trans (if_pos rfl)).mpr ?_
  have e5 : nI i + 5 = nI (i + 5) := nI_add i 5
  rw [e5]
  exact hE
set_option maxRecDepth 100000 in
set_option maxHeartbeats 4000000 in
/-- the law's case 17: seen -/
theorem pl_case17 {R : (Nat → Nat → Int32) → (Nat → Nat → Int64) → Prop} {L i : Nat} {hi : Nat → Nat → Int32} {hl : Nat → Nat → Int64} (hL : L ≤ 2560) (h5 : i + 5 ≤ L) (OK : ∀ a b : Int32, (b = 0 ∨ b = 1) → pr_OK R L pj_m84 pj_m142 [.int a, .int b]) (hR : R hi hl) (ih : ∀ hi2 hl2, R hi2 hl2 → ∃ hi3 hl3, pe_E pj_mL 18 [some (.ref 0), some (.ref 1), some (.ref 32), some (.int (nI (i + 5)))] [] (pj_SH L, hi2, hl2) (some (.int 1), (pj_SH L, hi3, hl3))) : ∃ hi3 hl3, pe_E pj_mL 32 [some (.ref 0), some (.ref 1), some (.ref 32), some (.int (nI i))] [.int 17] (pj_SH L, hi, hl) (some (.int 1), (pj_SH L, hi3, hl3)) := by
  obtain ⟨v, hi1, hl1, hi2, hl2, q1, q2, q3, q4, q5⟩ := OK (hi 0 (nI i + nI 1).toNatClampNeg) (pz (¬ (hi 0 (nI i + nI 2).toNatClampNeg = 0))) pz_01 hi hl hR
  obtain ⟨hi3, hl3, hE⟩ := ih hi2 hl2 q3
  refine ⟨hi3, hl3, pb_la_law_32_17.mpr ?_⟩
  refine (pb_la_law_577 (pl_ix (k := 1) (by omega) hL (nI_add i 1)) (pl_ix (k := 2) (by omega) hL (nI_add i 2))).mpr ?_
  refine (pk_la_law_596 q1).mpr ?_
  refine (pb_la_law_599 (pl_ix (k := 1) (by omega) hL (nI_add i 1)) (pl_ix (k := 2) (by omega) hL (nI_add i 2))).mpr ?_
  rw [q4]
  refine (pk_la_law_618 q2).mpr ?_
  refine (pb_la_law_621.trans (if_pos rfl)).mpr ?_
  have e5 : nI i + 5 = nI (i + 5) := nI_add i 5
  rw [e5]
  exact hE
set_option maxRecDepth 100000 in
set_option maxHeartbeats 4000000 in
/-- the law's case 18: forget -/
theorem pl_case18 {R : (Nat → Nat → Int32) → (Nat → Nat → Int64) → Prop} {L i : Nat} {hi : Nat → Nat → Int32} {hl : Nat → Nat → Int64} (hL : L ≤ 2560) (h5 : i + 5 ≤ L) (OK : pr_OK R L pj_m85 pj_m143 []) (hR : R hi hl) (ih : ∀ hi2 hl2, R hi2 hl2 → ∃ hi3 hl3, pe_E pj_mL 18 [some (.ref 0), some (.ref 1), some (.ref 32), some (.int (nI (i + 5)))] [] (pj_SH L, hi2, hl2) (some (.int 1), (pj_SH L, hi3, hl3))) : ∃ hi3 hl3, pe_E pj_mL 32 [some (.ref 0), some (.ref 1), some (.ref 32), some (.int (nI i))] [.int 18] (pj_SH L, hi, hl) (some (.int 1), (pj_SH L, hi3, hl3)) := by
  obtain ⟨v, hi1, hl1, hi2, hl2, q1, q2, q3, q4, q5⟩ := OK hi hl hR
  obtain ⟨hi3, hl3, hE⟩ := ih hi2 hl2 q3
  refine ⟨hi3, hl3, pb_la_law_32_18.mpr ?_⟩
  refine (pb_la_law_626).mpr ?_
  refine (pk_la_law_627 q1).mpr ?_
  refine (pb_la_law_630).mpr ?_
  refine (pk_la_law_631 q2).mpr ?_
  refine (pb_la_law_634.trans (if_pos rfl)).mpr ?_
  have e5 : nI i + 5 = nI (i + 5) := nI_add i 5
  rw [e5]
  exact hE
set_option maxRecDepth 100000 in
set_option maxHeartbeats 4000000 in
/-- the law's case 19: prints -/
theorem pl_case19 {R : (Nat → Nat → Int32) → (Nat → Nat → Int64) → Prop} {L i : Nat} {hi : Nat → Nat → Int32} {hl : Nat → Nat → Int64} (hL : L ≤ 2560) (h5 : i + 5 ≤ L) (OK : ∀ a : Int32, pr_OK R L pj_m86 pj_m146 [.int a]) (hR : R hi hl) (ih : ∀ hi2 hl2, R hi2 hl2 → ∃ hi3 hl3, pe_E pj_mL 18 [some (.ref 0), some (.ref 1), some (.ref 32), some (.int (nI (i + 5)))] [] (pj_SH L, hi2, hl2) (some (.int 1), (pj_SH L, hi3, hl3))) : ∃ hi3 hl3, pe_E pj_mL 32 [some (.ref 0), some (.ref 1), some (.ref 32), some (.int (nI i))] [.int 19] (pj_SH L, hi, hl) (some (.int 1), (pj_SH L, hi3, hl3)) := by
  obtain ⟨v, hi1, hl1, hi2, hl2, q1, q2, q3, q4, q5⟩ := OK (hi 0 (nI i + nI 1).toNatClampNeg) hi hl hR
  obtain ⟨hi3, hl3, hE⟩ := ih hi2 hl2 q3
  refine ⟨hi3, hl3, pb_la_law_32_19.mpr ?_⟩
  refine (pb_la_law_639 (pl_ix (k := 1) (by omega) hL (nI_add i 1))).mpr ?_
  refine (pk_la_law_645 q1).mpr ?_
  refine (pb_la_law_648 (pl_ix (k := 1) (by omega) hL (nI_add i 1))).mpr ?_
  rw [q4]
  refine (pk_la_law_654 q2).mpr ?_
  refine (pb_la_law_657.trans (if_pos rfl)).mpr ?_
  have e5 : nI i + 5 = nI (i + 5) := nI_add i 5
  rw [e5]
  exact hE
set_option maxRecDepth 100000 in
set_option maxHeartbeats 4000000 in
/-- the law's case 20: ask -/
theorem pl_case20 {R : (Nat → Nat → Int32) → (Nat → Nat → Int64) → Prop} {L i : Nat} {hi : Nat → Nat → Int32} {hl : Nat → Nat → Int64} (hL : L ≤ 2560) (h5 : i + 5 ≤ L) (OK : ∀ a : Int32, pr_OK R L pj_m87 pj_m147 [.int a]) (hR : R hi hl) (ih : ∀ hi2 hl2, R hi2 hl2 → ∃ hi3 hl3, pe_E pj_mL 18 [some (.ref 0), some (.ref 1), some (.ref 32), some (.int (nI (i + 5)))] [] (pj_SH L, hi2, hl2) (some (.int 1), (pj_SH L, hi3, hl3))) : ∃ hi3 hl3, pe_E pj_mL 32 [some (.ref 0), some (.ref 1), some (.ref 32), some (.int (nI i))] [.int 20] (pj_SH L, hi, hl) (some (.int 1), (pj_SH L, hi3, hl3)) := by
  obtain ⟨v, hi1, hl1, hi2, hl2, q1, q2, q3, q4, q5⟩ := OK (hi 0 (nI i + nI 1).toNatClampNeg) hi hl hR
  obtain ⟨hi3, hl3, hE⟩ := ih hi2 hl2 q3
  refine ⟨hi3, hl3, pb_la_law_32_20.mpr ?_⟩
  refine (pb_la_law_662 (pl_ix (k := 1) (by omega) hL (nI_add i 1))).mpr ?_
  refine (pk_la_law_668 q1).mpr ?_
  refine (pb_la_law_671 (pl_ix (k := 1) (by omega) hL (nI_add i 1))).mpr ?_
  rw [q4]
  refine (pk_la_law_677 q2).mpr ?_
  refine (pb_la_law_680.trans (if_pos rfl)).mpr ?_
  have e5 : nI i + 5 = nI (i + 5) := nI_add i 5
  rw [e5]
  exact hE
set_option maxRecDepth 100000 in
set_option maxHeartbeats 4000000 in
/-- the law's case 21: steps -/
theorem pl_case21 {R : (Nat → Nat → Int32) → (Nat → Nat → Int64) → Prop} {L i : Nat} {hi : Nat → Nat → Int32} {hl : Nat → Nat → Int64} (hL : L ≤ 2560) (h5 : i + 5 ≤ L) (OK : ∀ a b : Int32, pr_OK R L pj_m88 pj_m148 [.int a, .int b]) (hR : R hi hl) (ih : ∀ hi2 hl2, R hi2 hl2 → ∃ hi3 hl3, pe_E pj_mL 18 [some (.ref 0), some (.ref 1), some (.ref 32), some (.int (nI (i + 5)))] [] (pj_SH L, hi2, hl2) (some (.int 1), (pj_SH L, hi3, hl3))) : ∃ hi3 hl3, pe_E pj_mL 32 [some (.ref 0), some (.ref 1), some (.ref 32), some (.int (nI i))] [.int 21] (pj_SH L, hi, hl) (some (.int 1), (pj_SH L, hi3, hl3)) := by
  obtain ⟨v, hi1, hl1, hi2, hl2, q1, q2, q3, q4, q5⟩ := OK (hi 0 (nI i + nI 1).toNatClampNeg) (hi 0 (nI i + nI 2).toNatClampNeg) hi hl hR
  obtain ⟨hi3, hl3, hE⟩ := ih hi2 hl2 q3
  refine ⟨hi3, hl3, pb_la_law_32_21.mpr ?_⟩
  refine (pb_la_law_685 (pl_ix (k := 1) (by omega) hL (nI_add i 1)) (pl_ix (k := 2) (by omega) hL (nI_add i 2))).mpr ?_
  refine (pk_la_law_696 q1).mpr ?_
  refine (pb_la_law_699 (pl_ix (k := 1) (by omega) hL (nI_add i 1)) (pl_ix (k := 2) (by omega) hL (nI_add i 2))).mpr ?_
  rw [q4]
  refine (pk_la_law_710 q2).mpr ?_
  refine (pb_la_law_713.trans (if_pos rfl)).mpr ?_
  have e5 : nI i + 5 = nI (i + 5) := nI_add i 5
  rw [e5]
  exact hE
set_option maxRecDepth 100000 in
set_option maxHeartbeats 4000000 in
/-- the law's case 22: fall -/
theorem pl_case22 {R : (Nat → Nat → Int32) → (Nat → Nat → Int64) → Prop} {L i : Nat} {hi : Nat → Nat → Int32} {hl : Nat → Nat → Int64} (hL : L ≤ 2560) (h5 : i + 5 ≤ L) (OK : ∀ a b c d : Int32, pr_OKL R L pj_m89 pj_m149 [.int a, .int b, .int c, .int d]) (hR : R hi hl) (ih : ∀ hi2 hl2, R hi2 hl2 → ∃ hi3 hl3, pe_E pj_mL 18 [some (.ref 0), some (.ref 1), some (.ref 32), some (.int (nI (i + 5)))] [] (pj_SH L, hi2, hl2) (some (.int 1), (pj_SH L, hi3, hl3))) : ∃ hi3 hl3, pe_E pj_mL 32 [some (.ref 0), some (.ref 1), some (.ref 32), some (.int (nI i))] [.int 22] (pj_SH L, hi, hl) (some (.int 1), (pj_SH L, hi3, hl3)) := by
  obtain ⟨v, hi1, hl1, hi2, hl2, q1, q2, q3, q4, q5⟩ := OK (hi 0 (nI i + nI 1).toNatClampNeg) (hi 0 (nI i + nI 2).toNatClampNeg) (hi 0 (nI i + nI 3).toNatClampNeg) (hi 0 (nI i + nI 4).toNatClampNeg) hi hl hR
  obtain ⟨hi3, hl3, hE⟩ := ih hi2 hl2 q3
  refine ⟨hi3, hl3, pb_la_law_32_22.mpr ?_⟩
  refine (pb_la_law_718 (pl_ix (k := 1) (by omega) hL (nI_add i 1)) (pl_ix (k := 2) (by omega) hL (nI_add i 2)) (pl_ix (k := 3) (by omega) hL (nI_add i 3)) (pl_ix (k := 4) (by omega) hL (nI_add i 4))).mpr ?_
  refine (pk_la_law_739 q1).mpr ?_
  refine (pb_la_law_742 (pl_ix (k := 1) (by omega) hL (nI_add i 1)) (pl_ix (k := 2) (by omega) hL (nI_add i 2)) (pl_ix (k := 3) (by omega) hL (nI_add i 3)) (pl_ix (k := 4) (by omega) hL (nI_add i 4))).mpr ?_
  rw [q4]
  refine (pk_la_law_763 q2).mpr ?_
  refine (pb_la_law_766.trans (if_pos (lg_cmp_self v))).mpr ?_
  have e5 : nI i + 5 = nI (i + 5) := nI_add i 5
  rw [e5]
  exact hE
set_option maxRecDepth 100000 in
set_option maxHeartbeats 4000000 in
/-- the law's case 23: year -/
theorem pl_case23 {R : (Nat → Nat → Int32) → (Nat → Nat → Int64) → Prop} {L i : Nat} {hi : Nat → Nat → Int32} {hl : Nat → Nat → Int64} (hL : L ≤ 2560) (h5 : i + 5 ≤ L) (OK : ∀ a b c : Int32, pr_OK R L pj_m90 pj_m150 [.int a, .int b, .int c]) (hR : R hi hl) (ih : ∀ hi2 hl2, R hi2 hl2 → ∃ hi3 hl3, pe_E pj_mL 18 [some (.ref 0), some (.ref 1), some (.ref 32), some (.int (nI (i + 5)))] [] (pj_SH L, hi2, hl2) (some (.int 1), (pj_SH L, hi3, hl3))) : ∃ hi3 hl3, pe_E pj_mL 32 [some (.ref 0), some (.ref 1), some (.ref 32), some (.int (nI i))] [.int 23] (pj_SH L, hi, hl) (some (.int 1), (pj_SH L, hi3, hl3)) := by
  obtain ⟨v, hi1, hl1, hi2, hl2, q1, q2, q3, q4, q5⟩ := OK (hi 0 (nI i + nI 1).toNatClampNeg) (hi 0 (nI i + nI 2).toNatClampNeg) (hi 0 (nI i + nI 3).toNatClampNeg) hi hl hR
  obtain ⟨hi3, hl3, hE⟩ := ih hi2 hl2 q3
  refine ⟨hi3, hl3, pb_la_law_32_23.mpr ?_⟩
  refine (pb_la_law_772 (pl_ix (k := 1) (by omega) hL (nI_add i 1)) (pl_ix (k := 2) (by omega) hL (nI_add i 2)) (pl_ix (k := 3) (by omega) hL (nI_add i 3))).mpr ?_
  refine (pk_la_law_788 q1).mpr ?_
  refine (pb_la_law_791 (pl_ix (k := 1) (by omega) hL (nI_add i 1)) (pl_ix (k := 2) (by omega) hL (nI_add i 2)) (pl_ix (k := 3) (by omega) hL (nI_add i 3))).mpr ?_
  rw [q4]
  refine (pk_la_law_807 q2).mpr ?_
  refine (pb_la_law_810.trans (if_pos rfl)).mpr ?_
  have e5 : nI i + 5 = nI (i + 5) := nI_add i 5
  rw [e5]
  exact hE
set_option maxRecDepth 100000 in
set_option maxHeartbeats 4000000 in
/-- the law's case 24: image -/
theorem pl_case24 {R : (Nat → Nat → Int32) → (Nat → Nat → Int64) → Prop} {L i : Nat} {hi : Nat → Nat → Int32} {hl : Nat → Nat → Int64} (hL : L ≤ 2560) (h5 : i + 5 ≤ L) (OK : ∀ a : Int32, pr_OK R L pj_m91 pj_m151 [.int a]) (hR : R hi hl) (ih : ∀ hi2 hl2, R hi2 hl2 → ∃ hi3 hl3, pe_E pj_mL 18 [some (.ref 0), some (.ref 1), some (.ref 32), some (.int (nI (i + 5)))] [] (pj_SH L, hi2, hl2) (some (.int 1), (pj_SH L, hi3, hl3))) : ∃ hi3 hl3, pe_E pj_mL 32 [some (.ref 0), some (.ref 1), some (.ref 32), some (.int (nI i))] [.int 24] (pj_SH L, hi, hl) (some (.int 1), (pj_SH L, hi3, hl3)) := by
  obtain ⟨v, hi1, hl1, hi2, hl2, q1, q2, q3, q4, q5⟩ := OK (hi 0 (nI i + nI 1).toNatClampNeg) hi hl hR
  obtain ⟨hi3, hl3, hE⟩ := ih hi2 hl2 q3
  refine ⟨hi3, hl3, pb_la_law_32_24.mpr ?_⟩
  refine (pb_la_law_815 (pl_ix (k := 1) (by omega) hL (nI_add i 1))).mpr ?_
  refine (pk_la_law_821 q1).mpr ?_
  refine (pb_la_law_824 (pl_ix (k := 1) (by omega) hL (nI_add i 1))).mpr ?_
  rw [q4]
  refine (pk_la_law_830 q2).mpr ?_
  refine (pb_la_law_833.trans (if_pos rfl)).mpr ?_
  have e5 : nI i + 5 = nI (i + 5) := nI_add i 5
  rw [e5]
  exact hE
set_option maxRecDepth 100000 in
set_option maxHeartbeats 4000000 in
/-- the law's case 25: restore -/
theorem pl_case25 {R : (Nat → Nat → Int32) → (Nat → Nat → Int64) → Prop} {L i : Nat} {hi : Nat → Nat → Int32} {hl : Nat → Nat → Int64} (hL : L ≤ 2560) (h5 : i + 5 ≤ L) (OK : ∀ a : Int32, pr_OK R L pj_m92 pj_m152 [.int a]) (hR : R hi hl) (ih : ∀ hi2 hl2, R hi2 hl2 → ∃ hi3 hl3, pe_E pj_mL 18 [some (.ref 0), some (.ref 1), some (.ref 32), some (.int (nI (i + 5)))] [] (pj_SH L, hi2, hl2) (some (.int 1), (pj_SH L, hi3, hl3))) : ∃ hi3 hl3, pe_E pj_mL 32 [some (.ref 0), some (.ref 1), some (.ref 32), some (.int (nI i))] [.int 25] (pj_SH L, hi, hl) (some (.int 1), (pj_SH L, hi3, hl3)) := by
  obtain ⟨v, hi1, hl1, hi2, hl2, q1, q2, q3, q4, q5⟩ := OK (hi 0 (nI i + nI 1).toNatClampNeg) hi hl hR
  obtain ⟨hi3, hl3, hE⟩ := ih hi2 hl2 q3
  refine ⟨hi3, hl3, pb_la_law_32_25.mpr ?_⟩
  refine (pb_la_law_838 (pl_ix (k := 1) (by omega) hL (nI_add i 1))).mpr ?_
  refine (pk_la_law_844 q1).mpr ?_
  refine (pb_la_law_847 (pl_ix (k := 1) (by omega) hL (nI_add i 1))).mpr ?_
  rw [q4]
  refine (pk_la_law_853 q2).mpr ?_
  refine (pb_la_law_856.trans (if_pos rfl)).mpr ?_
  have e5 : nI i + 5 = nI (i + 5) := nI_add i 5
  rw [e5]
  exact hE
set_option maxRecDepth 100000 in
set_option maxHeartbeats 4000000 in
/-- the law's case 26: told -/
theorem pl_case26 {R : (Nat → Nat → Int32) → (Nat → Nat → Int64) → Prop} {L i : Nat} {hi : Nat → Nat → Int32} {hl : Nat → Nat → Int64} (hL : L ≤ 2560) (h5 : i + 5 ≤ L) (OK : ∀ a : Int32, pr_OK R L pj_m93 pj_m153 [.int a]) (hR : R hi hl) (ih : ∀ hi2 hl2, R hi2 hl2 → ∃ hi3 hl3, pe_E pj_mL 18 [some (.ref 0), some (.ref 1), some (.ref 32), some (.int (nI (i + 5)))] [] (pj_SH L, hi2, hl2) (some (.int 1), (pj_SH L, hi3, hl3))) : ∃ hi3 hl3, pe_E pj_mL 32 [some (.ref 0), some (.ref 1), some (.ref 32), some (.int (nI i))] [.int 26] (pj_SH L, hi, hl) (some (.int 1), (pj_SH L, hi3, hl3)) := by
  obtain ⟨v, hi1, hl1, hi2, hl2, q1, q2, q3, q4, q5⟩ := OK (hi 0 (nI i + nI 1).toNatClampNeg) hi hl hR
  obtain ⟨hi3, hl3, hE⟩ := ih hi2 hl2 q3
  refine ⟨hi3, hl3, pb_la_law_32_26.mpr ?_⟩
  refine (pb_la_law_861 (pl_ix (k := 1) (by omega) hL (nI_add i 1))).mpr ?_
  refine (pk_la_law_867 q1).mpr ?_
  refine (pb_la_law_870 (pl_ix (k := 1) (by omega) hL (nI_add i 1))).mpr ?_
  rw [q4]
  refine (pk_la_law_876 q2).mpr ?_
  refine (pb_la_law_879.trans (if_pos rfl)).mpr ?_
  have e5 : nI i + 5 = nI (i + 5) := nI_add i 5
  rw [e5]
  exact hE
/-- what is left: every pair of calls -/
def pr_All (R : (Nat → Nat → Int32) → (Nat → Nat → Int64) → Prop) (L : Nat) : Prop := (∀ a b c : Int32, pr_OK R L pj_m67 pj_m107 [.int a, .int b, .int c]) ∧ (∀ a b : Int32, pr_OK R L pj_m68 pj_m108 [.int a, .int b]) ∧ (∀ a b : Int32, pr_OK R L pj_m69 pj_m109 [.int a, .int b]) ∧ (∀ a : Int32, pr_OK R L pj_m70 pj_m110 [.int a]) ∧ (pr_OK R L pj_m71 pj_m111 []) ∧ (pr_OK R L pj_m72 pj_m114 []) ∧ (∀ a : Int32, pr_OK R L pj_m73 pj_m127 [.int a]) ∧ (pr_OK R L pj_m74 pj_m129 []) ∧ (∀ a b : Int32, pr_OK R L pj_m75 pj_m130 [.int a, .int b]) ∧ (∀ a : Int32, pr_OK R L pj_m76 pj_m131 [.int a]) ∧ (∀ a : Int32, pr_OK R L pj_m77 pj_m132 [.int a]) ∧ (∀ a b : Int32, pr_OK R L pj_m78 pj_m118 [.int a, .int b]) ∧ (∀ a : Int32, pr_OK R L pj_m79 pj_m134 [.int a]) ∧ (∀ a : Int32, pr_OK R L pj_m80 pj_m135 [.int a]) ∧ (∀ a b : Int32, pr_OK R L pj_m81 pj_m136 [.int a, .int b]) ∧ (pr_OK R L pj_m82 pj_m139 []) ∧ (∀ a : Int32, pr_OK R L pj_m83 pj_m140 [.int a]) ∧ (∀ a b : Int32, (b = 0 ∨ b = 1) → pr_OK R L pj_m84 pj_m142 [.int a, .int b]) ∧ (pr_OK R L pj_m85 pj_m143 []) ∧ (∀ a : Int32, pr_OK R L pj_m86 pj_m146 [.int a]) ∧ (∀ a : Int32, pr_OK R L pj_m87 pj_m147 [.int a]) ∧ (∀ a b : Int32, pr_OK R L pj_m88 pj_m148 [.int a, .int b]) ∧ (∀ a b c d : Int32, pr_OKL R L pj_m89 pj_m149 [.int a, .int b, .int c, .int d]) ∧ (∀ a b c : Int32, pr_OK R L pj_m90 pj_m150 [.int a, .int b, .int c]) ∧ (∀ a : Int32, pr_OK R L pj_m91 pj_m151 [.int a]) ∧ (∀ a : Int32, pr_OK R L pj_m92 pj_m152 [.int a]) ∧ (∀ a : Int32, pr_OK R L pj_m93 pj_m153 [.int a])
set_option maxHeartbeats 4000000 in
theorem pl_loop {R : (Nat → Nat → Int32) → (Nat → Nat → Int64) → Prop} {L : Nat} (hL : L ≤ 2560) (K : pr_All R L) : ∀ (n i : Nat) (hi : Nat → Nat → Int32) (hl : Nat → Nat → Int64), L ≤ i + n → i ≤ L + 5 → R hi hl → ∃ hi3 hl3, pe_E pj_mL 18 [some (.ref 0), some (.ref 1), some (.ref 32), some (.int (nI i))] [] (pj_SH L, hi, hl) (some (.int 1), (pj_SH L, hi3, hl3)) := by
  obtain ⟨K0, K1, K2, K3, K4, K5, K6, K7, K8, K9, K10, K11, K12, K13, K14, K15, K16, K17, K18, K19, K20, K21, K22, K23, K24, K25, K26⟩ := K
  have e9 : ∀ i, i ≤ L + 5 → (((nI L) - 5) < nI i ↔ L < i + 5) := by
    intro i hi
    rw [pt_lt, pt_nI (by omega)]
    have e : (nI L - 5).toInt = L - 5 := by
      have e2 : (5 : Int32).toInt = 5 := by decide
      rw [pt_sub (by rw [pt_nI (by omega), e2]; omega) (by rw [pt_nI (by omega), e2]; omega), pt_nI (by omega), e2]
    rw [e]
    omega
  intro n
  induction n with
  | zero =>
    intro i hi hl h1 h2 hR
    have hc := (e9 i h2).mpr (by omega)
    exact ⟨hi, hl, ((pb_la_law_18 (fun h => absurd hc h)).trans (if_pos hc)).mpr rfl⟩
  | succ n ih =>
    intro i hi hl h1 h2 hR
    by_cases hc : ((nI L) - 5) < nI i
    · exact ⟨hi, hl, ((pb_la_law_18 (fun h => absurd hc h)).trans (if_pos hc)).mpr rfl⟩
    · have h5 : i + 5 ≤ L := by
        have := mt (e9 i h2).mpr hc
        omega
      have ih5 := fun hi2 hl2 (h : R hi2 hl2) => ih (i + 5) hi2 hl2 (by omega) (by omega) h
      suffices hs : ∃ hi3 hl3, pe_E pj_mL 32 [some (.ref 0), some (.ref 1), some (.ref 32), some (.int (nI i))] [.int ((hi 0 (nI i).toNatClampNeg) &&& 31)] (pj_SH L, hi, hl) (some (.int 1), (pj_SH L, hi3, hl3)) by
        obtain ⟨hi3, hl3, hE⟩ := hs
        exact ⟨hi3, hl3, ((pb_la_law_18 (fun _ => nI_in (by omega) (by omega))).trans (if_neg hc)).mpr hE⟩
      obtain ⟨j, hj, ej⟩ := pk_andE (hi 0 (nI i).toNatClampNeg) (m := 31) 5 (by decide)
      rw [ej]
      match j, hj with
      | 0, _ => exact pl_case0 hL h5 K0 hR ih5
      | 1, _ => exact pl_case1 hL h5 K1 hR ih5
      | 2, _ => exact pl_case2 hL h5 K2 hR ih5
      | 3, _ => exact pl_case3 hL h5 K3 hR ih5
      | 4, _ => exact pl_case4 hL h5 K4 hR ih5
      | 5, _ => exact pl_case5 hL h5 K5 hR ih5
      | 6, _ => exact pl_case6 hL h5 K6 hR ih5
      | 7, _ => exact pl_case7 hL h5 K7 hR ih5
      | 8, _ => exact pl_case8 hL h5 K8 hR ih5
      | 9, _ => exact pl_case9 hL h5 K9 hR ih5
      | 10, _ => exact pl_case10 hL h5 K10 hR ih5
      | 11, _ => exact pl_case11 hL h5 K11 hR ih5
      | 12, _ => exact pl_case12 hL h5 K12 hR ih5
      | 13, _ => exact pl_case13 hL h5 K13 hR ih5
      | 14, _ => exact pl_case14 hL h5 K14 hR ih5
      | 15, _ => exact pl_case15 hL h5 K15 hR ih5
      | 16, _ => exact pl_case16 hL h5 K16 hR ih5
      | 17, _ => exact pl_case17 hL h5 K17 hR ih5
      | 18, _ => exact pl_case18 hL h5 K18 hR ih5
      | 19, _ => exact pl_case19 hL h5 K19 hR ih5
      | 20, _ => exact pl_case20 hL h5 K20 hR ih5
      | 21, _ => exact pl_case21 hL h5 K21 hR ih5
      | 22, _ => exact pl_case22 hL h5 K22 hR ih5
      | 23, _ => exact pl_case23 hL h5 K23 hR ih5
      | 24, _ => exact pl_case24 hL h5 K24 hR ih5
      | 25, _ => exact pl_case25 hL h5 K25 hR ih5
      | 26, _ => exact pl_case26 hL h5 K26 hR ih5
      | j + 27, hj =>
        obtain ⟨hi3, hl3, hE⟩ := ih5 hi hl hR
        refine ⟨hi3, hl3, (pb_la_law_32_d ?_).mpr (pb_la_law_884.mpr ?_)⟩
        · rw [pt_nI (by omega)]
          omega
        · have e5 : nI i + 5 = nI (i + 5) := nI_add i 5
          rw [e5]
          exact hE
