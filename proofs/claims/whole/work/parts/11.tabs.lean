/-! ===== the shapes behind the constructors; rows of code, links, constants by name (wip/whole/seg.py) ===== -/
def pj_SH (L : Nat) : List pj_C := [.inl (.int, L), .inr (6, [.ref 2, .ref 6, .ref 10, .ref 14, .int 0, .int 0, .ref 18, .ref 20, .ref 21, .ref 27, .ref 30]), .inr (5, [.ref 3, .ref 4, .ref 5, .int 0, .int 0, .int 0, .int 0, .int 0, .int 0, .int 0]), .inl (.int, 7), .inl (.int, 8), .inl (.int, 6), .inr (5, [.ref 7, .ref 8, .ref 9, .int 0, .int 0, .int 0, .int 0, .int 0, .int 0, .int 0]), .inl (.int, 7), .inl (.int, 8), .inl (.int, 6), .inr (5, [.ref 11, .ref 12, .ref 13, .int 0, .int 0, .int 0, .int 0, .int 0, .int 0, .int 0]), .inl (.int, 7), .inl (.int, 8), .inl (.int, 6), .inr (5, [.ref 15, .ref 16, .ref 17, .int 0, .int 0, .int 0, .int 0, .int 0, .int 0, .int 0]), .inl (.int, 7), .inl (.int, 8), .inl (.int, 6), .inr (4, [.ref 19, .int 0]), .inl (.int, 60), .inr (0, [.int 0, .int 0, .int 0, .int 0, .int 0]), .inr (3, [.ref 22, .ref 23, .ref 24, .ref 25, .ref 26, .int 0, .long 0, .int 0, .int 0]), .inl (.long, 5), .inl (.long, 326), .inl (.int, 326), .inl (.int, 326), .inl (.long, 512), .inr (2, [.ref 28, .ref 29, .int 0]), .inl (.int, 32), .inl (.int, 32), .inr (1, [.ref 31]), .inl (.long, 17), .inr (7, [.ref 33, .ref 34, .int 0, .ref 35, .int 0, .ref 36, .int 0, .int 0, .int 0, .int 0, .int 0, .ref 37, .ref 38, .ref 39, .ref 40, .ref 41]), .inl (.int, 32), .inl (.int, 32), .inl (.int, 16), .inl (.int, 60), .inl (.long, 326), .inl (.int, 6), .inl (.long, 18), .inl (.int, 100), .inl (.boolean, 2)]
theorem ps_0 (L : Nat) : (pj_SH L)[0]? = some (.inl (.int, L)) := rfl
theorem ps_1 (L : Nat) : (pj_SH L)[1]? = some (.inr (6, [.ref 2, .ref 6, .ref 10, .ref 14, .int 0, .int 0, .ref 18, .ref 20, .ref 21, .ref 27, .ref 30])) := rfl
theorem ps_2 (L : Nat) : (pj_SH L)[2]? = some (.inr (5, [.ref 3, .ref 4, .ref 5, .int 0, .int 0, .int 0, .int 0, .int 0, .int 0, .int 0])) := rfl
theorem ps_3 (L : Nat) : (pj_SH L)[3]? = some (.inl (.int, 7)) := rfl
theorem ps_4 (L : Nat) : (pj_SH L)[4]? = some (.inl (.int, 8)) := rfl
theorem ps_5 (L : Nat) : (pj_SH L)[5]? = some (.inl (.int, 6)) := rfl
theorem ps_6 (L : Nat) : (pj_SH L)[6]? = some (.inr (5, [.ref 7, .ref 8, .ref 9, .int 0, .int 0, .int 0, .int 0, .int 0, .int 0, .int 0])) := rfl
theorem ps_7 (L : Nat) : (pj_SH L)[7]? = some (.inl (.int, 7)) := rfl
theorem ps_8 (L : Nat) : (pj_SH L)[8]? = some (.inl (.int, 8)) := rfl
theorem ps_9 (L : Nat) : (pj_SH L)[9]? = some (.inl (.int, 6)) := rfl
theorem ps_10 (L : Nat) : (pj_SH L)[10]? = some (.inr (5, [.ref 11, .ref 12, .ref 13, .int 0, .int 0, .int 0, .int 0, .int 0, .int 0, .int 0])) := rfl
theorem ps_11 (L : Nat) : (pj_SH L)[11]? = some (.inl (.int, 7)) := rfl
theorem ps_12 (L : Nat) : (pj_SH L)[12]? = some (.inl (.int, 8)) := rfl
theorem ps_13 (L : Nat) : (pj_SH L)[13]? = some (.inl (.int, 6)) := rfl
theorem ps_14 (L : Nat) : (pj_SH L)[14]? = some (.inr (5, [.ref 15, .ref 16, .ref 17, .int 0, .int 0, .int 0, .int 0, .int 0, .int 0, .int 0])) := rfl
theorem ps_15 (L : Nat) : (pj_SH L)[15]? = some (.inl (.int, 7)) := rfl
theorem ps_16 (L : Nat) : (pj_SH L)[16]? = some (.inl (.int, 8)) := rfl
theorem ps_17 (L : Nat) : (pj_SH L)[17]? = some (.inl (.int, 6)) := rfl
theorem ps_18 (L : Nat) : (pj_SH L)[18]? = some (.inr (4, [.ref 19, .int 0])) := rfl
theorem ps_19 (L : Nat) : (pj_SH L)[19]? = some (.inl (.int, 60)) := rfl
theorem ps_20 (L : Nat) : (pj_SH L)[20]? = some (.inr (0, [.int 0, .int 0, .int 0, .int 0, .int 0])) := rfl
theorem ps_21 (L : Nat) : (pj_SH L)[21]? = some (.inr (3, [.ref 22, .ref 23, .ref 24, .ref 25, .ref 26, .int 0, .long 0, .int 0, .int 0])) := rfl
theorem ps_22 (L : Nat) : (pj_SH L)[22]? = some (.inl (.long, 5)) := rfl
theorem ps_23 (L : Nat) : (pj_SH L)[23]? = some (.inl (.long, 326)) := rfl
theorem ps_24 (L : Nat) : (pj_SH L)[24]? = some (.inl (.int, 326)) := rfl
theorem ps_25 (L : Nat) : (pj_SH L)[25]? = some (.inl (.int, 326)) := rfl
theorem ps_26 (L : Nat) : (pj_SH L)[26]? = some (.inl (.long, 512)) := rfl
theorem ps_27 (L : Nat) : (pj_SH L)[27]? = some (.inr (2, [.ref 28, .ref 29, .int 0])) := rfl
theorem ps_28 (L : Nat) : (pj_SH L)[28]? = some (.inl (.int, 32)) := rfl
theorem ps_29 (L : Nat) : (pj_SH L)[29]? = some (.inl (.int, 32)) := rfl
theorem ps_30 (L : Nat) : (pj_SH L)[30]? = some (.inr (1, [.ref 31])) := rfl
theorem ps_31 (L : Nat) : (pj_SH L)[31]? = some (.inl (.long, 17)) := rfl
theorem ps_32 (L : Nat) : (pj_SH L)[32]? = some (.inr (7, [.ref 33, .ref 34, .int 0, .ref 35, .int 0, .ref 36, .int 0, .int 0, .int 0, .int 0, .int 0, .ref 37, .ref 38, .ref 39, .ref 40, .ref 41])) := rfl
theorem ps_33 (L : Nat) : (pj_SH L)[33]? = some (.inl (.int, 32)) := rfl
theorem ps_34 (L : Nat) : (pj_SH L)[34]? = some (.inl (.int, 32)) := rfl
theorem ps_35 (L : Nat) : (pj_SH L)[35]? = some (.inl (.int, 16)) := rfl
theorem ps_36 (L : Nat) : (pj_SH L)[36]? = some (.inl (.int, 60)) := rfl
theorem ps_37 (L : Nat) : (pj_SH L)[37]? = some (.inl (.long, 326)) := rfl
theorem ps_38 (L : Nat) : (pj_SH L)[38]? = some (.inl (.int, 6)) := rfl
theorem ps_39 (L : Nat) : (pj_SH L)[39]? = some (.inl (.long, 18)) := rfl
theorem ps_40 (L : Nat) : (pj_SH L)[40]? = some (.inl (.int, 100)) := rfl
theorem ps_41 (L : Nat) : (pj_SH L)[41]? = some (.inl (.boolean, 2)) := rfl
/-- no value of two slots -/
def pj_nl (a : Option Value) : Prop := ∀ v, a = some v → ¬ v.category = 2
theorem pj_nl_none : pj_nl none := fun v h => by cases h
theorem pj_nl_int (x : Int32) : pj_nl (some (.int x)) := fun v h => by cases h; exact (show ¬ (1 : Nat) = 2 by decide)
theorem pj_nl_ref (x : Nat) : pj_nl (some (.ref x)) := fun v h => by cases h; exact (show ¬ (1 : Nat) = 2 by decide)
theorem pj_isL_nl {ls : pj_L} {i : Nat} {a : Option Value} (ha : ls[i]? = some a) (hn : pj_nl a) : pj_isL ls (i + 1) = false := by
  simp only [pj_isL, pj_get, ha]
  cases a with
  | none => rfl
  | some v => simpa using hn v rfl
theorem pj_set_nl {ls : pj_L} {i : Nat} {a : Option Value} {v : Value} (hl : i + 1 < ls.length) (ha : ls[i]? = some a) (hn : pj_nl a) : pj_set ls (i + 1) v = some (ls.set (i + 1) (some v)) := by
  unfold pj_set
  rw [if_pos ⟨hl, pj_isL_nl ha hn⟩]
theorem pj_set2_nl {ls : pj_L} {i : Nat} {a : Option Value} {v : Value} (hl : i + 1 + 1 < ls.length) (ha : ls[i]? = some a) (hn : pj_nl a) : pj_set2 ls (i + 1) v = some ((ls.set (i + 1) (some v)).set (i + 1 + 1) none) := by
  unfold pj_set2
  rw [if_pos ⟨hl, pj_isL_nl ha hn⟩]
theorem pc_bm6 : (Int8.ofInt (-6)).toInt32 = (-6) := by decide +kernel
theorem pc_bm5 : (Int8.ofInt (-5)).toInt32 = (-5) := by decide +kernel
theorem pc_bm4 : (Int8.ofInt (-4)).toInt32 = (-4) := by decide +kernel
theorem pc_bm3 : (Int8.ofInt (-3)).toInt32 = (-3) := by decide +kernel
theorem pc_bm2 : (Int8.ofInt (-2)).toInt32 = (-2) := by decide +kernel
theorem pc_b6 : (Int8.ofInt 6).toInt32 = 6 := by decide +kernel
theorem pc_b7 : (Int8.ofInt 7).toInt32 = 7 := by decide +kernel
theorem pc_b8 : (Int8.ofInt 8).toInt32 = 8 := by decide +kernel
theorem pc_b10 : (Int8.ofInt 10).toInt32 = 10 := by decide +kernel
theorem pc_b12 : (Int8.ofInt 12).toInt32 = 12 := by decide +kernel
theorem pc_b14 : (Int8.ofInt 14).toInt32 = 14 := by decide +kernel
theorem pc_b15 : (Int8.ofInt 15).toInt32 = 15 := by decide +kernel
theorem pc_b16 : (Int8.ofInt 16).toInt32 = 16 := by decide +kernel
theorem pc_b17 : (Int8.ofInt 17).toInt32 = 17 := by decide +kernel
theorem pc_b18 : (Int8.ofInt 18).toInt32 = 18 := by decide +kernel
theorem pc_b24 : (Int8.ofInt 24).toInt32 = 24 := by decide +kernel
theorem pc_b25 : (Int8.ofInt 25).toInt32 = 25 := by decide +kernel
theorem pc_b26 : (Int8.ofInt 26).toInt32 = 26 := by decide +kernel
theorem pc_b28 : (Int8.ofInt 28).toInt32 = 28 := by decide +kernel
theorem pc_b29 : (Int8.ofInt 29).toInt32 = 29 := by decide +kernel
theorem pc_b30 : (Int8.ofInt 30).toInt32 = 30 := by decide +kernel
theorem pc_b31 : (Int8.ofInt 31).toInt32 = 31 := by decide +kernel
theorem pc_b32 : (Int8.ofInt 32).toInt32 = 32 := by decide +kernel
theorem pc_b33 : (Int8.ofInt 33).toInt32 = 33 := by decide +kernel
theorem pc_b37 : (Int8.ofInt 37).toInt32 = 37 := by decide +kernel
theorem pc_b38 : (Int8.ofInt 38).toInt32 = 38 := by decide +kernel
theorem pc_b40 : (Int8.ofInt 40).toInt32 = 40 := by decide +kernel
theorem pc_b41 : (Int8.ofInt 41).toInt32 = 41 := by decide +kernel
theorem pc_b45 : (Int8.ofInt 45).toInt32 = 45 := by decide +kernel
theorem pc_b46 : (Int8.ofInt 46).toInt32 = 46 := by decide +kernel
theorem pc_b48 : (Int8.ofInt 48).toInt32 = 48 := by decide +kernel
theorem pc_b49 : (Int8.ofInt 49).toInt32 = 49 := by decide +kernel
theorem pc_b50 : (Int8.ofInt 50).toInt32 = 50 := by decide +kernel
theorem pc_b51 : (Int8.ofInt 51).toInt32 = 51 := by decide +kernel
theorem pc_b53 : (Int8.ofInt 53).toInt32 = 53 := by decide +kernel
theorem pc_b55 : (Int8.ofInt 55).toInt32 = 55 := by decide +kernel
theorem pc_b60 : (Int8.ofInt 60).toInt32 = 60 := by decide +kernel
theorem pc_b63 : (Int8.ofInt 63).toInt32 = 63 := by decide +kernel
theorem pc_b65 : (Int8.ofInt 65).toInt32 = 65 := by decide +kernel
theorem pc_b72 : (Int8.ofInt 72).toInt32 = 72 := by decide +kernel
theorem pc_b74 : (Int8.ofInt 74).toInt32 = 74 := by decide +kernel
theorem pc_b75 : (Int8.ofInt 75).toInt32 = 75 := by decide +kernel
theorem pc_b80 : (Int8.ofInt 80).toInt32 = 80 := by decide +kernel
theorem pc_b97 : (Int8.ofInt 97).toInt32 = 97 := by decide +kernel
theorem pc_b99 : (Int8.ofInt 99).toInt32 = 99 := by decide +kernel
theorem pc_b100 : (Int8.ofInt 100).toInt32 = 100 := by decide +kernel
theorem pc_b112 : (Int8.ofInt 112).toInt32 = 112 := by decide +kernel
theorem pc_b126 : (Int8.ofInt 126).toInt32 = 126 := by decide +kernel
theorem pc_im1 : Int32.ofInt (-1) = (-1) := by decide +kernel
theorem pc_i0 : Int32.ofInt 0 = 0 := by decide +kernel
theorem pc_i1 : Int32.ofInt 1 = 1 := by decide +kernel
theorem pc_i2 : Int32.ofInt 2 = 2 := by decide +kernel
theorem pc_i3 : Int32.ofInt 3 = 3 := by decide +kernel
theorem pc_i4 : Int32.ofInt 4 = 4 := by decide +kernel
theorem pc_i5 : Int32.ofInt 5 = 5 := by decide +kernel
theorem pc_i8 : Int32.ofInt 8 = 8 := by decide +kernel
theorem pc_i16 : Int32.ofInt 16 = 16 := by decide +kernel
theorem pc_l0 : Int64.ofNat (Fin.val (0 : Fin 2)) = 0 := by decide +kernel
theorem pc_l1 : Int64.ofNat (Fin.val (1 : Fin 2)) = 1 := by decide +kernel
theorem pc_n2 : Int32.ofNat 2 = 2 := by decide +kernel
theorem pc_n5 : Int32.ofNat 5 = 5 := by decide +kernel
theorem pc_n6 : Int32.ofNat 6 = 6 := by decide +kernel
theorem pc_n7 : Int32.ofNat 7 = 7 := by decide +kernel
theorem pc_n8 : Int32.ofNat 8 = 8 := by decide +kernel
theorem pc_n16 : Int32.ofNat 16 = 16 := by decide +kernel
theorem pc_n17 : Int32.ofNat 17 = 17 := by decide +kernel
theorem pc_n18 : Int32.ofNat 18 = 18 := by decide +kernel
theorem pc_n32 : Int32.ofNat 32 = 32 := by decide +kernel
theorem pc_n60 : Int32.ofNat 60 = 60 := by decide +kernel
theorem pc_n100 : Int32.ofNat 100 = 100 := by decide +kernel
theorem pc_n326 : Int32.ofNat 326 = 326 := by decide +kernel
theorem pc_n512 : Int32.ofNat 512 = 512 := by decide +kernel
theorem pc_sm4370 : (Int16.ofInt (-4370)).toInt32 = (-4370) := by decide +kernel
theorem pc_s256 : (Int16.ofInt 256).toInt32 = 256 := by decide +kernel
theorem pc_s326 : (Int16.ofInt 326).toInt32 = 326 := by decide +kernel
theorem pc_s511 : (Int16.ofInt 511).toInt32 = 511 := by decide +kernel
theorem pc_s512 : (Int16.ofInt 512).toInt32 = 512 := by decide +kernel
theorem pc_s999 : (Int16.ofInt 999).toInt32 = 999 := by decide +kernel
theorem pc_s4369 : (Int16.ofInt 4369).toInt32 = 4369 := by decide +kernel
theorem pc_s8738 : (Int16.ofInt 8738).toInt32 = 8738 := by decide +kernel
theorem pc_s9999 : (Int16.ofInt 9999).toInt32 = 9999 := by decide +kernel
theorem pc_s17476 : (Int16.ofInt 17476).toInt32 = 17476 := by decide +kernel
theorem pl_ci5021 : pj_lk 5 21 pj_ci = some (65535, 83) := by decide +kernel
theorem pl_ci6027 : pj_lk 6 27 pj_ci = some (-34953, 474) := by decide +kernel
theorem pl_ci8015 : pj_lk 8 15 pj_ci = some (34952, 386) := by decide +kernel
theorem pl_ci9009 : pj_lk 9 9 pj_ci = some (65537, 649) := by decide +kernel
theorem pl_ci10083 : pj_lk 10 83 pj_ci = some (65535, 291) := by decide +kernel
theorem pl_ci10212 : pj_lk 10 212 pj_ci = some (99999, 610) := by decide +kernel
theorem pl_ci11050 : pj_lk 11 50 pj_ci = some (65535, 742) := by decide +kernel
theorem pl_ci11149 : pj_lk 11 149 pj_ci = some (1000000, 900) := by decide +kernel
theorem pl_ci11150 : pj_lk 11 150 pj_ci = some (99999, 905) := by decide +kernel
theorem pl_ci11155 : pj_lk 11 155 pj_ci = some (65537, 916) := by decide +kernel
theorem pl_ci13264 : pj_lk 13 264 pj_ci = some (65536, 424) := by decide +kernel
theorem pl_ci13265 : pj_lk 13 265 pj_ci = some (1431655765, 401) := by decide +kernel
theorem pl_ci13266 : pj_lk 13 266 pj_ci = some (858993459, 402) := by decide +kernel
theorem pl_ci13267 : pj_lk 13 267 pj_ci = some (252645135, 403) := by decide +kernel
theorem pl_cj1021 : pj_lk 1 21 pj_cj = some (16, 633) := by decide +kernel
theorem pl_cj1027 : pj_lk 1 27 pj_cj = some (2, 641) := by decide +kernel
theorem pl_cj3036 : pj_lk 3 36 pj_cj = some (15, 544) := by decide +kernel
theorem pl_cj3038 : pj_lk 3 38 pj_cj = some (-1, 531) := by decide +kernel
theorem pl_cj3081 : pj_lk 3 81 pj_cj = some (-7046029254386353131, 543) := by decide +kernel
theorem pl_cj10218 : pj_lk 10 218 pj_cj = some (-1000000000000000002, 624) := by decide +kernel
theorem pl_cj11126 : pj_lk 11 126 pj_cj = some (-1, 867) := by decide +kernel
theorem pl_cj11128 : pj_lk 11 128 pj_cj = some (7, 868) := by decide +kernel
theorem pl_cj11151 : pj_lk 11 151 pj_cj = some (-1000000000000000002, 910) := by decide +kernel
theorem pl_cj11153 : pj_lk 11 153 pj_cj = some (16, 911) := by decide +kernel
theorem pl_fl30 : pj_lk 0 30 pj_fl = some (0, 1, 0, 145) := by decide +kernel
theorem pl_fl34 : pj_lk 0 34 pj_fl = some (0, 2, 0, 147) := by decide +kernel
theorem pl_fl37 : pj_lk 0 37 pj_fl = some (0, 3, 0, 149) := by decide +kernel
theorem pl_fl40 : pj_lk 0 40 pj_fl = some (5, 9, 1, 100) := by decide +kernel
theorem pl_fl49 : pj_lk 0 49 pj_fl = some (0, 4, 0, 151) := by decide +kernel
theorem pl_fl52 : pj_lk 0 52 pj_fl = some (0, 0, 0, 143) := by decide +kernel
theorem pl_fl1009 : pj_lk 1 9 pj_fl = some (1, 0, 0, 224) := by decide +kernel
theorem pl_fl2011 : pj_lk 2 11 pj_fl = some (2, 0, 0, 207) := by decide +kernel
theorem pl_fl2015 : pj_lk 2 15 pj_fl = some (2, 1, 0, 208) := by decide +kernel
theorem pl_fl2018 : pj_lk 2 18 pj_fl = some (2, 2, 0, 209) := by decide +kernel
theorem pl_fl3011 : pj_lk 3 11 pj_fl = some (3, 0, 0, 170) := by decide +kernel
theorem pl_fl3015 : pj_lk 3 15 pj_fl = some (3, 1, 0, 171) := by decide +kernel
theorem pl_fl3018 : pj_lk 3 18 pj_fl = some (3, 2, 0, 172) := by decide +kernel
theorem pl_fl3022 : pj_lk 3 22 pj_fl = some (3, 3, 0, 173) := by decide +kernel
theorem pl_fl3025 : pj_lk 3 25 pj_fl = some (3, 4, 0, 174) := by decide +kernel
theorem pl_fl3032 : pj_lk 3 32 pj_fl = some (3, 5, 0, 175) := by decide +kernel
theorem pl_fl3058 : pj_lk 3 58 pj_fl = some (3, 6, 0, 176) := by decide +kernel
theorem pl_fl3068 : pj_lk 3 68 pj_fl = some (3, 7, 0, 177) := by decide +kernel
theorem pl_fl3071 : pj_lk 3 71 pj_fl = some (3, 8, 0, 179) := by decide +kernel
theorem pl_fl4011 : pj_lk 4 11 pj_fl = some (4, 0, 0, 130) := by decide +kernel
theorem pl_fl4015 : pj_lk 4 15 pj_fl = some (4, 1, 0, 131) := by decide +kernel
theorem pl_fl5009 : pj_lk 5 9 pj_fl = some (5, 0, 0, 87) := by decide +kernel
theorem pl_fl5015 : pj_lk 5 15 pj_fl = some (5, 1, 0, 88) := by decide +kernel
theorem pl_fl5018 : pj_lk 5 18 pj_fl = some (5, 2, 0, 89) := by decide +kernel
theorem pl_fl5034 : pj_lk 5 34 pj_fl = some (5, 3, 0, 90) := by decide +kernel
theorem pl_fl5038 : pj_lk 5 38 pj_fl = some (5, 4, 0, 92) := by decide +kernel
theorem pl_fl5041 : pj_lk 5 41 pj_fl = some (5, 5, 0, 94) := by decide +kernel
theorem pl_fl5044 : pj_lk 5 44 pj_fl = some (5, 6, 0, 96) := by decide +kernel
theorem pl_fl5047 : pj_lk 5 47 pj_fl = some (5, 7, 0, 97) := by decide +kernel
theorem pl_fl5050 : pj_lk 5 50 pj_fl = some (5, 8, 0, 98) := by decide +kernel
theorem pl_fl5053 : pj_lk 5 53 pj_fl = some (5, 9, 0, 101) := by decide +kernel
theorem pl_fl10010 : pj_lk 10 10 pj_fl = some (6, 0, 0, 228) := by decide +kernel
theorem pl_fl10016 : pj_lk 10 16 pj_fl = some (6, 1, 0, 229) := by decide +kernel
theorem pl_fl10019 : pj_lk 10 19 pj_fl = some (6, 2, 0, 230) := by decide +kernel
theorem pl_fl10022 : pj_lk 10 22 pj_fl = some (6, 3, 0, 231) := by decide +kernel
theorem pl_fl10028 : pj_lk 10 28 pj_fl = some (6, 6, 0, 234) := by decide +kernel
theorem pl_fl10035 : pj_lk 10 35 pj_fl = some (6, 7, 0, 235) := by decide +kernel
theorem pl_fl10042 : pj_lk 10 42 pj_fl = some (6, 8, 0, 236) := by decide +kernel
theorem pl_fl10049 : pj_lk 10 49 pj_fl = some (6, 9, 0, 237) := by decide +kernel
theorem pl_fl10056 : pj_lk 10 56 pj_fl = some (6, 10, 0, 238) := by decide +kernel
theorem pl_fl10116 : pj_lk 10 116 pj_fl = some (0, 1, 1, 146) := by decide +kernel
theorem pl_fl10120 : pj_lk 10 120 pj_fl = some (0, 2, 1, 148) := by decide +kernel
theorem pl_fl10131 : pj_lk 10 131 pj_fl = some (0, 0, 1, 144) := by decide +kernel
theorem pl_fl10134 : pj_lk 10 134 pj_fl = some (5, 3, 1, 91) := by decide +kernel
theorem pl_fl10140 : pj_lk 10 140 pj_fl = some (5, 4, 1, 93) := by decide +kernel
theorem pl_fl10143 : pj_lk 10 143 pj_fl = some (5, 8, 1, 99) := by decide +kernel
theorem pl_fl10146 : pj_lk 10 146 pj_fl = some (0, 3, 1, 150) := by decide +kernel
theorem pl_fl10149 : pj_lk 10 149 pj_fl = some (0, 4, 1, 152) := by decide +kernel
theorem pl_fl10179 : pj_lk 10 179 pj_fl = some (3, 7, 1, 178) := by decide +kernel
theorem pl_fl10182 : pj_lk 10 182 pj_fl = some (3, 8, 1, 180) := by decide +kernel
theorem pl_fl10188 : pj_lk 10 188 pj_fl = some (5, 5, 1, 95) := by decide +kernel
theorem pl_fl10200 : pj_lk 10 200 pj_fl = some (2, 2, 1, 210) := by decide +kernel
theorem pl_fl10240 : pj_lk 10 240 pj_fl = some (6, 4, 0, 232) := by decide +kernel
theorem pl_fl10244 : pj_lk 10 244 pj_fl = some (6, 5, 0, 233) := by decide +kernel
theorem pl_fl11007 : pj_lk 11 7 pj_fl = some (7, 0, 0, 675) := by decide +kernel
theorem pl_fl11013 : pj_lk 11 13 pj_fl = some (7, 1, 0, 676) := by decide +kernel
theorem pl_fl11016 : pj_lk 11 16 pj_fl = some (7, 3, 0, 678) := by decide +kernel
theorem pl_fl11019 : pj_lk 11 19 pj_fl = some (7, 5, 0, 680) := by decide +kernel
theorem pl_fl11022 : pj_lk 11 22 pj_fl = some (7, 11, 0, 686) := by decide +kernel
theorem pl_fl11026 : pj_lk 11 26 pj_fl = some (7, 12, 0, 687) := by decide +kernel
theorem pl_fl11029 : pj_lk 11 29 pj_fl = some (7, 13, 0, 688) := by decide +kernel
theorem pl_fl11032 : pj_lk 11 32 pj_fl = some (7, 14, 0, 689) := by decide +kernel
theorem pl_fl11035 : pj_lk 11 35 pj_fl = some (7, 15, 0, 690) := by decide +kernel
theorem pl_fl11051 : pj_lk 11 51 pj_fl = some (7, 4, 0, 679) := by decide +kernel
theorem pl_fl11077 : pj_lk 11 77 pj_fl = some (7, 6, 0, 681) := by decide +kernel
theorem pl_fl11080 : pj_lk 11 80 pj_fl = some (7, 7, 0, 682) := by decide +kernel
theorem pl_fl11083 : pj_lk 11 83 pj_fl = some (7, 8, 0, 683) := by decide +kernel
theorem pl_fl11102 : pj_lk 11 102 pj_fl = some (7, 10, 0, 685) := by decide +kernel
theorem pl_fl11114 : pj_lk 11 114 pj_fl = some (7, 9, 0, 684) := by decide +kernel
theorem pl_fl11140 : pj_lk 11 140 pj_fl = some (7, 2, 0, 677) := by decide +kernel
set_option maxRecDepth 100000 in
theorem pl_ml3 : pj_lk 0 3 pj_ml = some (9998, 0, 0, 142, 3, 0, 0) := rfl
set_option maxRecDepth 100000 in
theorem pl_ml9 : pj_lk 0 9 pj_ml = some (2, 0, 0, 362, 1, 364, 13) := rfl
set_option maxRecDepth 100000 in
theorem pl_ml14 : pj_lk 0 14 pj_ml = some (33, 1, 1, 366, 1, 368, 14) := rfl
set_option maxRecDepth 100000 in
theorem pl_ml22 : pj_lk 0 22 pj_ml = some (23, 0, 1, 373, 1, 325, 8) := rfl
set_option maxRecDepth 100000 in
theorem pl_ml26 : pj_lk 0 26 pj_ml = some (31, 2, 1, 374, 1, 376, 15) := rfl
set_option maxRecDepth 100000 in
theorem pl_ml43 : pj_lk 0 43 pj_ml = some (154, 1, 0, 421, 0, 422, 0) := rfl
set_option maxRecDepth 100000 in
theorem pl_ml55 : pj_lk 0 55 pj_ml = some (30, 1, 1, 425, 1, 427, 21) := rfl
set_option maxRecDepth 100000 in
theorem pl_ml1003 : pj_lk 1 3 pj_ml = some (9998, 0, 0, 223, 3, 0, 0) := rfl
set_option maxRecDepth 100000 in
theorem pl_ml1015 : pj_lk 1 15 pj_ml = some (156, 2, 0, 629, 0, 533, 0) := rfl
set_option maxRecDepth 100000 in
theorem pl_ml1023 : pj_lk 1 23 pj_ml = some (6, 2, 0, 634, 0, 635, 0) := rfl
set_option maxRecDepth 100000 in
theorem pl_ml2003 : pj_lk 2 3 pj_ml = some (9998, 0, 0, 206, 3, 0, 0) := rfl
set_option maxRecDepth 100000 in
theorem pl_ml2022 : pj_lk 2 22 pj_ml = some (37, 1, 1, 576, 1, 294, 3) := rfl
set_option maxRecDepth 100000 in
theorem pl_ml2028 : pj_lk 2 28 pj_ml = some (46, 1, 1, 577, 1, 579, 33) := rfl
set_option maxRecDepth 100000 in
theorem pl_ml2032 : pj_lk 2 32 pj_ml = some (10, 2, 0, 581, 1, 583, 34) := rfl
set_option maxRecDepth 100000 in
theorem pl_ml2036 : pj_lk 2 36 pj_ml = some (62, 1, 1, 585, 0, 396, 0) := rfl
set_option maxRecDepth 100000 in
theorem pl_ml2041 : pj_lk 2 41 pj_ml = some (13, 1, 0, 598, 1, 600, 37) := rfl
set_option maxRecDepth 100000 in
theorem pl_ml2044 : pj_lk 2 44 pj_ml = some (9997, 2, 0, 602, 5, 0, 0) := rfl
set_option maxRecDepth 100000 in
theorem pl_ml3003 : pj_lk 3 3 pj_ml = some (9998, 0, 0, 169, 3, 0, 0) := rfl
set_option maxRecDepth 100000 in
theorem pl_ml3028 : pj_lk 3 28 pj_ml = some (16, 1, 0, 519, 1, 521, 27) := rfl
set_option maxRecDepth 100000 in
theorem pl_ml3040 : pj_lk 3 40 pj_ml = some (19, 3, 0, 535, 1, 537, 28) := rfl
set_option maxRecDepth 100000 in
theorem pl_ml3044 : pj_lk 3 44 pj_ml = some (37, 1, 1, 523, 1, 294, 3) := rfl
set_option maxRecDepth 100000 in
theorem pl_ml3050 : pj_lk 3 50 pj_ml = some (17, 1, 0, 524, 0, 525, 0) := rfl
set_option maxRecDepth 100000 in
theorem pl_ml3054 : pj_lk 3 54 pj_ml = some (18, 1, 0, 527, 0, 528, 0) := rfl
set_option maxRecDepth 100000 in
theorem pl_ml3062 : pj_lk 3 62 pj_ml = some (156, 2, 0, 532, 0, 533, 0) := rfl
set_option maxRecDepth 100000 in
theorem pl_ml3074 : pj_lk 3 74 pj_ml = some (34, 1, 1, 530, 1, 407, 18) := rfl
set_option maxRecDepth 100000 in
theorem pl_ml3077 : pj_lk 3 77 pj_ml = some (20, 1, 0, 539, 1, 541, 29) := rfl
set_option maxRecDepth 100000 in
theorem pl_ml4003 : pj_lk 4 3 pj_ml = some (9998, 0, 0, 129, 3, 0, 0) := rfl
set_option maxRecDepth 100000 in
theorem pl_ml4019 : pj_lk 4 19 pj_ml = some (26, 1, 0, 343, 1, 345, 11) := rfl
set_option maxRecDepth 100000 in
theorem pl_ml4023 : pj_lk 4 23 pj_ml = some (28, 2, 0, 347, 0, 348, 0) := rfl
set_option maxRecDepth 100000 in
theorem pl_ml4027 : pj_lk 4 27 pj_ml = some (29, 1, 0, 350, 0, 351, 0) := rfl
set_option maxRecDepth 100000 in
theorem pl_ml4030 : pj_lk 4 30 pj_ml = some (94, 3, 1, 353, 0, 270, 0) := rfl
set_option maxRecDepth 100000 in
theorem pl_ml4034 : pj_lk 4 34 pj_ml = some (48, 1, 1, 378, 1, 380, 16) := rfl
set_option maxRecDepth 100000 in
theorem pl_ml4039 : pj_lk 4 39 pj_ml = some (47, 3, 1, 388, 1, 390, 17) := rfl
set_option maxRecDepth 100000 in
theorem pl_ml4043 : pj_lk 4 43 pj_ml = some (49, 1, 1, 412, 1, 414, 19) := rfl
set_option maxRecDepth 100000 in
theorem pl_ml4046 : pj_lk 4 46 pj_ml = some (50, 0, 1, 417, 1, 419, 20) := rfl
set_option maxRecDepth 100000 in
theorem pl_ml5003 : pj_lk 5 3 pj_ml = some (9998, 0, 0, 82, 3, 0, 0) := rfl
set_option maxRecDepth 100000 in
theorem pl_ml5022 : pj_lk 5 22 pj_ml = some (157, 2, 0, 84, 0, 85, 0) := rfl
set_option maxRecDepth 100000 in
theorem pl_ml5028 : pj_lk 5 28 pj_ml = some (9999, 5, 0, 370, 4, 0, 0) := rfl
set_option maxRecDepth 100000 in
theorem pl_ml5056 : pj_lk 5 56 pj_ml = some (34, 1, 0, 405, 1, 407, 18) := rfl
set_option maxRecDepth 100000 in
theorem pl_ml5060 : pj_lk 5 60 pj_ml = some (155, 1, 0, 398, 0, 399, 0) := rfl
set_option maxRecDepth 100000 in
theorem pl_ml5065 : pj_lk 5 65 pj_ml = some (37, 1, 0, 382, 1, 294, 3) := rfl
set_option maxRecDepth 100000 in
theorem pl_ml5068 : pj_lk 5 68 pj_ml = some (61, 2, 1, 392, 0, 393, 0) := rfl
set_option maxRecDepth 100000 in
theorem pl_ml5074 : pj_lk 5 74 pj_ml = some (39, 1, 0, 404, 1, 309, 5) := rfl
set_option maxRecDepth 100000 in
theorem pl_ml5077 : pj_lk 5 77 pj_ml = some (40, 2, 0, 409, 1, 278, 1) := rfl
set_option maxRecDepth 100000 in
theorem pl_ml5081 : pj_lk 5 81 pj_ml = some (41, 2, 0, 410, 1, 282, 2) := rfl
set_option maxRecDepth 100000 in
theorem pl_ml5085 : pj_lk 5 85 pj_ml = some (43, 2, 0, 411, 1, 313, 6) := rfl
set_option maxRecDepth 100000 in
theorem pl_ml5087 : pj_lk 5 87 pj_ml = some (63, 1, 1, 383, 0, 384, 0) := rfl
set_option maxRecDepth 100000 in
theorem pl_ml5090 : pj_lk 5 90 pj_ml = some (42, 2, 0, 387, 1, 298, 4) := rfl
set_option maxRecDepth 100000 in
theorem pl_ml5093 : pj_lk 5 93 pj_ml = some (36, 1, 0, 416, 1, 274, 0) := rfl
set_option maxRecDepth 100000 in
theorem pl_ml6009 : pj_lk 6 9 pj_ml = some (34, 1, 1, 467, 1, 407, 18) := rfl
set_option maxRecDepth 100000 in
theorem pl_ml6015 : pj_lk 6 15 pj_ml = some (52, 2, 0, 468, 0, 469, 0) := rfl
set_option maxRecDepth 100000 in
theorem pl_ml6021 : pj_lk 6 21 pj_ml = some (57, 2, 0, 475, 0, 476, 0) := rfl
set_option maxRecDepth 100000 in
theorem pl_ml6024 : pj_lk 6 24 pj_ml = some (53, 1, 0, 471, 0, 472, 0) := rfl
set_option maxRecDepth 100000 in
theorem pl_ml6028 : pj_lk 6 28 pj_ml = some (55, 2, 0, 493, 0, 494, 0) := rfl
set_option maxRecDepth 100000 in
theorem pl_ml6032 : pj_lk 6 32 pj_ml = some (56, 2, 0, 496, 0, 497, 0) := rfl
set_option maxRecDepth 100000 in
theorem pl_ml6036 : pj_lk 6 36 pj_ml = some (155, 1, 0, 478, 0, 399, 0) := rfl
set_option maxRecDepth 100000 in
theorem pl_ml6041 : pj_lk 6 41 pj_ml = some (9996, 2, 0, 479, 6, 0, 0) := rfl
set_option maxRecDepth 100000 in
theorem pl_ml7011 : pj_lk 7 11 pj_ml = some (59, 2, 0, 614, 0, 615, 0) := rfl
set_option maxRecDepth 100000 in
theorem pl_ml7015 : pj_lk 7 15 pj_ml = some (60, 3, 0, 617, 0, 618, 0) := rfl
set_option maxRecDepth 100000 in
theorem pl_ml8009 : pj_lk 8 9 pj_ml = some (62, 1, 0, 395, 0, 396, 0) := rfl
set_option maxRecDepth 100000 in
theorem pl_ml9010 : pj_lk 9 10 pj_ml = some (65, 3, 0, 650, 0, 651, 0) := rfl
set_option maxRecDepth 100000 in
theorem pl_ml9016 : pj_lk 9 16 pj_ml = some (48, 1, 1, 653, 1, 380, 16) := rfl
set_option maxRecDepth 100000 in
theorem pl_ml9022 : pj_lk 9 22 pj_ml = some (49, 1, 1, 654, 1, 414, 19) := rfl
set_option maxRecDepth 100000 in
theorem pl_ml9025 : pj_lk 9 25 pj_ml = some (50, 0, 1, 655, 1, 419, 20) := rfl
set_option maxRecDepth 100000 in
theorem pl_ml9029 : pj_lk 9 29 pj_ml = some (47, 3, 1, 656, 1, 390, 17) := rfl
set_option maxRecDepth 100000 in
theorem pl_ml10001 : pj_lk 10 1 pj_ml = some (9998, 0, 0, 74, 3, 0, 0) := rfl
set_option maxRecDepth 100000 in
theorem pl_ml10009 : pj_lk 10 9 pj_ml = some (32, 0, 1, 79, 2, 80, 0) := rfl
set_option maxRecDepth 100000 in
theorem pl_ml10027 : pj_lk 10 27 pj_ml = some (22, 0, 1, 126, 2, 127, 0) := rfl
set_option maxRecDepth 100000 in
theorem pl_ml10034 : pj_lk 10 34 pj_ml = some (0, 0, 1, 139, 2, 140, 0) := rfl
set_option maxRecDepth 100000 in
theorem pl_ml10041 : pj_lk 10 41 pj_ml = some (14, 0, 1, 166, 2, 167, 0) := rfl
set_option maxRecDepth 100000 in
theorem pl_ml10048 : pj_lk 10 48 pj_ml = some (8, 0, 1, 203, 2, 204, 0) := rfl
set_option maxRecDepth 100000 in
theorem pl_ml10055 : pj_lk 10 55 pj_ml = some (3, 0, 1, 220, 2, 221, 0) := rfl
set_option maxRecDepth 100000 in
theorem pl_ml10060 : pj_lk 10 60 pj_ml = some (95, 1, 0, 266, 0, 267, 0) := rfl
set_option maxRecDepth 100000 in
theorem pl_ml10064 : pj_lk 10 64 pj_ml = some (94, 3, 0, 269, 0, 270, 0) := rfl
set_option maxRecDepth 100000 in
theorem pl_ml10068 : pj_lk 10 68 pj_ml = some (36, 1, 1, 272, 1, 274, 0) := rfl
set_option maxRecDepth 100000 in
theorem pl_ml10072 : pj_lk 10 72 pj_ml = some (40, 2, 1, 276, 1, 278, 1) := rfl
set_option maxRecDepth 100000 in
theorem pl_ml10076 : pj_lk 10 76 pj_ml = some (41, 2, 1, 280, 1, 282, 2) := rfl
set_option maxRecDepth 100000 in
theorem pl_ml10080 : pj_lk 10 80 pj_ml = some (96, 1, 0, 288, 0, 289, 0) := rfl
set_option maxRecDepth 100000 in
theorem pl_ml10084 : pj_lk 10 84 pj_ml = some (37, 1, 1, 292, 1, 294, 3) := rfl
set_option maxRecDepth 100000 in
theorem pl_ml10087 : pj_lk 10 87 pj_ml = some (42, 2, 1, 296, 1, 298, 4) := rfl
set_option maxRecDepth 100000 in
theorem pl_ml10090 : pj_lk 10 90 pj_ml = some (97, 1, 0, 304, 0, 305, 0) := rfl
set_option maxRecDepth 100000 in
theorem pl_ml10093 : pj_lk 10 93 pj_ml = some (39, 1, 1, 307, 1, 309, 5) := rfl
set_option maxRecDepth 100000 in
theorem pl_ml10096 : pj_lk 10 96 pj_ml = some (43, 2, 1, 311, 1, 313, 6) := rfl
set_option maxRecDepth 100000 in
theorem pl_ml10099 : pj_lk 10 99 pj_ml = some (25, 1, 1, 319, 1, 321, 7) := rfl
set_option maxRecDepth 100000 in
theorem pl_ml10102 : pj_lk 10 102 pj_ml = some (23, 0, 1, 323, 1, 325, 8) := rfl
set_option maxRecDepth 100000 in
theorem pl_ml10106 : pj_lk 10 106 pj_ml = some (24, 0, 1, 331, 1, 333, 9) := rfl
set_option maxRecDepth 100000 in
theorem pl_ml10109 : pj_lk 10 109 pj_ml = some (27, 0, 1, 339, 1, 341, 10) := rfl
set_option maxRecDepth 100000 in
theorem pl_ml10112 : pj_lk 10 112 pj_ml = some (1, 3, 1, 358, 1, 360, 12) := rfl
set_option maxRecDepth 100000 in
theorem pl_ml10123 : pj_lk 10 123 pj_ml = some (99, 0, 0, 433, 1, 435, 22) := rfl
set_option maxRecDepth 100000 in
theorem pl_ml10127 : pj_lk 10 127 pj_ml = some (33, 1, 1, 437, 1, 368, 14) := rfl
set_option maxRecDepth 100000 in
theorem pl_ml10137 : pj_lk 10 137 pj_ml = some (35, 1, 1, 450, 1, 452, 23) := rfl
set_option maxRecDepth 100000 in
theorem pl_ml10152 : pj_lk 10 152 pj_ml = some (61, 2, 1, 458, 0, 393, 0) := rfl
set_option maxRecDepth 100000 in
theorem pl_ml10158 : pj_lk 10 158 pj_ml = some (63, 1, 1, 459, 0, 384, 0) := rfl
set_option maxRecDepth 100000 in
theorem pl_ml10161 : pj_lk 10 161 pj_ml = some (51, 1, 1, 464, 0, 465, 0) := rfl
set_option maxRecDepth 100000 in
theorem pl_ml10167 : pj_lk 10 167 pj_ml = some (98, 2, 0, 482, 0, 483, 0) := rfl
set_option maxRecDepth 100000 in
theorem pl_ml10170 : pj_lk 10 170 pj_ml = some (54, 1, 1, 490, 0, 491, 0) := rfl
set_option maxRecDepth 100000 in
theorem pl_ml10173 : pj_lk 10 173 pj_ml = some (100, 1, 0, 503, 1, 505, 24) := rfl
set_option maxRecDepth 100000 in
theorem pl_ml10176 : pj_lk 10 176 pj_ml = some (15, 1, 1, 515, 1, 517, 26) := rfl
set_option maxRecDepth 100000 in
theorem pl_ml10185 : pj_lk 10 185 pj_ml = some (21, 1, 1, 549, 0, 550, 0) := rfl
set_option maxRecDepth 100000 in
theorem pl_ml10191 : pj_lk 10 191 pj_ml = some (44, 2, 1, 556, 1, 558, 30) := rfl
set_option maxRecDepth 100000 in
theorem pl_ml10194 : pj_lk 10 194 pj_ml = some (45, 0, 1, 564, 1, 566, 31) := rfl
set_option maxRecDepth 100000 in
theorem pl_ml10197 : pj_lk 10 197 pj_ml = some (9, 1, 1, 572, 1, 574, 32) := rfl
set_option maxRecDepth 100000 in
theorem pl_ml10203 : pj_lk 10 203 pj_ml = some (11, 1, 1, 586, 1, 588, 35) := rfl
set_option maxRecDepth 100000 in
theorem pl_ml10206 : pj_lk 10 206 pj_ml = some (12, 0, 1, 594, 1, 596, 36) := rfl
set_option maxRecDepth 100000 in
theorem pl_ml10209 : pj_lk 10 209 pj_ml = some (13, 1, 1, 605, 1, 600, 37) := rfl
set_option maxRecDepth 100000 in
theorem pl_ml10213 : pj_lk 10 213 pj_ml = some (58, 1, 1, 611, 0, 612, 0) := rfl
set_option maxRecDepth 100000 in
theorem pl_ml10220 : pj_lk 10 220 pj_ml = some (4, 2, 1, 625, 1, 627, 38) := rfl
set_option maxRecDepth 100000 in
theorem pl_ml10224 : pj_lk 10 224 pj_ml = some (5, 1, 1, 630, 0, 631, 0) := rfl
set_option maxRecDepth 100000 in
theorem pl_ml10228 : pj_lk 10 228 pj_ml = some (6, 2, 1, 637, 0, 635, 0) := rfl
set_option maxRecDepth 100000 in
theorem pl_ml10231 : pj_lk 10 231 pj_ml = some (7, 3, 1, 638, 0, 639, 0) := rfl
set_option maxRecDepth 100000 in
theorem pl_ml10235 : pj_lk 10 235 pj_ml = some (64, 3, 1, 646, 0, 647, 0) := rfl
set_option maxRecDepth 100000 in
theorem pl_ml10247 : pj_lk 10 247 pj_ml = some (155, 1, 0, 485, 0, 399, 0) := rfl
set_option maxRecDepth 100000 in
theorem pl_ml10252 : pj_lk 10 252 pj_ml = some (38, 1, 1, 507, 1, 509, 25) := rfl
set_option maxRecDepth 100000 in
theorem pl_ml11001 : pj_lk 11 1 pj_ml = some (9998, 0, 0, 674, 3, 0, 0) := rfl
set_option maxRecDepth 100000 in
theorem pl_ml11039 : pj_lk 11 39 pj_ml = some (102, 3, 0, 732, 0, 733, 0) := rfl
set_option maxRecDepth 100000 in
theorem pl_ml11043 : pj_lk 11 43 pj_ml = some (105, 1, 0, 729, 0, 730, 0) := rfl
set_option maxRecDepth 100000 in
theorem pl_ml11047 : pj_lk 11 47 pj_ml = some (106, 1, 0, 739, 0, 740, 0) := rfl
set_option maxRecDepth 100000 in
theorem pl_ml11055 : pj_lk 11 55 pj_ml = some (112, 2, 0, 763, 0, 764, 0) := rfl
set_option maxRecDepth 100000 in
theorem pl_ml11059 : pj_lk 11 59 pj_ml = some (113, 0, 0, 759, 1, 761, 39) := rfl
set_option maxRecDepth 100000 in
theorem pl_ml11063 : pj_lk 11 63 pj_ml = some (103, 2, 0, 773, 0, 774, 0) := rfl
set_option maxRecDepth 100000 in
theorem pl_ml11067 : pj_lk 11 67 pj_ml = some (115, 1, 0, 779, 0, 780, 0) := rfl
set_option maxRecDepth 100000 in
theorem pl_ml11071 : pj_lk 11 71 pj_ml = some (116, 1, 0, 770, 0, 771, 0) := rfl
set_option maxRecDepth 100000 in
theorem pl_ml11074 : pj_lk 11 74 pj_ml = some (117, 2, 0, 776, 0, 777, 0) := rfl
set_option maxRecDepth 100000 in
theorem pl_ml11086 : pj_lk 11 86 pj_ml = some (104, 1, 0, 818, 0, 819, 0) := rfl
set_option maxRecDepth 100000 in
theorem pl_ml11089 : pj_lk 11 89 pj_ml = some (123, 1, 0, 806, 1, 808, 45) := rfl
set_option maxRecDepth 100000 in
theorem pl_ml11092 : pj_lk 11 92 pj_ml = some (122, 1, 0, 810, 1, 812, 46) := rfl
set_option maxRecDepth 100000 in
theorem pl_ml11095 : pj_lk 11 95 pj_ml = some (121, 3, 0, 814, 1, 816, 47) := rfl
set_option maxRecDepth 100000 in
theorem pl_ml11099 : pj_lk 11 99 pj_ml = some (119, 0, 0, 790, 1, 792, 41) := rfl
set_option maxRecDepth 100000 in
theorem pl_ml11105 : pj_lk 11 105 pj_ml = some (120, 1, 0, 794, 1, 796, 42) := rfl
set_option maxRecDepth 100000 in
theorem pl_ml11108 : pj_lk 11 108 pj_ml = some (124, 0, 0, 798, 1, 800, 43) := rfl
set_option maxRecDepth 100000 in
theorem pl_ml11111 : pj_lk 11 111 pj_ml = some (125, 1, 0, 802, 1, 804, 44) := rfl
set_option maxRecDepth 100000 in
theorem pl_ml11117 : pj_lk 11 117 pj_ml = some (126, 0, 0, 786, 1, 788, 40) := rfl
set_option maxRecDepth 100000 in
theorem pl_ml11120 : pj_lk 11 120 pj_ml = some (128, 0, 0, 825, 1, 827, 48) := rfl
set_option maxRecDepth 100000 in
theorem pl_ml11123 : pj_lk 11 123 pj_ml = some (133, 2, 0, 845, 0, 846, 0) := rfl
set_option maxRecDepth 100000 in
theorem pl_ml11130 : pj_lk 11 130 pj_ml = some (138, 1, 0, 860, 0, 861, 0) := rfl
set_option maxRecDepth 100000 in
theorem pl_ml11133 : pj_lk 11 133 pj_ml = some (137, 2, 0, 863, 1, 865, 49) := rfl
set_option maxRecDepth 100000 in
theorem pl_ml11137 : pj_lk 11 137 pj_ml = some (141, 2, 0, 873, 0, 874, 0) := rfl
set_option maxRecDepth 100000 in
theorem pl_ml11143 : pj_lk 11 143 pj_ml = some (144, 1, 0, 892, 1, 894, 51) := rfl
set_option maxRecDepth 100000 in
theorem pl_ml11146 : pj_lk 11 146 pj_ml = some (145, 1, 0, 888, 1, 890, 50) := rfl
set_option maxRecDepth 100000 in
theorem pl_ml12009 : pj_lk 12 9 pj_ml = some (66, 0, 0, 71, 2, 72, 0) := rfl
set_option maxRecDepth 100000 in
theorem pl_ml12012 : pj_lk 12 12 pj_ml = some (101, 0, 0, 671, 2, 672, 0) := rfl
set_option maxRecDepth 100000 in
theorem pl_ml12013 : pj_lk 12 13 pj_ml = some (67, 3, 0, 262, 1, 263, 264) := rfl
set_option maxRecDepth 100000 in
theorem pl_ml12017 : pj_lk 12 17 pj_ml = some (107, 3, 0, 725, 1, 726, 727) := rfl
set_option maxRecDepth 100000 in
theorem pl_ml12018 : pj_lk 12 18 pj_ml = some (68, 2, 0, 284, 1, 285, 286) := rfl
set_option maxRecDepth 100000 in
theorem pl_ml12022 : pj_lk 12 22 pj_ml = some (108, 2, 0, 735, 1, 736, 737) := rfl
set_option maxRecDepth 100000 in
theorem pl_ml12023 : pj_lk 12 23 pj_ml = some (69, 2, 0, 300, 1, 301, 302) := rfl
set_option maxRecDepth 100000 in
theorem pl_ml12026 : pj_lk 12 26 pj_ml = some (109, 2, 0, 743, 1, 744, 745) := rfl
set_option maxRecDepth 100000 in
theorem pl_ml12027 : pj_lk 12 27 pj_ml = some (70, 1, 0, 315, 1, 316, 317) := rfl
set_option maxRecDepth 100000 in
theorem pl_ml12031 : pj_lk 12 31 pj_ml = some (110, 1, 0, 747, 1, 748, 749) := rfl
set_option maxRecDepth 100000 in
theorem pl_ml12032 : pj_lk 12 32 pj_ml = some (71, 0, 0, 327, 1, 328, 329) := rfl
set_option maxRecDepth 100000 in
theorem pl_ml12036 : pj_lk 12 36 pj_ml = some (111, 0, 0, 751, 1, 752, 753) := rfl
set_option maxRecDepth 100000 in
theorem pl_ml12037 : pj_lk 12 37 pj_ml = some (72, 0, 0, 335, 1, 336, 337) := rfl
set_option maxRecDepth 100000 in
theorem pl_ml12040 : pj_lk 12 40 pj_ml = some (114, 0, 0, 755, 1, 756, 757) := rfl
set_option maxRecDepth 100000 in
theorem pl_ml12041 : pj_lk 12 41 pj_ml = some (73, 1, 0, 354, 1, 355, 356) := rfl
set_option maxRecDepth 100000 in
theorem pl_ml12044 : pj_lk 12 44 pj_ml = some (127, 1, 0, 782, 1, 783, 784) := rfl
set_option maxRecDepth 100000 in
theorem pl_ml12045 : pj_lk 12 45 pj_ml = some (74, 0, 0, 429, 1, 430, 431) := rfl
set_option maxRecDepth 100000 in
theorem pl_ml12048 : pj_lk 12 48 pj_ml = some (129, 0, 0, 821, 1, 822, 823) := rfl
set_option maxRecDepth 100000 in
theorem pl_ml12049 : pj_lk 12 49 pj_ml = some (75, 2, 0, 438, 1, 439, 440) := rfl
set_option maxRecDepth 100000 in
theorem pl_ml12052 : pj_lk 12 52 pj_ml = some (130, 2, 0, 829, 1, 830, 831) := rfl
set_option maxRecDepth 100000 in
theorem pl_ml12053 : pj_lk 12 53 pj_ml = some (76, 1, 0, 442, 1, 443, 444) := rfl
set_option maxRecDepth 100000 in
theorem pl_ml12056 : pj_lk 12 56 pj_ml = some (131, 1, 0, 833, 1, 834, 835) := rfl
set_option maxRecDepth 100000 in
theorem pl_ml12057 : pj_lk 12 57 pj_ml = some (77, 1, 0, 446, 1, 447, 448) := rfl
set_option maxRecDepth 100000 in
theorem pl_ml12060 : pj_lk 12 60 pj_ml = some (132, 1, 0, 837, 1, 838, 839) := rfl
set_option maxRecDepth 100000 in
theorem pl_ml12061 : pj_lk 12 61 pj_ml = some (78, 2, 0, 454, 1, 455, 456) := rfl
set_option maxRecDepth 100000 in
theorem pl_ml12064 : pj_lk 12 64 pj_ml = some (118, 2, 0, 766, 1, 767, 768) := rfl
set_option maxRecDepth 100000 in
theorem pl_ml12065 : pj_lk 12 65 pj_ml = some (79, 1, 0, 460, 1, 461, 462) := rfl
set_option maxRecDepth 100000 in
theorem pl_ml12068 : pj_lk 12 68 pj_ml = some (134, 1, 0, 841, 1, 842, 843) := rfl
set_option maxRecDepth 100000 in
theorem pl_ml12069 : pj_lk 12 69 pj_ml = some (80, 1, 0, 486, 1, 487, 488) := rfl
set_option maxRecDepth 100000 in
theorem pl_ml12072 : pj_lk 12 72 pj_ml = some (135, 1, 0, 848, 1, 849, 850) := rfl
set_option maxRecDepth 100000 in
theorem pl_ml12073 : pj_lk 12 73 pj_ml = some (81, 2, 0, 499, 1, 500, 501) := rfl
set_option maxRecDepth 100000 in
theorem pl_ml12076 : pj_lk 12 76 pj_ml = some (136, 2, 0, 852, 1, 853, 854) := rfl
set_option maxRecDepth 100000 in
theorem pl_ml12077 : pj_lk 12 77 pj_ml = some (82, 0, 0, 511, 1, 512, 513) := rfl
set_option maxRecDepth 100000 in
theorem pl_ml12080 : pj_lk 12 80 pj_ml = some (139, 0, 0, 856, 1, 857, 858) := rfl
set_option maxRecDepth 100000 in
theorem pl_ml12081 : pj_lk 12 81 pj_ml = some (83, 1, 0, 545, 1, 546, 547) := rfl
set_option maxRecDepth 100000 in
theorem pl_ml12084 : pj_lk 12 84 pj_ml = some (140, 1, 0, 869, 1, 870, 871) := rfl
set_option maxRecDepth 100000 in
theorem pl_ml12085 : pj_lk 12 85 pj_ml = some (84, 2, 0, 552, 1, 553, 554) := rfl
set_option maxRecDepth 100000 in
theorem pl_ml12089 : pj_lk 12 89 pj_ml = some (142, 2, 0, 876, 1, 877, 878) := rfl
set_option maxRecDepth 100000 in
theorem pl_ml12090 : pj_lk 12 90 pj_ml = some (85, 0, 0, 560, 1, 561, 562) := rfl
set_option maxRecDepth 100000 in
theorem pl_ml12093 : pj_lk 12 93 pj_ml = some (143, 0, 0, 880, 1, 881, 882) := rfl
set_option maxRecDepth 100000 in
theorem pl_ml12094 : pj_lk 12 94 pj_ml = some (86, 1, 0, 568, 1, 569, 570) := rfl
set_option maxRecDepth 100000 in
theorem pl_ml12097 : pj_lk 12 97 pj_ml = some (146, 1, 0, 884, 1, 885, 886) := rfl
set_option maxRecDepth 100000 in
theorem pl_ml12098 : pj_lk 12 98 pj_ml = some (87, 1, 0, 590, 1, 591, 592) := rfl
set_option maxRecDepth 100000 in
theorem pl_ml12101 : pj_lk 12 101 pj_ml = some (147, 1, 0, 896, 1, 897, 898) := rfl
set_option maxRecDepth 100000 in
theorem pl_ml12102 : pj_lk 12 102 pj_ml = some (88, 2, 0, 606, 1, 607, 608) := rfl
set_option maxRecDepth 100000 in
theorem pl_ml12105 : pj_lk 12 105 pj_ml = some (148, 2, 0, 901, 1, 902, 903) := rfl
set_option maxRecDepth 100000 in
theorem pl_ml12106 : pj_lk 12 106 pj_ml = some (89, 4, 0, 620, 1, 621, 622) := rfl
set_option maxRecDepth 100000 in
theorem pl_ml12110 : pj_lk 12 110 pj_ml = some (149, 4, 0, 906, 1, 907, 908) := rfl
set_option maxRecDepth 100000 in
theorem pl_ml12111 : pj_lk 12 111 pj_ml = some (90, 3, 0, 642, 1, 643, 644) := rfl
set_option maxRecDepth 100000 in
theorem pl_ml12114 : pj_lk 12 114 pj_ml = some (150, 3, 0, 912, 1, 913, 914) := rfl
set_option maxRecDepth 100000 in
theorem pl_ml12115 : pj_lk 12 115 pj_ml = some (91, 1, 0, 657, 1, 658, 659) := rfl
set_option maxRecDepth 100000 in
theorem pl_ml12118 : pj_lk 12 118 pj_ml = some (151, 1, 0, 917, 1, 918, 919) := rfl
set_option maxRecDepth 100000 in
theorem pl_ml12119 : pj_lk 12 119 pj_ml = some (92, 1, 0, 661, 1, 662, 663) := rfl
set_option maxRecDepth 100000 in
theorem pl_ml12122 : pj_lk 12 122 pj_ml = some (152, 1, 0, 921, 1, 922, 923) := rfl
set_option maxRecDepth 100000 in
theorem pl_ml12123 : pj_lk 12 123 pj_ml = some (93, 1, 0, 665, 1, 666, 667) := rfl
set_option maxRecDepth 100000 in
theorem pl_ml12126 : pj_lk 12 126 pj_ml = some (153, 1, 0, 925, 1, 926, 927) := rfl
set_option maxRecDepth 100000 in
theorem pm_0 : pj_ms[0]? = some pj_m0 := rfl
set_option maxRecDepth 100000 in
theorem pm_1 : pj_ms[1]? = some pj_m1 := rfl
set_option maxRecDepth 100000 in
theorem pm_2 : pj_ms[2]? = some pj_m2 := rfl
set_option maxRecDepth 100000 in
theorem pm_3 : pj_ms[3]? = some pj_m3 := rfl
set_option maxRecDepth 100000 in
theorem pm_4 : pj_ms[4]? = some pj_m4 := rfl
set_option maxRecDepth 100000 in
theorem pm_5 : pj_ms[5]? = some pj_m5 := rfl
set_option maxRecDepth 100000 in
theorem pm_6 : pj_ms[6]? = some pj_m6 := rfl
set_option maxRecDepth 100000 in
theorem pm_7 : pj_ms[7]? = some pj_m7 := rfl
set_option maxRecDepth 100000 in
theorem pm_8 : pj_ms[8]? = some pj_m8 := rfl
set_option maxRecDepth 100000 in
theorem pm_9 : pj_ms[9]? = some pj_m9 := rfl
set_option maxRecDepth 100000 in
theorem pm_10 : pj_ms[10]? = some pj_m10 := rfl
set_option maxRecDepth 100000 in
theorem pm_11 : pj_ms[11]? = some pj_m11 := rfl
set_option maxRecDepth 100000 in
theorem pm_12 : pj_ms[12]? = some pj_m12 := rfl
set_option maxRecDepth 100000 in
theorem pm_13 : pj_ms[13]? = some pj_m13 := rfl
set_option maxRecDepth 100000 in
theorem pm_14 : pj_ms[14]? = some pj_m14 := rfl
set_option maxRecDepth 100000 in
theorem pm_15 : pj_ms[15]? = some pj_m15 := rfl
set_option maxRecDepth 100000 in
theorem pm_16 : pj_ms[16]? = some pj_m16 := rfl
set_option maxRecDepth 100000 in
theorem pm_17 : pj_ms[17]? = some pj_m17 := rfl
set_option maxRecDepth 100000 in
theorem pm_18 : pj_ms[18]? = some pj_m18 := rfl
set_option maxRecDepth 100000 in
theorem pm_19 : pj_ms[19]? = some pj_m19 := rfl
set_option maxRecDepth 100000 in
theorem pm_20 : pj_ms[20]? = some pj_m20 := rfl
set_option maxRecDepth 100000 in
theorem pm_21 : pj_ms[21]? = some pj_m21 := rfl
set_option maxRecDepth 100000 in
theorem pm_22 : pj_ms[22]? = some pj_m22 := rfl
set_option maxRecDepth 100000 in
theorem pm_23 : pj_ms[23]? = some pj_m23 := rfl
set_option maxRecDepth 100000 in
theorem pm_24 : pj_ms[24]? = some pj_m24 := rfl
set_option maxRecDepth 100000 in
theorem pm_25 : pj_ms[25]? = some pj_m25 := rfl
set_option maxRecDepth 100000 in
theorem pm_26 : pj_ms[26]? = some pj_m26 := rfl
set_option maxRecDepth 100000 in
theorem pm_27 : pj_ms[27]? = some pj_m27 := rfl
set_option maxRecDepth 100000 in
theorem pm_28 : pj_ms[28]? = some pj_m28 := rfl
set_option maxRecDepth 100000 in
theorem pm_29 : pj_ms[29]? = some pj_m29 := rfl
set_option maxRecDepth 100000 in
theorem pm_30 : pj_ms[30]? = some pj_m30 := rfl
set_option maxRecDepth 100000 in
theorem pm_31 : pj_ms[31]? = some pj_m31 := rfl
set_option maxRecDepth 100000 in
theorem pm_32 : pj_ms[32]? = some pj_m32 := rfl
set_option maxRecDepth 100000 in
theorem pm_33 : pj_ms[33]? = some pj_m33 := rfl
set_option maxRecDepth 100000 in
theorem pm_34 : pj_ms[34]? = some pj_m34 := rfl
set_option maxRecDepth 100000 in
theorem pm_35 : pj_ms[35]? = some pj_m35 := rfl
set_option maxRecDepth 100000 in
theorem pm_36 : pj_ms[36]? = some pj_m36 := rfl
set_option maxRecDepth 100000 in
theorem pm_37 : pj_ms[37]? = some pj_m37 := rfl
set_option maxRecDepth 100000 in
theorem pm_38 : pj_ms[38]? = some pj_m38 := rfl
set_option maxRecDepth 100000 in
theorem pm_39 : pj_ms[39]? = some pj_m39 := rfl
set_option maxRecDepth 100000 in
theorem pm_40 : pj_ms[40]? = some pj_m40 := rfl
set_option maxRecDepth 100000 in
theorem pm_41 : pj_ms[41]? = some pj_m41 := rfl
set_option maxRecDepth 100000 in
theorem pm_42 : pj_ms[42]? = some pj_m42 := rfl
set_option maxRecDepth 100000 in
theorem pm_43 : pj_ms[43]? = some pj_m43 := rfl
set_option maxRecDepth 100000 in
theorem pm_44 : pj_ms[44]? = some pj_m44 := rfl
set_option maxRecDepth 100000 in
theorem pm_45 : pj_ms[45]? = some pj_m45 := rfl
set_option maxRecDepth 100000 in
theorem pm_46 : pj_ms[46]? = some pj_m46 := rfl
set_option maxRecDepth 100000 in
theorem pm_47 : pj_ms[47]? = some pj_m47 := rfl
set_option maxRecDepth 100000 in
theorem pm_48 : pj_ms[48]? = some pj_m48 := rfl
set_option maxRecDepth 100000 in
theorem pm_49 : pj_ms[49]? = some pj_m49 := rfl
set_option maxRecDepth 100000 in
theorem pm_50 : pj_ms[50]? = some pj_m50 := rfl
set_option maxRecDepth 100000 in
theorem pm_51 : pj_ms[51]? = some pj_m51 := rfl
set_option maxRecDepth 100000 in
theorem pm_52 : pj_ms[52]? = some pj_m52 := rfl
set_option maxRecDepth 100000 in
theorem pm_53 : pj_ms[53]? = some pj_m53 := rfl
set_option maxRecDepth 100000 in
theorem pm_54 : pj_ms[54]? = some pj_m54 := rfl
set_option maxRecDepth 100000 in
theorem pm_55 : pj_ms[55]? = some pj_m55 := rfl
set_option maxRecDepth 100000 in
theorem pm_56 : pj_ms[56]? = some pj_m56 := rfl
set_option maxRecDepth 100000 in
theorem pm_57 : pj_ms[57]? = some pj_m57 := rfl
set_option maxRecDepth 100000 in
theorem pm_58 : pj_ms[58]? = some pj_m58 := rfl
set_option maxRecDepth 100000 in
theorem pm_59 : pj_ms[59]? = some pj_m59 := rfl
set_option maxRecDepth 100000 in
theorem pm_60 : pj_ms[60]? = some pj_m60 := rfl
set_option maxRecDepth 100000 in
theorem pm_61 : pj_ms[61]? = some pj_m61 := rfl
set_option maxRecDepth 100000 in
theorem pm_62 : pj_ms[62]? = some pj_m62 := rfl
set_option maxRecDepth 100000 in
theorem pm_63 : pj_ms[63]? = some pj_m63 := rfl
set_option maxRecDepth 100000 in
theorem pm_64 : pj_ms[64]? = some pj_m64 := rfl
set_option maxRecDepth 100000 in
theorem pm_65 : pj_ms[65]? = some pj_m65 := rfl
set_option maxRecDepth 100000 in
theorem pm_66 : pj_ms[66]? = some pj_m66 := rfl
set_option maxRecDepth 100000 in
theorem pm_67 : pj_ms[67]? = some pj_m67 := rfl
set_option maxRecDepth 100000 in
theorem pm_68 : pj_ms[68]? = some pj_m68 := rfl
set_option maxRecDepth 100000 in
theorem pm_69 : pj_ms[69]? = some pj_m69 := rfl
set_option maxRecDepth 100000 in
theorem pm_70 : pj_ms[70]? = some pj_m70 := rfl
set_option maxRecDepth 100000 in
theorem pm_71 : pj_ms[71]? = some pj_m71 := rfl
set_option maxRecDepth 100000 in
theorem pm_72 : pj_ms[72]? = some pj_m72 := rfl
set_option maxRecDepth 100000 in
theorem pm_73 : pj_ms[73]? = some pj_m73 := rfl
set_option maxRecDepth 100000 in
theorem pm_74 : pj_ms[74]? = some pj_m74 := rfl
set_option maxRecDepth 100000 in
theorem pm_75 : pj_ms[75]? = some pj_m75 := rfl
set_option maxRecDepth 100000 in
theorem pm_76 : pj_ms[76]? = some pj_m76 := rfl
set_option maxRecDepth 100000 in
theorem pm_77 : pj_ms[77]? = some pj_m77 := rfl
set_option maxRecDepth 100000 in
theorem pm_78 : pj_ms[78]? = some pj_m78 := rfl
set_option maxRecDepth 100000 in
theorem pm_79 : pj_ms[79]? = some pj_m79 := rfl
set_option maxRecDepth 100000 in
theorem pm_80 : pj_ms[80]? = some pj_m80 := rfl
set_option maxRecDepth 100000 in
theorem pm_81 : pj_ms[81]? = some pj_m81 := rfl
set_option maxRecDepth 100000 in
theorem pm_82 : pj_ms[82]? = some pj_m82 := rfl
set_option maxRecDepth 100000 in
theorem pm_83 : pj_ms[83]? = some pj_m83 := rfl
set_option maxRecDepth 100000 in
theorem pm_84 : pj_ms[84]? = some pj_m84 := rfl
set_option maxRecDepth 100000 in
theorem pm_85 : pj_ms[85]? = some pj_m85 := rfl
set_option maxRecDepth 100000 in
theorem pm_86 : pj_ms[86]? = some pj_m86 := rfl
set_option maxRecDepth 100000 in
theorem pm_87 : pj_ms[87]? = some pj_m87 := rfl
set_option maxRecDepth 100000 in
theorem pm_88 : pj_ms[88]? = some pj_m88 := rfl
set_option maxRecDepth 100000 in
theorem pm_89 : pj_ms[89]? = some pj_m89 := rfl
set_option maxRecDepth 100000 in
theorem pm_90 : pj_ms[90]? = some pj_m90 := rfl
set_option maxRecDepth 100000 in
theorem pm_91 : pj_ms[91]? = some pj_m91 := rfl
set_option maxRecDepth 100000 in
theorem pm_92 : pj_ms[92]? = some pj_m92 := rfl
set_option maxRecDepth 100000 in
theorem pm_93 : pj_ms[93]? = some pj_m93 := rfl
set_option maxRecDepth 100000 in
theorem pm_94 : pj_ms[94]? = some pj_m94 := rfl
set_option maxRecDepth 100000 in
theorem pm_95 : pj_ms[95]? = some pj_m95 := rfl
set_option maxRecDepth 100000 in
theorem pm_96 : pj_ms[96]? = some pj_m96 := rfl
set_option maxRecDepth 100000 in
theorem pm_97 : pj_ms[97]? = some pj_m97 := rfl
set_option maxRecDepth 100000 in
theorem pm_98 : pj_ms[98]? = some pj_m98 := rfl
set_option maxRecDepth 100000 in
theorem pm_99 : pj_ms[99]? = some pj_m99 := rfl
set_option maxRecDepth 100000 in
theorem pm_100 : pj_ms[100]? = some pj_m100 := rfl
set_option maxRecDepth 100000 in
theorem pm_101 : pj_ms[101]? = some pj_m101 := rfl
set_option maxRecDepth 100000 in
theorem pm_102 : pj_ms[102]? = some pj_m102 := rfl
set_option maxRecDepth 100000 in
theorem pm_103 : pj_ms[103]? = some pj_m103 := rfl
set_option maxRecDepth 100000 in
theorem pm_104 : pj_ms[104]? = some pj_m104 := rfl
set_option maxRecDepth 100000 in
theorem pm_105 : pj_ms[105]? = some pj_m105 := rfl
set_option maxRecDepth 100000 in
theorem pm_106 : pj_ms[106]? = some pj_m106 := rfl
set_option maxRecDepth 100000 in
theorem pm_107 : pj_ms[107]? = some pj_m107 := rfl
set_option maxRecDepth 100000 in
theorem pm_108 : pj_ms[108]? = some pj_m108 := rfl
set_option maxRecDepth 100000 in
theorem pm_109 : pj_ms[109]? = some pj_m109 := rfl
set_option maxRecDepth 100000 in
theorem pm_110 : pj_ms[110]? = some pj_m110 := rfl
set_option maxRecDepth 100000 in
theorem pm_111 : pj_ms[111]? = some pj_m111 := rfl
set_option maxRecDepth 100000 in
theorem pm_112 : pj_ms[112]? = some pj_m112 := rfl
set_option maxRecDepth 100000 in
theorem pm_113 : pj_ms[113]? = some pj_m113 := rfl
set_option maxRecDepth 100000 in
theorem pm_114 : pj_ms[114]? = some pj_m114 := rfl
set_option maxRecDepth 100000 in
theorem pm_115 : pj_ms[115]? = some pj_m115 := rfl
set_option maxRecDepth 100000 in
theorem pm_116 : pj_ms[116]? = some pj_m116 := rfl
set_option maxRecDepth 100000 in
theorem pm_117 : pj_ms[117]? = some pj_m117 := rfl
set_option maxRecDepth 100000 in
theorem pm_118 : pj_ms[118]? = some pj_m118 := rfl
set_option maxRecDepth 100000 in
theorem pm_119 : pj_ms[119]? = some pj_m119 := rfl
set_option maxRecDepth 100000 in
theorem pm_120 : pj_ms[120]? = some pj_m120 := rfl
set_option maxRecDepth 100000 in
theorem pm_121 : pj_ms[121]? = some pj_m121 := rfl
set_option maxRecDepth 100000 in
theorem pm_122 : pj_ms[122]? = some pj_m122 := rfl
set_option maxRecDepth 100000 in
theorem pm_123 : pj_ms[123]? = some pj_m123 := rfl
set_option maxRecDepth 100000 in
theorem pm_124 : pj_ms[124]? = some pj_m124 := rfl
set_option maxRecDepth 100000 in
theorem pm_125 : pj_ms[125]? = some pj_m125 := rfl
set_option maxRecDepth 100000 in
theorem pm_126 : pj_ms[126]? = some pj_m126 := rfl
set_option maxRecDepth 100000 in
theorem pm_127 : pj_ms[127]? = some pj_m127 := rfl
set_option maxRecDepth 100000 in
theorem pm_128 : pj_ms[128]? = some pj_m128 := rfl
set_option maxRecDepth 100000 in
theorem pm_129 : pj_ms[129]? = some pj_m129 := rfl
set_option maxRecDepth 100000 in
theorem pm_130 : pj_ms[130]? = some pj_m130 := rfl
set_option maxRecDepth 100000 in
theorem pm_131 : pj_ms[131]? = some pj_m131 := rfl
set_option maxRecDepth 100000 in
theorem pm_132 : pj_ms[132]? = some pj_m132 := rfl
set_option maxRecDepth 100000 in
theorem pm_133 : pj_ms[133]? = some pj_m133 := rfl
set_option maxRecDepth 100000 in
theorem pm_134 : pj_ms[134]? = some pj_m134 := rfl
set_option maxRecDepth 100000 in
theorem pm_135 : pj_ms[135]? = some pj_m135 := rfl
set_option maxRecDepth 100000 in
theorem pm_136 : pj_ms[136]? = some pj_m136 := rfl
set_option maxRecDepth 100000 in
theorem pm_137 : pj_ms[137]? = some pj_m137 := rfl
set_option maxRecDepth 100000 in
theorem pm_138 : pj_ms[138]? = some pj_m138 := rfl
set_option maxRecDepth 100000 in
theorem pm_139 : pj_ms[139]? = some pj_m139 := rfl
set_option maxRecDepth 100000 in
theorem pm_140 : pj_ms[140]? = some pj_m140 := rfl
set_option maxRecDepth 100000 in
theorem pm_141 : pj_ms[141]? = some pj_m141 := rfl
set_option maxRecDepth 100000 in
theorem pm_142 : pj_ms[142]? = some pj_m142 := rfl
set_option maxRecDepth 100000 in
theorem pm_143 : pj_ms[143]? = some pj_m143 := rfl
set_option maxRecDepth 100000 in
theorem pm_144 : pj_ms[144]? = some pj_m144 := rfl
set_option maxRecDepth 100000 in
theorem pm_145 : pj_ms[145]? = some pj_m145 := rfl
set_option maxRecDepth 100000 in
theorem pm_146 : pj_ms[146]? = some pj_m146 := rfl
set_option maxRecDepth 100000 in
theorem pm_147 : pj_ms[147]? = some pj_m147 := rfl
set_option maxRecDepth 100000 in
theorem pm_148 : pj_ms[148]? = some pj_m148 := rfl
set_option maxRecDepth 100000 in
theorem pm_149 : pj_ms[149]? = some pj_m149 := rfl
set_option maxRecDepth 100000 in
theorem pm_150 : pj_ms[150]? = some pj_m150 := rfl
set_option maxRecDepth 100000 in
theorem pm_151 : pj_ms[151]? = some pj_m151 := rfl
set_option maxRecDepth 100000 in
theorem pm_152 : pj_ms[152]? = some pj_m152 := rfl
set_option maxRecDepth 100000 in
theorem pm_153 : pj_ms[153]? = some pj_m153 := rfl
set_option maxRecDepth 100000 in
theorem pm_154 : pj_ms[154]? = some pj_m154 := rfl
set_option maxRecDepth 100000 in
theorem pm_155 : pj_ms[155]? = some pj_m155 := rfl
set_option maxRecDepth 100000 in
theorem pm_156 : pj_ms[156]? = some pj_m156 := rfl
set_option maxRecDepth 100000 in
theorem pm_157 : pj_ms[157]? = some pj_m157 := rfl
theorem pr_0_0 : pj_find 0 pj_m0.2.2.2.2.2.2 = some (.aload_n 0, 1) := by decide +kernel
theorem pr_0_1 : pj_find 1 pj_m0.2.2.2.2.2.2 = some (.invokespecial 3, 3) := by decide +kernel
theorem pr_0_4 : pj_find 4 pj_m0.2.2.2.2.2.2 = some (.return_, 1) := by decide +kernel
theorem pr_1_0 : pj_find 0 pj_m1.2.2.2.2.2.2 = some (.aload_n 0, 1) := by decide +kernel
theorem pr_1_1 : pj_find 1 pj_m1.2.2.2.2.2.2 = some (.invokevirtual 9, 3) := by decide +kernel
theorem pr_1_4 : pj_find 4 pj_m1.2.2.2.2.2.2 = some (.aload_n 3, 1) := by decide +kernel
theorem pr_1_5 : pj_find 5 pj_m1.2.2.2.2.2.2 = some (.aload_n 2, 1) := by decide +kernel
theorem pr_1_6 : pj_find 6 pj_m1.2.2.2.2.2.2 = some (.invokevirtual 14, 3) := by decide +kernel
theorem pr_1_9 : pj_find 9 pj_m1.2.2.2.2.2.2 = some (.iconst 0, 1) := by decide +kernel
theorem pr_1_10 : pj_find 10 pj_m1.2.2.2.2.2.2 = some (.istore 4, 2) := by decide +kernel
theorem pr_1_12 : pj_find 12 pj_m1.2.2.2.2.2.2 = some (.iconst 0, 1) := by decide +kernel
theorem pr_1_13 : pj_find 13 pj_m1.2.2.2.2.2.2 = some (.istore 5, 2) := by decide +kernel
theorem pr_1_15 : pj_find 15 pj_m1.2.2.2.2.2.2 = some (.iload 5, 2) := by decide +kernel
theorem pr_1_17 : pj_find 17 pj_m1.2.2.2.2.2.2 = some (.bipush 60, 2) := by decide +kernel
theorem pr_1_19 : pj_find 19 pj_m1.2.2.2.2.2.2 = some (.if_icmp .ge 99, 3) := by decide +kernel
theorem pr_1_22 : pj_find 22 pj_m1.2.2.2.2.2.2 = some (.iload 4, 2) := by decide +kernel
theorem pr_1_24 : pj_find 24 pj_m1.2.2.2.2.2.2 = some (.aload_n 1, 1) := by decide +kernel
theorem pr_1_25 : pj_find 25 pj_m1.2.2.2.2.2.2 = some (.invokevirtual 22, 3) := by decide +kernel
theorem pr_1_28 : pj_find 28 pj_m1.2.2.2.2.2.2 = some (.if_icmp .ge 90, 3) := by decide +kernel
theorem pr_1_31 : pj_find 31 pj_m1.2.2.2.2.2.2 = some (.aload_n 1, 1) := by decide +kernel
theorem pr_1_32 : pj_find 32 pj_m1.2.2.2.2.2.2 = some (.iload 4, 2) := by decide +kernel
theorem pr_1_34 : pj_find 34 pj_m1.2.2.2.2.2.2 = some (.aload_n 3, 1) := by decide +kernel
theorem pr_1_35 : pj_find 35 pj_m1.2.2.2.2.2.2 = some (.invokevirtual 26, 3) := by decide +kernel
theorem pr_1_38 : pj_find 38 pj_m1.2.2.2.2.2.2 = some (.istore 6, 2) := by decide +kernel
theorem pr_1_40 : pj_find 40 pj_m1.2.2.2.2.2.2 = some (.iload 6, 2) := by decide +kernel
theorem pr_1_42 : pj_find 42 pj_m1.2.2.2.2.2.2 = some (.ifCond .eq 16, 3) := by decide +kernel
theorem pr_1_45 : pj_find 45 pj_m1.2.2.2.2.2.2 = some (.aload_n 0, 1) := by decide +kernel
theorem pr_1_46 : pj_find 46 pj_m1.2.2.2.2.2.2 = some (.iload 5, 2) := by decide +kernel
theorem pr_1_48 : pj_find 48 pj_m1.2.2.2.2.2.2 = some (.putfield 30, 3) := by decide +kernel
theorem pr_1_51 : pj_find 51 pj_m1.2.2.2.2.2.2 = some (.aload_n 0, 1) := by decide +kernel
theorem pr_1_52 : pj_find 52 pj_m1.2.2.2.2.2.2 = some (.iload 6, 2) := by decide +kernel
theorem pr_1_54 : pj_find 54 pj_m1.2.2.2.2.2.2 = some (.putfield 34, 3) := by decide +kernel
theorem pr_1_57 : pj_find 57 pj_m1.2.2.2.2.2.2 = some (.return_, 1) := by decide +kernel
theorem pr_1_58 : pj_find 58 pj_m1.2.2.2.2.2.2 = some (.aload_n 0, 1) := by decide +kernel
theorem pr_1_59 : pj_find 59 pj_m1.2.2.2.2.2.2 = some (.getfield 37, 3) := by decide +kernel
theorem pr_1_62 : pj_find 62 pj_m1.2.2.2.2.2.2 = some (.bipush (-6), 2) := by decide +kernel
theorem pr_1_64 : pj_find 64 pj_m1.2.2.2.2.2.2 = some (.if_icmp .ne 27, 3) := by decide +kernel
theorem pr_1_67 : pj_find 67 pj_m1.2.2.2.2.2.2 = some (.aload_n 3, 1) := by decide +kernel
theorem pr_1_68 : pj_find 68 pj_m1.2.2.2.2.2.2 = some (.getfield 40, 3) := by decide +kernel
theorem pr_1_71 : pj_find 71 pj_m1.2.2.2.2.2.2 = some (.ifCond .eq 20, 3) := by decide +kernel
theorem pr_1_74 : pj_find 74 pj_m1.2.2.2.2.2.2 = some (.aload_n 0, 1) := by decide +kernel
theorem pr_1_75 : pj_find 75 pj_m1.2.2.2.2.2.2 = some (.iload 5, 2) := by decide +kernel
theorem pr_1_77 : pj_find 77 pj_m1.2.2.2.2.2.2 = some (.putfield 37, 3) := by decide +kernel
theorem pr_1_80 : pj_find 80 pj_m1.2.2.2.2.2.2 = some (.aload_n 0, 1) := by decide +kernel
theorem pr_1_81 : pj_find 81 pj_m1.2.2.2.2.2.2 = some (.aload_n 3, 1) := by decide +kernel
theorem pr_1_82 : pj_find 82 pj_m1.2.2.2.2.2.2 = some (.getfield 40, 3) := by decide +kernel
theorem pr_1_85 : pj_find 85 pj_m1.2.2.2.2.2.2 = some (.invokestatic 43, 3) := by decide +kernel
theorem pr_1_88 : pj_find 88 pj_m1.2.2.2.2.2.2 = some (.putfield 49, 3) := by decide +kernel
theorem pr_1_91 : pj_find 91 pj_m1.2.2.2.2.2.2 = some (.aload_n 0, 1) := by decide +kernel
theorem pr_1_92 : pj_find 92 pj_m1.2.2.2.2.2.2 = some (.dup, 1) := by decide +kernel
theorem pr_1_93 : pj_find 93 pj_m1.2.2.2.2.2.2 = some (.getfield 52, 3) := by decide +kernel
theorem pr_1_96 : pj_find 96 pj_m1.2.2.2.2.2.2 = some (.iconst 1, 1) := by decide +kernel
theorem pr_1_97 : pj_find 97 pj_m1.2.2.2.2.2.2 = some (.iadd, 1) := by decide +kernel
theorem pr_1_98 : pj_find 98 pj_m1.2.2.2.2.2.2 = some (.putfield 52, 3) := by decide +kernel
theorem pr_1_101 : pj_find 101 pj_m1.2.2.2.2.2.2 = some (.iload 4, 2) := by decide +kernel
theorem pr_1_103 : pj_find 103 pj_m1.2.2.2.2.2.2 = some (.aload_n 1, 1) := by decide +kernel
theorem pr_1_104 : pj_find 104 pj_m1.2.2.2.2.2.2 = some (.iload 4, 2) := by decide +kernel
theorem pr_1_106 : pj_find 106 pj_m1.2.2.2.2.2.2 = some (.invokevirtual 55, 3) := by decide +kernel
theorem pr_1_109 : pj_find 109 pj_m1.2.2.2.2.2.2 = some (.iadd, 1) := by decide +kernel
theorem pr_1_110 : pj_find 110 pj_m1.2.2.2.2.2.2 = some (.istore 4, 2) := by decide +kernel
theorem pr_1_112 : pj_find 112 pj_m1.2.2.2.2.2.2 = some (.iinc 5 1, 3) := by decide +kernel
theorem pr_1_115 : pj_find 115 pj_m1.2.2.2.2.2.2 = some (.goto (-100), 3) := by decide +kernel
theorem pr_1_118 : pj_find 118 pj_m1.2.2.2.2.2.2 = some (.return_, 1) := by decide +kernel
theorem pr_2_0 : pj_find 0 pj_m2.2.2.2.2.2.2 = some (.aload_n 0, 1) := by decide +kernel
theorem pr_2_1 : pj_find 1 pj_m2.2.2.2.2.2.2 = some (.iconst 0, 1) := by decide +kernel
theorem pr_2_2 : pj_find 2 pj_m2.2.2.2.2.2.2 = some (.putfield 52, 3) := by decide +kernel
theorem pr_2_5 : pj_find 5 pj_m2.2.2.2.2.2.2 = some (.aload_n 0, 1) := by decide +kernel
theorem pr_2_6 : pj_find 6 pj_m2.2.2.2.2.2.2 = some (.bipush (-6), 2) := by decide +kernel
theorem pr_2_8 : pj_find 8 pj_m2.2.2.2.2.2.2 = some (.putfield 30, 3) := by decide +kernel
theorem pr_2_11 : pj_find 11 pj_m2.2.2.2.2.2.2 = some (.aload_n 0, 1) := by decide +kernel
theorem pr_2_12 : pj_find 12 pj_m2.2.2.2.2.2.2 = some (.bipush (-6), 2) := by decide +kernel
theorem pr_2_14 : pj_find 14 pj_m2.2.2.2.2.2.2 = some (.putfield 34, 3) := by decide +kernel
theorem pr_2_17 : pj_find 17 pj_m2.2.2.2.2.2.2 = some (.aload_n 0, 1) := by decide +kernel
theorem pr_2_18 : pj_find 18 pj_m2.2.2.2.2.2.2 = some (.bipush (-6), 2) := by decide +kernel
theorem pr_2_20 : pj_find 20 pj_m2.2.2.2.2.2.2 = some (.putfield 37, 3) := by decide +kernel
theorem pr_2_23 : pj_find 23 pj_m2.2.2.2.2.2.2 = some (.aload_n 0, 1) := by decide +kernel
theorem pr_2_24 : pj_find 24 pj_m2.2.2.2.2.2.2 = some (.bipush (-6), 2) := by decide +kernel
theorem pr_2_26 : pj_find 26 pj_m2.2.2.2.2.2.2 = some (.putfield 49, 3) := by decide +kernel
theorem pr_2_29 : pj_find 29 pj_m2.2.2.2.2.2.2 = some (.return_, 1) := by decide +kernel
theorem pr_3_0 : pj_find 0 pj_m3.2.2.2.2.2.2 = some (.aload_n 0, 1) := by decide +kernel
theorem pr_3_1 : pj_find 1 pj_m3.2.2.2.2.2.2 = some (.invokespecial 3, 3) := by decide +kernel
theorem pr_3_4 : pj_find 4 pj_m3.2.2.2.2.2.2 = some (.aload_n 0, 1) := by decide +kernel
theorem pr_3_5 : pj_find 5 pj_m3.2.2.2.2.2.2 = some (.bipush 17, 2) := by decide +kernel
theorem pr_3_7 : pj_find 7 pj_m3.2.2.2.2.2.2 = some (.newarray .long, 2) := by decide +kernel
theorem pr_3_9 : pj_find 9 pj_m3.2.2.2.2.2.2 = some (.putfield 9, 3) := by decide +kernel
theorem pr_3_12 : pj_find 12 pj_m3.2.2.2.2.2.2 = some (.return_, 1) := by decide +kernel
theorem pr_4_0 : pj_find 0 pj_m4.2.2.2.2.2.2 = some (.aload_n 0, 1) := by decide +kernel
theorem pr_4_1 : pj_find 1 pj_m4.2.2.2.2.2.2 = some (.getfield 9, 3) := by decide +kernel
theorem pr_4_4 : pj_find 4 pj_m4.2.2.2.2.2.2 = some (.lconst 0, 1) := by decide +kernel
theorem pr_4_5 : pj_find 5 pj_m4.2.2.2.2.2.2 = some (.invokestatic 15, 3) := by decide +kernel
theorem pr_4_8 : pj_find 8 pj_m4.2.2.2.2.2.2 = some (.aload_n 0, 1) := by decide +kernel
theorem pr_4_9 : pj_find 9 pj_m4.2.2.2.2.2.2 = some (.getfield 9, 3) := by decide +kernel
theorem pr_4_12 : pj_find 12 pj_m4.2.2.2.2.2.2 = some (.iconst 0, 1) := by decide +kernel
theorem pr_4_13 : pj_find 13 pj_m4.2.2.2.2.2.2 = some (.lconst 1, 1) := by decide +kernel
theorem pr_4_14 : pj_find 14 pj_m4.2.2.2.2.2.2 = some (.lastore, 1) := by decide +kernel
theorem pr_4_15 : pj_find 15 pj_m4.2.2.2.2.2.2 = some (.iconst 0, 1) := by decide +kernel
theorem pr_4_16 : pj_find 16 pj_m4.2.2.2.2.2.2 = some (.istore_n 3, 1) := by decide +kernel
theorem pr_4_17 : pj_find 17 pj_m4.2.2.2.2.2.2 = some (.iload_n 3, 1) := by decide +kernel
theorem pr_4_18 : pj_find 18 pj_m4.2.2.2.2.2.2 = some (.iload_n 1, 1) := by decide +kernel
theorem pr_4_19 : pj_find 19 pj_m4.2.2.2.2.2.2 = some (.if_icmp .ge 68, 3) := by decide +kernel
theorem pr_4_22 : pj_find 22 pj_m4.2.2.2.2.2.2 = some (.bipush 16, 2) := by decide +kernel
theorem pr_4_24 : pj_find 24 pj_m4.2.2.2.2.2.2 = some (.istore 4, 2) := by decide +kernel
theorem pr_4_26 : pj_find 26 pj_m4.2.2.2.2.2.2 = some (.iload 4, 2) := by decide +kernel
theorem pr_4_28 : pj_find 28 pj_m4.2.2.2.2.2.2 = some (.ifCond .le 46, 3) := by decide +kernel
theorem pr_4_31 : pj_find 31 pj_m4.2.2.2.2.2.2 = some (.aload_n 0, 1) := by decide +kernel
theorem pr_4_32 : pj_find 32 pj_m4.2.2.2.2.2.2 = some (.getfield 9, 3) := by decide +kernel
theorem pr_4_35 : pj_find 35 pj_m4.2.2.2.2.2.2 = some (.iload 4, 2) := by decide +kernel
theorem pr_4_37 : pj_find 37 pj_m4.2.2.2.2.2.2 = some (.aload_n 0, 1) := by decide +kernel
theorem pr_4_38 : pj_find 38 pj_m4.2.2.2.2.2.2 = some (.getfield 9, 3) := by decide +kernel
theorem pr_4_41 : pj_find 41 pj_m4.2.2.2.2.2.2 = some (.iload 4, 2) := by decide +kernel
theorem pr_4_43 : pj_find 43 pj_m4.2.2.2.2.2.2 = some (.laload, 1) := by decide +kernel
theorem pr_4_44 : pj_find 44 pj_m4.2.2.2.2.2.2 = some (.iload 4, 2) := by decide +kernel
theorem pr_4_46 : pj_find 46 pj_m4.2.2.2.2.2.2 = some (.i2l, 1) := by decide +kernel
theorem pr_4_47 : pj_find 47 pj_m4.2.2.2.2.2.2 = some (.lmul, 1) := by decide +kernel
theorem pr_4_48 : pj_find 48 pj_m4.2.2.2.2.2.2 = some (.aload_n 0, 1) := by decide +kernel
theorem pr_4_49 : pj_find 49 pj_m4.2.2.2.2.2.2 = some (.getfield 9, 3) := by decide +kernel
theorem pr_4_52 : pj_find 52 pj_m4.2.2.2.2.2.2 = some (.iload 4, 2) := by decide +kernel
theorem pr_4_54 : pj_find 54 pj_m4.2.2.2.2.2.2 = some (.iconst 1, 1) := by decide +kernel
theorem pr_4_55 : pj_find 55 pj_m4.2.2.2.2.2.2 = some (.isub, 1) := by decide +kernel
theorem pr_4_56 : pj_find 56 pj_m4.2.2.2.2.2.2 = some (.laload, 1) := by decide +kernel
theorem pr_4_57 : pj_find 57 pj_m4.2.2.2.2.2.2 = some (.bipush 16, 2) := by decide +kernel
theorem pr_4_59 : pj_find 59 pj_m4.2.2.2.2.2.2 = some (.iload 4, 2) := by decide +kernel
theorem pr_4_61 : pj_find 61 pj_m4.2.2.2.2.2.2 = some (.isub, 1) := by decide +kernel
theorem pr_4_62 : pj_find 62 pj_m4.2.2.2.2.2.2 = some (.iconst 1, 1) := by decide +kernel
theorem pr_4_63 : pj_find 63 pj_m4.2.2.2.2.2.2 = some (.iadd, 1) := by decide +kernel
theorem pr_4_64 : pj_find 64 pj_m4.2.2.2.2.2.2 = some (.i2l, 1) := by decide +kernel
theorem pr_4_65 : pj_find 65 pj_m4.2.2.2.2.2.2 = some (.lmul, 1) := by decide +kernel
theorem pr_4_66 : pj_find 66 pj_m4.2.2.2.2.2.2 = some (.ladd, 1) := by decide +kernel
theorem pr_4_67 : pj_find 67 pj_m4.2.2.2.2.2.2 = some (.lastore, 1) := by decide +kernel
theorem pr_4_68 : pj_find 68 pj_m4.2.2.2.2.2.2 = some (.iinc 4 (-1), 3) := by decide +kernel
theorem pr_4_71 : pj_find 71 pj_m4.2.2.2.2.2.2 = some (.goto (-45), 3) := by decide +kernel
theorem pr_4_74 : pj_find 74 pj_m4.2.2.2.2.2.2 = some (.aload_n 0, 1) := by decide +kernel
theorem pr_4_75 : pj_find 75 pj_m4.2.2.2.2.2.2 = some (.getfield 9, 3) := by decide +kernel
theorem pr_4_78 : pj_find 78 pj_m4.2.2.2.2.2.2 = some (.iconst 0, 1) := by decide +kernel
theorem pr_4_79 : pj_find 79 pj_m4.2.2.2.2.2.2 = some (.lconst 0, 1) := by decide +kernel
theorem pr_4_80 : pj_find 80 pj_m4.2.2.2.2.2.2 = some (.lastore, 1) := by decide +kernel
theorem pr_4_81 : pj_find 81 pj_m4.2.2.2.2.2.2 = some (.iinc 3 1, 3) := by decide +kernel
theorem pr_4_84 : pj_find 84 pj_m4.2.2.2.2.2.2 = some (.goto (-67), 3) := by decide +kernel
theorem pr_4_87 : pj_find 87 pj_m4.2.2.2.2.2.2 = some (.iload_n 2, 1) := by decide +kernel
theorem pr_4_88 : pj_find 88 pj_m4.2.2.2.2.2.2 = some (.ifCond .lt 18, 3) := by decide +kernel
theorem pr_4_91 : pj_find 91 pj_m4.2.2.2.2.2.2 = some (.iload_n 2, 1) := by decide +kernel
theorem pr_4_92 : pj_find 92 pj_m4.2.2.2.2.2.2 = some (.bipush 16, 2) := by decide +kernel
theorem pr_4_94 : pj_find 94 pj_m4.2.2.2.2.2.2 = some (.if_icmp .gt 12, 3) := by decide +kernel
theorem pr_4_97 : pj_find 97 pj_m4.2.2.2.2.2.2 = some (.aload_n 0, 1) := by decide +kernel
theorem pr_4_98 : pj_find 98 pj_m4.2.2.2.2.2.2 = some (.getfield 9, 3) := by decide +kernel
theorem pr_4_101 : pj_find 101 pj_m4.2.2.2.2.2.2 = some (.iload_n 2, 1) := by decide +kernel
theorem pr_4_102 : pj_find 102 pj_m4.2.2.2.2.2.2 = some (.laload, 1) := by decide +kernel
theorem pr_4_103 : pj_find 103 pj_m4.2.2.2.2.2.2 = some (.goto 4, 3) := by decide +kernel
theorem pr_4_106 : pj_find 106 pj_m4.2.2.2.2.2.2 = some (.lconst 0, 1) := by decide +kernel
theorem pr_4_107 : pj_find 107 pj_m4.2.2.2.2.2.2 = some (.lreturn, 1) := by decide +kernel
theorem pr_5_0 : pj_find 0 pj_m5.2.2.2.2.2.2 = some (.ldc2_w 21, 3) := by decide +kernel
theorem pr_5_3 : pj_find 3 pj_m5.2.2.2.2.2.2 = some (.bipush 16, 2) := by decide +kernel
theorem pr_5_5 : pj_find 5 pj_m5.2.2.2.2.2.2 = some (.iload_n 0, 1) := by decide +kernel
theorem pr_5_6 : pj_find 6 pj_m5.2.2.2.2.2.2 = some (.invokestatic 23, 3) := by decide +kernel
theorem pr_5_9 : pj_find 9 pj_m5.2.2.2.2.2.2 = some (.bipush 15, 2) := by decide +kernel
theorem pr_5_11 : pj_find 11 pj_m5.2.2.2.2.2.2 = some (.iload_n 0, 1) := by decide +kernel
theorem pr_5_12 : pj_find 12 pj_m5.2.2.2.2.2.2 = some (.invokestatic 23, 3) := by decide +kernel
theorem pr_5_15 : pj_find 15 pj_m5.2.2.2.2.2.2 = some (.lsub, 1) := by decide +kernel
theorem pr_5_16 : pj_find 16 pj_m5.2.2.2.2.2.2 = some (.lmul, 1) := by decide +kernel
theorem pr_5_17 : pj_find 17 pj_m5.2.2.2.2.2.2 = some (.lreturn, 1) := by decide +kernel
theorem pr_6_0 : pj_find 0 pj_m6.2.2.2.2.2.2 = some (.lconst 1, 1) := by decide +kernel
theorem pr_6_1 : pj_find 1 pj_m6.2.2.2.2.2.2 = some (.lstore_n 2, 1) := by decide +kernel
theorem pr_6_2 : pj_find 2 pj_m6.2.2.2.2.2.2 = some (.iconst 0, 1) := by decide +kernel
theorem pr_6_3 : pj_find 3 pj_m6.2.2.2.2.2.2 = some (.istore 4, 2) := by decide +kernel
theorem pr_6_5 : pj_find 5 pj_m6.2.2.2.2.2.2 = some (.iload 4, 2) := by decide +kernel
theorem pr_6_7 : pj_find 7 pj_m6.2.2.2.2.2.2 = some (.iload_n 1, 1) := by decide +kernel
theorem pr_6_8 : pj_find 8 pj_m6.2.2.2.2.2.2 = some (.if_icmp .ge 14, 3) := by decide +kernel
theorem pr_6_11 : pj_find 11 pj_m6.2.2.2.2.2.2 = some (.lload_n 2, 1) := by decide +kernel
theorem pr_6_12 : pj_find 12 pj_m6.2.2.2.2.2.2 = some (.iload_n 0, 1) := by decide +kernel
theorem pr_6_13 : pj_find 13 pj_m6.2.2.2.2.2.2 = some (.i2l, 1) := by decide +kernel
theorem pr_6_14 : pj_find 14 pj_m6.2.2.2.2.2.2 = some (.lmul, 1) := by decide +kernel
theorem pr_6_15 : pj_find 15 pj_m6.2.2.2.2.2.2 = some (.lstore_n 2, 1) := by decide +kernel
theorem pr_6_16 : pj_find 16 pj_m6.2.2.2.2.2.2 = some (.iinc 4 1, 3) := by decide +kernel
theorem pr_6_19 : pj_find 19 pj_m6.2.2.2.2.2.2 = some (.goto (-14), 3) := by decide +kernel
theorem pr_6_22 : pj_find 22 pj_m6.2.2.2.2.2.2 = some (.lload_n 2, 1) := by decide +kernel
theorem pr_6_23 : pj_find 23 pj_m6.2.2.2.2.2.2 = some (.lreturn, 1) := by decide +kernel
theorem pr_7_0 : pj_find 0 pj_m7.2.2.2.2.2.2 = some (.lload_n 0, 1) := by decide +kernel
theorem pr_7_1 : pj_find 1 pj_m7.2.2.2.2.2.2 = some (.lstore 5, 2) := by decide +kernel
theorem pr_7_3 : pj_find 3 pj_m7.2.2.2.2.2.2 = some (.lload_n 2, 1) := by decide +kernel
theorem pr_7_4 : pj_find 4 pj_m7.2.2.2.2.2.2 = some (.lstore 7, 2) := by decide +kernel
theorem pr_7_6 : pj_find 6 pj_m7.2.2.2.2.2.2 = some (.iconst 0, 1) := by decide +kernel
theorem pr_7_7 : pj_find 7 pj_m7.2.2.2.2.2.2 = some (.istore 9, 2) := by decide +kernel
theorem pr_7_9 : pj_find 9 pj_m7.2.2.2.2.2.2 = some (.iload 9, 2) := by decide +kernel
theorem pr_7_11 : pj_find 11 pj_m7.2.2.2.2.2.2 = some (.bipush 40, 2) := by decide +kernel
theorem pr_7_13 : pj_find 13 pj_m7.2.2.2.2.2.2 = some (.if_icmp .ge 41, 3) := by decide +kernel
theorem pr_7_16 : pj_find 16 pj_m7.2.2.2.2.2.2 = some (.lload 5, 2) := by decide +kernel
theorem pr_7_18 : pj_find 18 pj_m7.2.2.2.2.2.2 = some (.lconst 1, 1) := by decide +kernel
theorem pr_7_19 : pj_find 19 pj_m7.2.2.2.2.2.2 = some (.land, 1) := by decide +kernel
theorem pr_7_20 : pj_find 20 pj_m7.2.2.2.2.2.2 = some (.lconst 0, 1) := by decide +kernel
theorem pr_7_21 : pj_find 21 pj_m7.2.2.2.2.2.2 = some (.lcmp, 1) := by decide +kernel
theorem pr_7_22 : pj_find 22 pj_m7.2.2.2.2.2.2 = some (.ifCond .ne 32, 3) := by decide +kernel
theorem pr_7_25 : pj_find 25 pj_m7.2.2.2.2.2.2 = some (.lload 7, 2) := by decide +kernel
theorem pr_7_27 : pj_find 27 pj_m7.2.2.2.2.2.2 = some (.lconst 1, 1) := by decide +kernel
theorem pr_7_28 : pj_find 28 pj_m7.2.2.2.2.2.2 = some (.lcmp, 1) := by decide +kernel
theorem pr_7_29 : pj_find 29 pj_m7.2.2.2.2.2.2 = some (.ifCond .le 25, 3) := by decide +kernel
theorem pr_7_32 : pj_find 32 pj_m7.2.2.2.2.2.2 = some (.lload 5, 2) := by decide +kernel
theorem pr_7_34 : pj_find 34 pj_m7.2.2.2.2.2.2 = some (.ldc2_w 27, 3) := by decide +kernel
theorem pr_7_37 : pj_find 37 pj_m7.2.2.2.2.2.2 = some (.ldiv, 1) := by decide +kernel
theorem pr_7_38 : pj_find 38 pj_m7.2.2.2.2.2.2 = some (.lstore 5, 2) := by decide +kernel
theorem pr_7_40 : pj_find 40 pj_m7.2.2.2.2.2.2 = some (.lload 7, 2) := by decide +kernel
theorem pr_7_42 : pj_find 42 pj_m7.2.2.2.2.2.2 = some (.ldc2_w 27, 3) := by decide +kernel
theorem pr_7_45 : pj_find 45 pj_m7.2.2.2.2.2.2 = some (.ldiv, 1) := by decide +kernel
theorem pr_7_46 : pj_find 46 pj_m7.2.2.2.2.2.2 = some (.lstore 7, 2) := by decide +kernel
theorem pr_7_48 : pj_find 48 pj_m7.2.2.2.2.2.2 = some (.iinc 9 1, 3) := by decide +kernel
theorem pr_7_51 : pj_find 51 pj_m7.2.2.2.2.2.2 = some (.goto (-42), 3) := by decide +kernel
theorem pr_7_54 : pj_find 54 pj_m7.2.2.2.2.2.2 = some (.iload 4, 2) := by decide +kernel
theorem pr_7_56 : pj_find 56 pj_m7.2.2.2.2.2.2 = some (.ifCond .ne 8, 3) := by decide +kernel
theorem pr_7_59 : pj_find 59 pj_m7.2.2.2.2.2.2 = some (.lload 5, 2) := by decide +kernel
theorem pr_7_61 : pj_find 61 pj_m7.2.2.2.2.2.2 = some (.goto 5, 3) := by decide +kernel
theorem pr_7_64 : pj_find 64 pj_m7.2.2.2.2.2.2 = some (.lload 7, 2) := by decide +kernel
theorem pr_7_66 : pj_find 66 pj_m7.2.2.2.2.2.2 = some (.lreturn, 1) := by decide +kernel
theorem pr_8_0 : pj_find 0 pj_m8.2.2.2.2.2.2 = some (.aload_n 0, 1) := by decide +kernel
theorem pr_8_1 : pj_find 1 pj_m8.2.2.2.2.2.2 = some (.invokespecial 3, 3) := by decide +kernel
theorem pr_8_4 : pj_find 4 pj_m8.2.2.2.2.2.2 = some (.aload_n 0, 1) := by decide +kernel
theorem pr_8_5 : pj_find 5 pj_m8.2.2.2.2.2.2 = some (.bipush 32, 2) := by decide +kernel
theorem pr_8_7 : pj_find 7 pj_m8.2.2.2.2.2.2 = some (.newarray .int, 2) := by decide +kernel
theorem pr_8_9 : pj_find 9 pj_m8.2.2.2.2.2.2 = some (.putfield 11, 3) := by decide +kernel
theorem pr_8_12 : pj_find 12 pj_m8.2.2.2.2.2.2 = some (.aload_n 0, 1) := by decide +kernel
theorem pr_8_13 : pj_find 13 pj_m8.2.2.2.2.2.2 = some (.bipush 32, 2) := by decide +kernel
theorem pr_8_15 : pj_find 15 pj_m8.2.2.2.2.2.2 = some (.newarray .int, 2) := by decide +kernel
theorem pr_8_17 : pj_find 17 pj_m8.2.2.2.2.2.2 = some (.putfield 15, 3) := by decide +kernel
theorem pr_8_20 : pj_find 20 pj_m8.2.2.2.2.2.2 = some (.return_, 1) := by decide +kernel
theorem pr_9_0 : pj_find 0 pj_m9.2.2.2.2.2.2 = some (.aload_n 0, 1) := by decide +kernel
theorem pr_9_1 : pj_find 1 pj_m9.2.2.2.2.2.2 = some (.iconst 0, 1) := by decide +kernel
theorem pr_9_2 : pj_find 2 pj_m9.2.2.2.2.2.2 = some (.putfield 18, 3) := by decide +kernel
theorem pr_9_5 : pj_find 5 pj_m9.2.2.2.2.2.2 = some (.iconst 0, 1) := by decide +kernel
theorem pr_9_6 : pj_find 6 pj_m9.2.2.2.2.2.2 = some (.istore_n 2, 1) := by decide +kernel
theorem pr_9_7 : pj_find 7 pj_m9.2.2.2.2.2.2 = some (.iload_n 2, 1) := by decide +kernel
theorem pr_9_8 : pj_find 8 pj_m9.2.2.2.2.2.2 = some (.bipush 8, 2) := by decide +kernel
theorem pr_9_10 : pj_find 10 pj_m9.2.2.2.2.2.2 = some (.if_icmp .ge 55, 3) := by decide +kernel
theorem pr_9_13 : pj_find 13 pj_m9.2.2.2.2.2.2 = some (.aload_n 1, 1) := by decide +kernel
theorem pr_9_14 : pj_find 14 pj_m9.2.2.2.2.2.2 = some (.iload_n 2, 1) := by decide +kernel
theorem pr_9_15 : pj_find 15 pj_m9.2.2.2.2.2.2 = some (.invokevirtual 22, 3) := by decide +kernel
theorem pr_9_18 : pj_find 18 pj_m9.2.2.2.2.2.2 = some (.istore_n 3, 1) := by decide +kernel
theorem pr_9_19 : pj_find 19 pj_m9.2.2.2.2.2.2 = some (.iconst 0, 1) := by decide +kernel
theorem pr_9_20 : pj_find 20 pj_m9.2.2.2.2.2.2 = some (.istore 4, 2) := by decide +kernel
theorem pr_9_22 : pj_find 22 pj_m9.2.2.2.2.2.2 = some (.iload 4, 2) := by decide +kernel
theorem pr_9_24 : pj_find 24 pj_m9.2.2.2.2.2.2 = some (.iconst 4, 1) := by decide +kernel
theorem pr_9_25 : pj_find 25 pj_m9.2.2.2.2.2.2 = some (.if_icmp .ge 34, 3) := by decide +kernel
theorem pr_9_28 : pj_find 28 pj_m9.2.2.2.2.2.2 = some (.aload_n 1, 1) := by decide +kernel
theorem pr_9_29 : pj_find 29 pj_m9.2.2.2.2.2.2 = some (.iload_n 3, 1) := by decide +kernel
theorem pr_9_30 : pj_find 30 pj_m9.2.2.2.2.2.2 = some (.invokevirtual 28, 3) := by decide +kernel
theorem pr_9_33 : pj_find 33 pj_m9.2.2.2.2.2.2 = some (.ifCond .eq 15, 3) := by decide +kernel
theorem pr_9_36 : pj_find 36 pj_m9.2.2.2.2.2.2 = some (.aload_n 0, 1) := by decide +kernel
theorem pr_9_37 : pj_find 37 pj_m9.2.2.2.2.2.2 = some (.bipush 10, 2) := by decide +kernel
theorem pr_9_39 : pj_find 39 pj_m9.2.2.2.2.2.2 = some (.iload_n 2, 1) := by decide +kernel
theorem pr_9_40 : pj_find 40 pj_m9.2.2.2.2.2.2 = some (.imul, 1) := by decide +kernel
theorem pr_9_41 : pj_find 41 pj_m9.2.2.2.2.2.2 = some (.iload 4, 2) := by decide +kernel
theorem pr_9_43 : pj_find 43 pj_m9.2.2.2.2.2.2 = some (.iadd, 1) := by decide +kernel
theorem pr_9_44 : pj_find 44 pj_m9.2.2.2.2.2.2 = some (.iload_n 3, 1) := by decide +kernel
theorem pr_9_45 : pj_find 45 pj_m9.2.2.2.2.2.2 = some (.invokevirtual 32, 3) := by decide +kernel
theorem pr_9_48 : pj_find 48 pj_m9.2.2.2.2.2.2 = some (.iload_n 3, 1) := by decide +kernel
theorem pr_9_49 : pj_find 49 pj_m9.2.2.2.2.2.2 = some (.invokestatic 36, 3) := by decide +kernel
theorem pr_9_52 : pj_find 52 pj_m9.2.2.2.2.2.2 = some (.istore_n 3, 1) := by decide +kernel
theorem pr_9_53 : pj_find 53 pj_m9.2.2.2.2.2.2 = some (.iinc 4 1, 3) := by decide +kernel
theorem pr_9_56 : pj_find 56 pj_m9.2.2.2.2.2.2 = some (.goto (-34), 3) := by decide +kernel
theorem pr_9_59 : pj_find 59 pj_m9.2.2.2.2.2.2 = some (.iinc 2 1, 3) := by decide +kernel
theorem pr_9_62 : pj_find 62 pj_m9.2.2.2.2.2.2 = some (.goto (-55), 3) := by decide +kernel
theorem pr_9_65 : pj_find 65 pj_m9.2.2.2.2.2.2 = some (.return_, 1) := by decide +kernel
theorem pr_10_0 : pj_find 0 pj_m10.2.2.2.2.2.2 = some (.aload_n 0, 1) := by decide +kernel
theorem pr_10_1 : pj_find 1 pj_m10.2.2.2.2.2.2 = some (.getfield 18, 3) := by decide +kernel
theorem pr_10_4 : pj_find 4 pj_m10.2.2.2.2.2.2 = some (.ifCond .lt 42, 3) := by decide +kernel
theorem pr_10_7 : pj_find 7 pj_m10.2.2.2.2.2.2 = some (.aload_n 0, 1) := by decide +kernel
theorem pr_10_8 : pj_find 8 pj_m10.2.2.2.2.2.2 = some (.getfield 18, 3) := by decide +kernel
theorem pr_10_11 : pj_find 11 pj_m10.2.2.2.2.2.2 = some (.bipush 32, 2) := by decide +kernel
theorem pr_10_13 : pj_find 13 pj_m10.2.2.2.2.2.2 = some (.if_icmp .ge 33, 3) := by decide +kernel
theorem pr_10_16 : pj_find 16 pj_m10.2.2.2.2.2.2 = some (.aload_n 0, 1) := by decide +kernel
theorem pr_10_17 : pj_find 17 pj_m10.2.2.2.2.2.2 = some (.getfield 11, 3) := by decide +kernel
theorem pr_10_20 : pj_find 20 pj_m10.2.2.2.2.2.2 = some (.aload_n 0, 1) := by decide +kernel
theorem pr_10_21 : pj_find 21 pj_m10.2.2.2.2.2.2 = some (.getfield 18, 3) := by decide +kernel
theorem pr_10_24 : pj_find 24 pj_m10.2.2.2.2.2.2 = some (.iload_n 1, 1) := by decide +kernel
theorem pr_10_25 : pj_find 25 pj_m10.2.2.2.2.2.2 = some (.iastore, 1) := by decide +kernel
theorem pr_10_26 : pj_find 26 pj_m10.2.2.2.2.2.2 = some (.aload_n 0, 1) := by decide +kernel
theorem pr_10_27 : pj_find 27 pj_m10.2.2.2.2.2.2 = some (.getfield 15, 3) := by decide +kernel
theorem pr_10_30 : pj_find 30 pj_m10.2.2.2.2.2.2 = some (.aload_n 0, 1) := by decide +kernel
theorem pr_10_31 : pj_find 31 pj_m10.2.2.2.2.2.2 = some (.getfield 18, 3) := by decide +kernel
theorem pr_10_34 : pj_find 34 pj_m10.2.2.2.2.2.2 = some (.iload_n 2, 1) := by decide +kernel
theorem pr_10_35 : pj_find 35 pj_m10.2.2.2.2.2.2 = some (.iastore, 1) := by decide +kernel
theorem pr_10_36 : pj_find 36 pj_m10.2.2.2.2.2.2 = some (.aload_n 0, 1) := by decide +kernel
theorem pr_10_37 : pj_find 37 pj_m10.2.2.2.2.2.2 = some (.dup, 1) := by decide +kernel
theorem pr_10_38 : pj_find 38 pj_m10.2.2.2.2.2.2 = some (.getfield 18, 3) := by decide +kernel
theorem pr_10_41 : pj_find 41 pj_m10.2.2.2.2.2.2 = some (.iconst 1, 1) := by decide +kernel
theorem pr_10_42 : pj_find 42 pj_m10.2.2.2.2.2.2 = some (.iadd, 1) := by decide +kernel
theorem pr_10_43 : pj_find 43 pj_m10.2.2.2.2.2.2 = some (.putfield 18, 3) := by decide +kernel
theorem pr_10_46 : pj_find 46 pj_m10.2.2.2.2.2.2 = some (.return_, 1) := by decide +kernel
theorem pr_11_0 : pj_find 0 pj_m11.2.2.2.2.2.2 = some (.iload_n 1, 1) := by decide +kernel
theorem pr_11_1 : pj_find 1 pj_m11.2.2.2.2.2.2 = some (.ifCond .lt 26, 3) := by decide +kernel
theorem pr_11_4 : pj_find 4 pj_m11.2.2.2.2.2.2 = some (.iload_n 1, 1) := by decide +kernel
theorem pr_11_5 : pj_find 5 pj_m11.2.2.2.2.2.2 = some (.aload_n 0, 1) := by decide +kernel
theorem pr_11_6 : pj_find 6 pj_m11.2.2.2.2.2.2 = some (.getfield 18, 3) := by decide +kernel
theorem pr_11_9 : pj_find 9 pj_m11.2.2.2.2.2.2 = some (.if_icmp .ge 18, 3) := by decide +kernel
theorem pr_11_12 : pj_find 12 pj_m11.2.2.2.2.2.2 = some (.iload_n 1, 1) := by decide +kernel
theorem pr_11_13 : pj_find 13 pj_m11.2.2.2.2.2.2 = some (.bipush 32, 2) := by decide +kernel
theorem pr_11_15 : pj_find 15 pj_m11.2.2.2.2.2.2 = some (.if_icmp .ge 12, 3) := by decide +kernel
theorem pr_11_18 : pj_find 18 pj_m11.2.2.2.2.2.2 = some (.aload_n 0, 1) := by decide +kernel
theorem pr_11_19 : pj_find 19 pj_m11.2.2.2.2.2.2 = some (.getfield 11, 3) := by decide +kernel
theorem pr_11_22 : pj_find 22 pj_m11.2.2.2.2.2.2 = some (.iload_n 1, 1) := by decide +kernel
theorem pr_11_23 : pj_find 23 pj_m11.2.2.2.2.2.2 = some (.iaload, 1) := by decide +kernel
theorem pr_11_24 : pj_find 24 pj_m11.2.2.2.2.2.2 = some (.goto 5, 3) := by decide +kernel
theorem pr_11_27 : pj_find 27 pj_m11.2.2.2.2.2.2 = some (.bipush (-6), 2) := by decide +kernel
theorem pr_11_29 : pj_find 29 pj_m11.2.2.2.2.2.2 = some (.ireturn, 1) := by decide +kernel
theorem pr_12_0 : pj_find 0 pj_m12.2.2.2.2.2.2 = some (.iconst 0, 1) := by decide +kernel
theorem pr_12_1 : pj_find 1 pj_m12.2.2.2.2.2.2 = some (.istore_n 1, 1) := by decide +kernel
theorem pr_12_2 : pj_find 2 pj_m12.2.2.2.2.2.2 = some (.iconst 1, 1) := by decide +kernel
theorem pr_12_3 : pj_find 3 pj_m12.2.2.2.2.2.2 = some (.istore_n 2, 1) := by decide +kernel
theorem pr_12_4 : pj_find 4 pj_m12.2.2.2.2.2.2 = some (.iload_n 2, 1) := by decide +kernel
theorem pr_12_5 : pj_find 5 pj_m12.2.2.2.2.2.2 = some (.bipush 16, 2) := by decide +kernel
theorem pr_12_7 : pj_find 7 pj_m12.2.2.2.2.2.2 = some (.if_icmp .ge 24, 3) := by decide +kernel
theorem pr_12_10 : pj_find 10 pj_m12.2.2.2.2.2.2 = some (.aload_n 0, 1) := by decide +kernel
theorem pr_12_11 : pj_find 11 pj_m12.2.2.2.2.2.2 = some (.iload_n 2, 1) := by decide +kernel
theorem pr_12_12 : pj_find 12 pj_m12.2.2.2.2.2.2 = some (.invokevirtual 41, 3) := by decide +kernel
theorem pr_12_15 : pj_find 15 pj_m12.2.2.2.2.2.2 = some (.aload_n 0, 1) := by decide +kernel
theorem pr_12_16 : pj_find 16 pj_m12.2.2.2.2.2.2 = some (.iload_n 1, 1) := by decide +kernel
theorem pr_12_17 : pj_find 17 pj_m12.2.2.2.2.2.2 = some (.invokevirtual 41, 3) := by decide +kernel
theorem pr_12_20 : pj_find 20 pj_m12.2.2.2.2.2.2 = some (.if_icmp .ge 5, 3) := by decide +kernel
theorem pr_12_23 : pj_find 23 pj_m12.2.2.2.2.2.2 = some (.iload_n 2, 1) := by decide +kernel
theorem pr_12_24 : pj_find 24 pj_m12.2.2.2.2.2.2 = some (.istore_n 1, 1) := by decide +kernel
theorem pr_12_25 : pj_find 25 pj_m12.2.2.2.2.2.2 = some (.iinc 2 1, 3) := by decide +kernel
theorem pr_12_28 : pj_find 28 pj_m12.2.2.2.2.2.2 = some (.goto (-24), 3) := by decide +kernel
theorem pr_12_31 : pj_find 31 pj_m12.2.2.2.2.2.2 = some (.iload_n 1, 1) := by decide +kernel
theorem pr_12_32 : pj_find 32 pj_m12.2.2.2.2.2.2 = some (.ireturn, 1) := by decide +kernel
theorem pr_13_0 : pj_find 0 pj_m13.2.2.2.2.2.2 = some (.iconst 0, 1) := by decide +kernel
theorem pr_13_1 : pj_find 1 pj_m13.2.2.2.2.2.2 = some (.istore_n 2, 1) := by decide +kernel
theorem pr_13_2 : pj_find 2 pj_m13.2.2.2.2.2.2 = some (.iconst 0, 1) := by decide +kernel
theorem pr_13_3 : pj_find 3 pj_m13.2.2.2.2.2.2 = some (.istore_n 3, 1) := by decide +kernel
theorem pr_13_4 : pj_find 4 pj_m13.2.2.2.2.2.2 = some (.iload_n 3, 1) := by decide +kernel
theorem pr_13_5 : pj_find 5 pj_m13.2.2.2.2.2.2 = some (.aload_n 0, 1) := by decide +kernel
theorem pr_13_6 : pj_find 6 pj_m13.2.2.2.2.2.2 = some (.getfield 18, 3) := by decide +kernel
theorem pr_13_9 : pj_find 9 pj_m13.2.2.2.2.2.2 = some (.if_icmp .ge 28, 3) := by decide +kernel
theorem pr_13_12 : pj_find 12 pj_m13.2.2.2.2.2.2 = some (.iload_n 3, 1) := by decide +kernel
theorem pr_13_13 : pj_find 13 pj_m13.2.2.2.2.2.2 = some (.bipush 32, 2) := by decide +kernel
theorem pr_13_15 : pj_find 15 pj_m13.2.2.2.2.2.2 = some (.if_icmp .ge 22, 3) := by decide +kernel
theorem pr_13_18 : pj_find 18 pj_m13.2.2.2.2.2.2 = some (.iload_n 2, 1) := by decide +kernel
theorem pr_13_19 : pj_find 19 pj_m13.2.2.2.2.2.2 = some (.aload_n 0, 1) := by decide +kernel
theorem pr_13_20 : pj_find 20 pj_m13.2.2.2.2.2.2 = some (.getfield 15, 3) := by decide +kernel
theorem pr_13_23 : pj_find 23 pj_m13.2.2.2.2.2.2 = some (.iload_n 3, 1) := by decide +kernel
theorem pr_13_24 : pj_find 24 pj_m13.2.2.2.2.2.2 = some (.iaload, 1) := by decide +kernel
theorem pr_13_25 : pj_find 25 pj_m13.2.2.2.2.2.2 = some (.iload_n 1, 1) := by decide +kernel
theorem pr_13_26 : pj_find 26 pj_m13.2.2.2.2.2.2 = some (.ishr, 1) := by decide +kernel
theorem pr_13_27 : pj_find 27 pj_m13.2.2.2.2.2.2 = some (.iconst 1, 1) := by decide +kernel
theorem pr_13_28 : pj_find 28 pj_m13.2.2.2.2.2.2 = some (.iand, 1) := by decide +kernel
theorem pr_13_29 : pj_find 29 pj_m13.2.2.2.2.2.2 = some (.iadd, 1) := by decide +kernel
theorem pr_13_30 : pj_find 30 pj_m13.2.2.2.2.2.2 = some (.istore_n 2, 1) := by decide +kernel
theorem pr_13_31 : pj_find 31 pj_m13.2.2.2.2.2.2 = some (.iinc 3 1, 3) := by decide +kernel
theorem pr_13_34 : pj_find 34 pj_m13.2.2.2.2.2.2 = some (.goto (-30), 3) := by decide +kernel
theorem pr_13_37 : pj_find 37 pj_m13.2.2.2.2.2.2 = some (.iload_n 2, 1) := by decide +kernel
theorem pr_13_38 : pj_find 38 pj_m13.2.2.2.2.2.2 = some (.aload_n 0, 1) := by decide +kernel
theorem pr_13_39 : pj_find 39 pj_m13.2.2.2.2.2.2 = some (.getfield 18, 3) := by decide +kernel
theorem pr_13_42 : pj_find 42 pj_m13.2.2.2.2.2.2 = some (.iload_n 2, 1) := by decide +kernel
theorem pr_13_43 : pj_find 43 pj_m13.2.2.2.2.2.2 = some (.isub, 1) := by decide +kernel
theorem pr_13_44 : pj_find 44 pj_m13.2.2.2.2.2.2 = some (.invokestatic 44, 3) := by decide +kernel
theorem pr_13_47 : pj_find 47 pj_m13.2.2.2.2.2.2 = some (.ireturn, 1) := by decide +kernel
theorem pr_14_0 : pj_find 0 pj_m14.2.2.2.2.2.2 = some (.aload_n 0, 1) := by decide +kernel
theorem pr_14_1 : pj_find 1 pj_m14.2.2.2.2.2.2 = some (.invokespecial 3, 3) := by decide +kernel
theorem pr_14_4 : pj_find 4 pj_m14.2.2.2.2.2.2 = some (.aload_n 0, 1) := by decide +kernel
theorem pr_14_5 : pj_find 5 pj_m14.2.2.2.2.2.2 = some (.iconst 5, 1) := by decide +kernel
theorem pr_14_6 : pj_find 6 pj_m14.2.2.2.2.2.2 = some (.newarray .long, 2) := by decide +kernel
theorem pr_14_8 : pj_find 8 pj_m14.2.2.2.2.2.2 = some (.putfield 11, 3) := by decide +kernel
theorem pr_14_11 : pj_find 11 pj_m14.2.2.2.2.2.2 = some (.aload_n 0, 1) := by decide +kernel
theorem pr_14_12 : pj_find 12 pj_m14.2.2.2.2.2.2 = some (.sipush 326, 3) := by decide +kernel
theorem pr_14_15 : pj_find 15 pj_m14.2.2.2.2.2.2 = some (.newarray .long, 2) := by decide +kernel
theorem pr_14_17 : pj_find 17 pj_m14.2.2.2.2.2.2 = some (.putfield 15, 3) := by decide +kernel
theorem pr_14_20 : pj_find 20 pj_m14.2.2.2.2.2.2 = some (.aload_n 0, 1) := by decide +kernel
theorem pr_14_21 : pj_find 21 pj_m14.2.2.2.2.2.2 = some (.sipush 326, 3) := by decide +kernel
theorem pr_14_24 : pj_find 24 pj_m14.2.2.2.2.2.2 = some (.newarray .int, 2) := by decide +kernel
theorem pr_14_26 : pj_find 26 pj_m14.2.2.2.2.2.2 = some (.putfield 18, 3) := by decide +kernel
theorem pr_14_29 : pj_find 29 pj_m14.2.2.2.2.2.2 = some (.aload_n 0, 1) := by decide +kernel
theorem pr_14_30 : pj_find 30 pj_m14.2.2.2.2.2.2 = some (.sipush 326, 3) := by decide +kernel
theorem pr_14_33 : pj_find 33 pj_m14.2.2.2.2.2.2 = some (.newarray .int, 2) := by decide +kernel
theorem pr_14_35 : pj_find 35 pj_m14.2.2.2.2.2.2 = some (.putfield 22, 3) := by decide +kernel
theorem pr_14_38 : pj_find 38 pj_m14.2.2.2.2.2.2 = some (.aload_n 0, 1) := by decide +kernel
theorem pr_14_39 : pj_find 39 pj_m14.2.2.2.2.2.2 = some (.sipush 512, 3) := by decide +kernel
theorem pr_14_42 : pj_find 42 pj_m14.2.2.2.2.2.2 = some (.newarray .long, 2) := by decide +kernel
theorem pr_14_44 : pj_find 44 pj_m14.2.2.2.2.2.2 = some (.putfield 25, 3) := by decide +kernel
theorem pr_14_47 : pj_find 47 pj_m14.2.2.2.2.2.2 = some (.return_, 1) := by decide +kernel
theorem pr_15_0 : pj_find 0 pj_m15.2.2.2.2.2.2 = some (.aload_n 0, 1) := by decide +kernel
theorem pr_15_1 : pj_find 1 pj_m15.2.2.2.2.2.2 = some (.aload_n 1, 1) := by decide +kernel
theorem pr_15_2 : pj_find 2 pj_m15.2.2.2.2.2.2 = some (.invokevirtual 28, 3) := by decide +kernel
theorem pr_15_5 : pj_find 5 pj_m15.2.2.2.2.2.2 = some (.iconst 0, 1) := by decide +kernel
theorem pr_15_6 : pj_find 6 pj_m15.2.2.2.2.2.2 = some (.istore_n 2, 1) := by decide +kernel
theorem pr_15_7 : pj_find 7 pj_m15.2.2.2.2.2.2 = some (.iload_n 2, 1) := by decide +kernel
theorem pr_15_8 : pj_find 8 pj_m15.2.2.2.2.2.2 = some (.aload_n 0, 1) := by decide +kernel
theorem pr_15_9 : pj_find 9 pj_m15.2.2.2.2.2.2 = some (.getfield 32, 3) := by decide +kernel
theorem pr_15_12 : pj_find 12 pj_m15.2.2.2.2.2.2 = some (.if_icmp .ge 108, 3) := by decide +kernel
theorem pr_15_15 : pj_find 15 pj_m15.2.2.2.2.2.2 = some (.iload_n 2, 1) := by decide +kernel
theorem pr_15_16 : pj_find 16 pj_m15.2.2.2.2.2.2 = some (.sipush 326, 3) := by decide +kernel
theorem pr_15_19 : pj_find 19 pj_m15.2.2.2.2.2.2 = some (.if_icmp .ge 101, 3) := by decide +kernel
theorem pr_15_22 : pj_find 22 pj_m15.2.2.2.2.2.2 = some (.iconst 0, 1) := by decide +kernel
theorem pr_15_23 : pj_find 23 pj_m15.2.2.2.2.2.2 = some (.istore_n 3, 1) := by decide +kernel
theorem pr_15_24 : pj_find 24 pj_m15.2.2.2.2.2.2 = some (.iload_n 3, 1) := by decide +kernel
theorem pr_15_25 : pj_find 25 pj_m15.2.2.2.2.2.2 = some (.iconst 5, 1) := by decide +kernel
theorem pr_15_26 : pj_find 26 pj_m15.2.2.2.2.2.2 = some (.if_icmp .ge 88, 3) := by decide +kernel
theorem pr_15_29 : pj_find 29 pj_m15.2.2.2.2.2.2 = some (.aload_n 0, 1) := by decide +kernel
theorem pr_15_30 : pj_find 30 pj_m15.2.2.2.2.2.2 = some (.getfield 18, 3) := by decide +kernel
theorem pr_15_33 : pj_find 33 pj_m15.2.2.2.2.2.2 = some (.iload_n 2, 1) := by decide +kernel
theorem pr_15_34 : pj_find 34 pj_m15.2.2.2.2.2.2 = some (.iaload, 1) := by decide +kernel
theorem pr_15_35 : pj_find 35 pj_m15.2.2.2.2.2.2 = some (.iload_n 3, 1) := by decide +kernel
theorem pr_15_36 : pj_find 36 pj_m15.2.2.2.2.2.2 = some (.ishr, 1) := by decide +kernel
theorem pr_15_37 : pj_find 37 pj_m15.2.2.2.2.2.2 = some (.iconst 1, 1) := by decide +kernel
theorem pr_15_38 : pj_find 38 pj_m15.2.2.2.2.2.2 = some (.iand, 1) := by decide +kernel
theorem pr_15_39 : pj_find 39 pj_m15.2.2.2.2.2.2 = some (.ifCond .ne 69, 3) := by decide +kernel
theorem pr_15_42 : pj_find 42 pj_m15.2.2.2.2.2.2 = some (.aload_n 0, 1) := by decide +kernel
theorem pr_15_43 : pj_find 43 pj_m15.2.2.2.2.2.2 = some (.getfield 15, 3) := by decide +kernel
theorem pr_15_46 : pj_find 46 pj_m15.2.2.2.2.2.2 = some (.iload_n 2, 1) := by decide +kernel
theorem pr_15_47 : pj_find 47 pj_m15.2.2.2.2.2.2 = some (.laload, 1) := by decide +kernel
theorem pr_15_48 : pj_find 48 pj_m15.2.2.2.2.2.2 = some (.ldc2_w 36, 3) := by decide +kernel
theorem pr_15_51 : pj_find 51 pj_m15.2.2.2.2.2.2 = some (.aload_n 0, 1) := by decide +kernel
theorem pr_15_52 : pj_find 52 pj_m15.2.2.2.2.2.2 = some (.getfield 11, 3) := by decide +kernel
theorem pr_15_55 : pj_find 55 pj_m15.2.2.2.2.2.2 = some (.iload_n 3, 1) := by decide +kernel
theorem pr_15_56 : pj_find 56 pj_m15.2.2.2.2.2.2 = some (.laload, 1) := by decide +kernel
theorem pr_15_57 : pj_find 57 pj_m15.2.2.2.2.2.2 = some (.lmul, 1) := by decide +kernel
theorem pr_15_58 : pj_find 58 pj_m15.2.2.2.2.2.2 = some (.ldc2_w 38, 3) := by decide +kernel
theorem pr_15_61 : pj_find 61 pj_m15.2.2.2.2.2.2 = some (.lxor, 1) := by decide +kernel
theorem pr_15_62 : pj_find 62 pj_m15.2.2.2.2.2.2 = some (.land, 1) := by decide +kernel
theorem pr_15_63 : pj_find 63 pj_m15.2.2.2.2.2.2 = some (.lstore 4, 2) := by decide +kernel
theorem pr_15_65 : pj_find 65 pj_m15.2.2.2.2.2.2 = some (.lload 4, 2) := by decide +kernel
theorem pr_15_67 : pj_find 67 pj_m15.2.2.2.2.2.2 = some (.iload_n 3, 1) := by decide +kernel
theorem pr_15_68 : pj_find 68 pj_m15.2.2.2.2.2.2 = some (.iconst 1, 1) := by decide +kernel
theorem pr_15_69 : pj_find 69 pj_m15.2.2.2.2.2.2 = some (.iadd, 1) := by decide +kernel
theorem pr_15_70 : pj_find 70 pj_m15.2.2.2.2.2.2 = some (.i2l, 1) := by decide +kernel
theorem pr_15_71 : pj_find 71 pj_m15.2.2.2.2.2.2 = some (.aload_n 0, 1) := by decide +kernel
theorem pr_15_72 : pj_find 72 pj_m15.2.2.2.2.2.2 = some (.getfield 11, 3) := by decide +kernel
theorem pr_15_75 : pj_find 75 pj_m15.2.2.2.2.2.2 = some (.iload_n 3, 1) := by decide +kernel
theorem pr_15_76 : pj_find 76 pj_m15.2.2.2.2.2.2 = some (.laload, 1) := by decide +kernel
theorem pr_15_77 : pj_find 77 pj_m15.2.2.2.2.2.2 = some (.lmul, 1) := by decide +kernel
theorem pr_15_78 : pj_find 78 pj_m15.2.2.2.2.2.2 = some (.lor, 1) := by decide +kernel
theorem pr_15_79 : pj_find 79 pj_m15.2.2.2.2.2.2 = some (.lstore 6, 2) := by decide +kernel
theorem pr_15_81 : pj_find 81 pj_m15.2.2.2.2.2.2 = some (.aload_n 0, 1) := by decide +kernel
theorem pr_15_82 : pj_find 82 pj_m15.2.2.2.2.2.2 = some (.lload 6, 2) := by decide +kernel
theorem pr_15_84 : pj_find 84 pj_m15.2.2.2.2.2.2 = some (.aload_n 0, 1) := by decide +kernel
theorem pr_15_85 : pj_find 85 pj_m15.2.2.2.2.2.2 = some (.getfield 18, 3) := by decide +kernel
theorem pr_15_88 : pj_find 88 pj_m15.2.2.2.2.2.2 = some (.iload_n 2, 1) := by decide +kernel
theorem pr_15_89 : pj_find 89 pj_m15.2.2.2.2.2.2 = some (.iaload, 1) := by decide +kernel
theorem pr_15_90 : pj_find 90 pj_m15.2.2.2.2.2.2 = some (.iconst 1, 1) := by decide +kernel
theorem pr_15_91 : pj_find 91 pj_m15.2.2.2.2.2.2 = some (.iload_n 3, 1) := by decide +kernel
theorem pr_15_92 : pj_find 92 pj_m15.2.2.2.2.2.2 = some (.ishl, 1) := by decide +kernel
theorem pr_15_93 : pj_find 93 pj_m15.2.2.2.2.2.2 = some (.ior, 1) := by decide +kernel
theorem pr_15_94 : pj_find 94 pj_m15.2.2.2.2.2.2 = some (.bipush 10, 2) := by decide +kernel
theorem pr_15_96 : pj_find 96 pj_m15.2.2.2.2.2.2 = some (.aload_n 0, 1) := by decide +kernel
theorem pr_15_97 : pj_find 97 pj_m15.2.2.2.2.2.2 = some (.getfield 22, 3) := by decide +kernel
theorem pr_15_100 : pj_find 100 pj_m15.2.2.2.2.2.2 = some (.iload_n 2, 1) := by decide +kernel
theorem pr_15_101 : pj_find 101 pj_m15.2.2.2.2.2.2 = some (.iaload, 1) := by decide +kernel
theorem pr_15_102 : pj_find 102 pj_m15.2.2.2.2.2.2 = some (.imul, 1) := by decide +kernel
theorem pr_15_103 : pj_find 103 pj_m15.2.2.2.2.2.2 = some (.iload_n 3, 1) := by decide +kernel
theorem pr_15_104 : pj_find 104 pj_m15.2.2.2.2.2.2 = some (.iadd, 1) := by decide +kernel
theorem pr_15_105 : pj_find 105 pj_m15.2.2.2.2.2.2 = some (.invokevirtual 40, 3) := by decide +kernel
theorem pr_15_108 : pj_find 108 pj_m15.2.2.2.2.2.2 = some (.iinc 3 1, 3) := by decide +kernel
theorem pr_15_111 : pj_find 111 pj_m15.2.2.2.2.2.2 = some (.goto (-87), 3) := by decide +kernel
theorem pr_15_114 : pj_find 114 pj_m15.2.2.2.2.2.2 = some (.iinc 2 1, 3) := by decide +kernel
theorem pr_15_117 : pj_find 117 pj_m15.2.2.2.2.2.2 = some (.goto (-110), 3) := by decide +kernel
theorem pr_15_120 : pj_find 120 pj_m15.2.2.2.2.2.2 = some (.return_, 1) := by decide +kernel
theorem pr_16_0 : pj_find 0 pj_m16.2.2.2.2.2.2 = some (.iconst 0, 1) := by decide +kernel
theorem pr_16_1 : pj_find 1 pj_m16.2.2.2.2.2.2 = some (.istore_n 2, 1) := by decide +kernel
theorem pr_16_2 : pj_find 2 pj_m16.2.2.2.2.2.2 = some (.iload_n 2, 1) := by decide +kernel
theorem pr_16_3 : pj_find 3 pj_m16.2.2.2.2.2.2 = some (.iconst 5, 1) := by decide +kernel
theorem pr_16_4 : pj_find 4 pj_m16.2.2.2.2.2.2 = some (.if_icmp .ge 23, 3) := by decide +kernel
theorem pr_16_7 : pj_find 7 pj_m16.2.2.2.2.2.2 = some (.aload_n 0, 1) := by decide +kernel
theorem pr_16_8 : pj_find 8 pj_m16.2.2.2.2.2.2 = some (.getfield 11, 3) := by decide +kernel
theorem pr_16_11 : pj_find 11 pj_m16.2.2.2.2.2.2 = some (.iload_n 2, 1) := by decide +kernel
theorem pr_16_12 : pj_find 12 pj_m16.2.2.2.2.2.2 = some (.aload_n 1, 1) := by decide +kernel
theorem pr_16_13 : pj_find 13 pj_m16.2.2.2.2.2.2 = some (.iload_n 2, 1) := by decide +kernel
theorem pr_16_14 : pj_find 14 pj_m16.2.2.2.2.2.2 = some (.invokevirtual 44, 3) := by decide +kernel
theorem pr_16_17 : pj_find 17 pj_m16.2.2.2.2.2.2 = some (.invokestatic 50, 3) := by decide +kernel
theorem pr_16_20 : pj_find 20 pj_m16.2.2.2.2.2.2 = some (.lastore, 1) := by decide +kernel
theorem pr_16_21 : pj_find 21 pj_m16.2.2.2.2.2.2 = some (.iinc 2 1, 3) := by decide +kernel
theorem pr_16_24 : pj_find 24 pj_m16.2.2.2.2.2.2 = some (.goto (-22), 3) := by decide +kernel
theorem pr_16_27 : pj_find 27 pj_m16.2.2.2.2.2.2 = some (.aload_n 0, 1) := by decide +kernel
theorem pr_16_28 : pj_find 28 pj_m16.2.2.2.2.2.2 = some (.aload_n 1, 1) := by decide +kernel
theorem pr_16_29 : pj_find 29 pj_m16.2.2.2.2.2.2 = some (.invokestatic 54, 3) := by decide +kernel
theorem pr_16_32 : pj_find 32 pj_m16.2.2.2.2.2.2 = some (.putfield 58, 3) := by decide +kernel
theorem pr_16_35 : pj_find 35 pj_m16.2.2.2.2.2.2 = some (.aload_n 0, 1) := by decide +kernel
theorem pr_16_36 : pj_find 36 pj_m16.2.2.2.2.2.2 = some (.getfield 25, 3) := by decide +kernel
theorem pr_16_39 : pj_find 39 pj_m16.2.2.2.2.2.2 = some (.ldc2_w 38, 3) := by decide +kernel
theorem pr_16_42 : pj_find 42 pj_m16.2.2.2.2.2.2 = some (.invokestatic 62, 3) := by decide +kernel
theorem pr_16_45 : pj_find 45 pj_m16.2.2.2.2.2.2 = some (.aload_n 0, 1) := by decide +kernel
theorem pr_16_46 : pj_find 46 pj_m16.2.2.2.2.2.2 = some (.iconst 0, 1) := by decide +kernel
theorem pr_16_47 : pj_find 47 pj_m16.2.2.2.2.2.2 = some (.putfield 32, 3) := by decide +kernel
theorem pr_16_50 : pj_find 50 pj_m16.2.2.2.2.2.2 = some (.aload_n 0, 1) := by decide +kernel
theorem pr_16_51 : pj_find 51 pj_m16.2.2.2.2.2.2 = some (.iconst 0, 1) := by decide +kernel
theorem pr_16_52 : pj_find 52 pj_m16.2.2.2.2.2.2 = some (.putfield 68, 3) := by decide +kernel
theorem pr_16_55 : pj_find 55 pj_m16.2.2.2.2.2.2 = some (.aload_n 0, 1) := by decide +kernel
theorem pr_16_56 : pj_find 56 pj_m16.2.2.2.2.2.2 = some (.bipush (-6), 2) := by decide +kernel
theorem pr_16_58 : pj_find 58 pj_m16.2.2.2.2.2.2 = some (.putfield 71, 3) := by decide +kernel
theorem pr_16_61 : pj_find 61 pj_m16.2.2.2.2.2.2 = some (.aload_n 0, 1) := by decide +kernel
theorem pr_16_62 : pj_find 62 pj_m16.2.2.2.2.2.2 = some (.lconst 0, 1) := by decide +kernel
theorem pr_16_63 : pj_find 63 pj_m16.2.2.2.2.2.2 = some (.iconst 0, 1) := by decide +kernel
theorem pr_16_64 : pj_find 64 pj_m16.2.2.2.2.2.2 = some (.iconst 1, 1) := by decide +kernel
theorem pr_16_65 : pj_find 65 pj_m16.2.2.2.2.2.2 = some (.invokevirtual 40, 3) := by decide +kernel
theorem pr_16_68 : pj_find 68 pj_m16.2.2.2.2.2.2 = some (.return_, 1) := by decide +kernel
theorem pr_17_0 : pj_find 0 pj_m17.2.2.2.2.2.2 = some (.lconst 0, 1) := by decide +kernel
theorem pr_17_1 : pj_find 1 pj_m17.2.2.2.2.2.2 = some (.lstore_n 1, 1) := by decide +kernel
theorem pr_17_2 : pj_find 2 pj_m17.2.2.2.2.2.2 = some (.iconst 0, 1) := by decide +kernel
theorem pr_17_3 : pj_find 3 pj_m17.2.2.2.2.2.2 = some (.istore_n 3, 1) := by decide +kernel
theorem pr_17_4 : pj_find 4 pj_m17.2.2.2.2.2.2 = some (.iload_n 3, 1) := by decide +kernel
theorem pr_17_5 : pj_find 5 pj_m17.2.2.2.2.2.2 = some (.bipush 16, 2) := by decide +kernel
theorem pr_17_7 : pj_find 7 pj_m17.2.2.2.2.2.2 = some (.if_icmp .ge 22, 3) := by decide +kernel
theorem pr_17_10 : pj_find 10 pj_m17.2.2.2.2.2.2 = some (.lload_n 1, 1) := by decide +kernel
theorem pr_17_11 : pj_find 11 pj_m17.2.2.2.2.2.2 = some (.iload_n 0, 1) := by decide +kernel
theorem pr_17_12 : pj_find 12 pj_m17.2.2.2.2.2.2 = some (.iload_n 3, 1) := by decide +kernel
theorem pr_17_13 : pj_find 13 pj_m17.2.2.2.2.2.2 = some (.ishr, 1) := by decide +kernel
theorem pr_17_14 : pj_find 14 pj_m17.2.2.2.2.2.2 = some (.iconst 1, 1) := by decide +kernel
theorem pr_17_15 : pj_find 15 pj_m17.2.2.2.2.2.2 = some (.iand, 1) := by decide +kernel
theorem pr_17_16 : pj_find 16 pj_m17.2.2.2.2.2.2 = some (.i2l, 1) := by decide +kernel
theorem pr_17_17 : pj_find 17 pj_m17.2.2.2.2.2.2 = some (.iconst 4, 1) := by decide +kernel
theorem pr_17_18 : pj_find 18 pj_m17.2.2.2.2.2.2 = some (.iload_n 3, 1) := by decide +kernel
theorem pr_17_19 : pj_find 19 pj_m17.2.2.2.2.2.2 = some (.imul, 1) := by decide +kernel
theorem pr_17_20 : pj_find 20 pj_m17.2.2.2.2.2.2 = some (.lshl, 1) := by decide +kernel
theorem pr_17_21 : pj_find 21 pj_m17.2.2.2.2.2.2 = some (.lor, 1) := by decide +kernel
theorem pr_17_22 : pj_find 22 pj_m17.2.2.2.2.2.2 = some (.lstore_n 1, 1) := by decide +kernel
theorem pr_17_23 : pj_find 23 pj_m17.2.2.2.2.2.2 = some (.iinc 3 1, 3) := by decide +kernel
theorem pr_17_26 : pj_find 26 pj_m17.2.2.2.2.2.2 = some (.goto (-22), 3) := by decide +kernel
theorem pr_17_29 : pj_find 29 pj_m17.2.2.2.2.2.2 = some (.lload_n 1, 1) := by decide +kernel
theorem pr_17_30 : pj_find 30 pj_m17.2.2.2.2.2.2 = some (.lreturn, 1) := by decide +kernel
theorem pr_18_0 : pj_find 0 pj_m18.2.2.2.2.2.2 = some (.lconst 0, 1) := by decide +kernel
theorem pr_18_1 : pj_find 1 pj_m18.2.2.2.2.2.2 = some (.lstore_n 1, 1) := by decide +kernel
theorem pr_18_2 : pj_find 2 pj_m18.2.2.2.2.2.2 = some (.iconst 1, 1) := by decide +kernel
theorem pr_18_3 : pj_find 3 pj_m18.2.2.2.2.2.2 = some (.istore_n 3, 1) := by decide +kernel
theorem pr_18_4 : pj_find 4 pj_m18.2.2.2.2.2.2 = some (.iload_n 3, 1) := by decide +kernel
theorem pr_18_5 : pj_find 5 pj_m18.2.2.2.2.2.2 = some (.bipush 6, 2) := by decide +kernel
theorem pr_18_7 : pj_find 7 pj_m18.2.2.2.2.2.2 = some (.if_icmp .gt 23, 3) := by decide +kernel
theorem pr_18_10 : pj_find 10 pj_m18.2.2.2.2.2.2 = some (.lload_n 1, 1) := by decide +kernel
theorem pr_18_11 : pj_find 11 pj_m18.2.2.2.2.2.2 = some (.iload_n 3, 1) := by decide +kernel
theorem pr_18_12 : pj_find 12 pj_m18.2.2.2.2.2.2 = some (.i2l, 1) := by decide +kernel
theorem pr_18_13 : pj_find 13 pj_m18.2.2.2.2.2.2 = some (.aload_n 0, 1) := by decide +kernel
theorem pr_18_14 : pj_find 14 pj_m18.2.2.2.2.2.2 = some (.iload_n 3, 1) := by decide +kernel
theorem pr_18_15 : pj_find 15 pj_m18.2.2.2.2.2.2 = some (.invokevirtual 74, 3) := by decide +kernel
theorem pr_18_18 : pj_find 18 pj_m18.2.2.2.2.2.2 = some (.invokestatic 50, 3) := by decide +kernel
theorem pr_18_21 : pj_find 21 pj_m18.2.2.2.2.2.2 = some (.lmul, 1) := by decide +kernel
theorem pr_18_22 : pj_find 22 pj_m18.2.2.2.2.2.2 = some (.lor, 1) := by decide +kernel
theorem pr_18_23 : pj_find 23 pj_m18.2.2.2.2.2.2 = some (.lstore_n 1, 1) := by decide +kernel
theorem pr_18_24 : pj_find 24 pj_m18.2.2.2.2.2.2 = some (.iinc 3 1, 3) := by decide +kernel
theorem pr_18_27 : pj_find 27 pj_m18.2.2.2.2.2.2 = some (.goto (-23), 3) := by decide +kernel
theorem pr_18_30 : pj_find 30 pj_m18.2.2.2.2.2.2 = some (.lload_n 1, 1) := by decide +kernel
theorem pr_18_31 : pj_find 31 pj_m18.2.2.2.2.2.2 = some (.lreturn, 1) := by decide +kernel
theorem pr_19_0 : pj_find 0 pj_m19.2.2.2.2.2.2 = some (.aload_n 0, 1) := by decide +kernel
theorem pr_19_1 : pj_find 1 pj_m19.2.2.2.2.2.2 = some (.getfield 32, 3) := by decide +kernel
theorem pr_19_4 : pj_find 4 pj_m19.2.2.2.2.2.2 = some (.ifCond .lt 13, 3) := by decide +kernel
theorem pr_19_7 : pj_find 7 pj_m19.2.2.2.2.2.2 = some (.aload_n 0, 1) := by decide +kernel
theorem pr_19_8 : pj_find 8 pj_m19.2.2.2.2.2.2 = some (.getfield 32, 3) := by decide +kernel
theorem pr_19_11 : pj_find 11 pj_m19.2.2.2.2.2.2 = some (.sipush 326, 3) := by decide +kernel
theorem pr_19_14 : pj_find 14 pj_m19.2.2.2.2.2.2 = some (.if_icmp .lt 4, 3) := by decide +kernel
theorem pr_19_17 : pj_find 17 pj_m19.2.2.2.2.2.2 = some (.return_, 1) := by decide +kernel
theorem pr_19_18 : pj_find 18 pj_m19.2.2.2.2.2.2 = some (.aload_n 0, 1) := by decide +kernel
theorem pr_19_19 : pj_find 19 pj_m19.2.2.2.2.2.2 = some (.getfield 15, 3) := by decide +kernel
theorem pr_19_22 : pj_find 22 pj_m19.2.2.2.2.2.2 = some (.aload_n 0, 1) := by decide +kernel
theorem pr_19_23 : pj_find 23 pj_m19.2.2.2.2.2.2 = some (.getfield 32, 3) := by decide +kernel
theorem pr_19_26 : pj_find 26 pj_m19.2.2.2.2.2.2 = some (.lload_n 1, 1) := by decide +kernel
theorem pr_19_27 : pj_find 27 pj_m19.2.2.2.2.2.2 = some (.lastore, 1) := by decide +kernel
theorem pr_19_28 : pj_find 28 pj_m19.2.2.2.2.2.2 = some (.aload_n 0, 1) := by decide +kernel
theorem pr_19_29 : pj_find 29 pj_m19.2.2.2.2.2.2 = some (.getfield 18, 3) := by decide +kernel
theorem pr_19_32 : pj_find 32 pj_m19.2.2.2.2.2.2 = some (.aload_n 0, 1) := by decide +kernel
theorem pr_19_33 : pj_find 33 pj_m19.2.2.2.2.2.2 = some (.getfield 32, 3) := by decide +kernel
theorem pr_19_36 : pj_find 36 pj_m19.2.2.2.2.2.2 = some (.iload_n 3, 1) := by decide +kernel
theorem pr_19_37 : pj_find 37 pj_m19.2.2.2.2.2.2 = some (.iastore, 1) := by decide +kernel
theorem pr_19_38 : pj_find 38 pj_m19.2.2.2.2.2.2 = some (.aload_n 0, 1) := by decide +kernel
theorem pr_19_39 : pj_find 39 pj_m19.2.2.2.2.2.2 = some (.getfield 22, 3) := by decide +kernel
theorem pr_19_42 : pj_find 42 pj_m19.2.2.2.2.2.2 = some (.aload_n 0, 1) := by decide +kernel
theorem pr_19_43 : pj_find 43 pj_m19.2.2.2.2.2.2 = some (.getfield 32, 3) := by decide +kernel
theorem pr_19_46 : pj_find 46 pj_m19.2.2.2.2.2.2 = some (.iload 4, 2) := by decide +kernel
theorem pr_19_48 : pj_find 48 pj_m19.2.2.2.2.2.2 = some (.iastore, 1) := by decide +kernel
theorem pr_19_49 : pj_find 49 pj_m19.2.2.2.2.2.2 = some (.aload_n 0, 1) := by decide +kernel
theorem pr_19_50 : pj_find 50 pj_m19.2.2.2.2.2.2 = some (.dup, 1) := by decide +kernel
theorem pr_19_51 : pj_find 51 pj_m19.2.2.2.2.2.2 = some (.getfield 32, 3) := by decide +kernel
theorem pr_19_54 : pj_find 54 pj_m19.2.2.2.2.2.2 = some (.iconst 1, 1) := by decide +kernel
theorem pr_19_55 : pj_find 55 pj_m19.2.2.2.2.2.2 = some (.iadd, 1) := by decide +kernel
theorem pr_19_56 : pj_find 56 pj_m19.2.2.2.2.2.2 = some (.putfield 32, 3) := by decide +kernel
theorem pr_19_59 : pj_find 59 pj_m19.2.2.2.2.2.2 = some (.aload_n 0, 1) := by decide +kernel
theorem pr_19_60 : pj_find 60 pj_m19.2.2.2.2.2.2 = some (.getfield 71, 3) := by decide +kernel
theorem pr_19_63 : pj_find 63 pj_m19.2.2.2.2.2.2 = some (.bipush (-6), 2) := by decide +kernel
theorem pr_19_65 : pj_find 65 pj_m19.2.2.2.2.2.2 = some (.if_icmp .ne 18, 3) := by decide +kernel
theorem pr_19_68 : pj_find 68 pj_m19.2.2.2.2.2.2 = some (.lload_n 1, 1) := by decide +kernel
theorem pr_19_69 : pj_find 69 pj_m19.2.2.2.2.2.2 = some (.aload_n 0, 1) := by decide +kernel
theorem pr_19_70 : pj_find 70 pj_m19.2.2.2.2.2.2 = some (.getfield 58, 3) := by decide +kernel
theorem pr_19_73 : pj_find 73 pj_m19.2.2.2.2.2.2 = some (.lcmp, 1) := by decide +kernel
theorem pr_19_74 : pj_find 74 pj_m19.2.2.2.2.2.2 = some (.ifCond .ne 9, 3) := by decide +kernel
theorem pr_19_77 : pj_find 77 pj_m19.2.2.2.2.2.2 = some (.aload_n 0, 1) := by decide +kernel
theorem pr_19_78 : pj_find 78 pj_m19.2.2.2.2.2.2 = some (.iload 4, 2) := by decide +kernel
theorem pr_19_80 : pj_find 80 pj_m19.2.2.2.2.2.2 = some (.putfield 71, 3) := by decide +kernel
theorem pr_19_83 : pj_find 83 pj_m19.2.2.2.2.2.2 = some (.aload_n 0, 1) := by decide +kernel
theorem pr_19_84 : pj_find 84 pj_m19.2.2.2.2.2.2 = some (.lload_n 1, 1) := by decide +kernel
theorem pr_19_85 : pj_find 85 pj_m19.2.2.2.2.2.2 = some (.invokevirtual 77, 3) := by decide +kernel
theorem pr_19_88 : pj_find 88 pj_m19.2.2.2.2.2.2 = some (.ifCond .eq 13, 3) := by decide +kernel
theorem pr_19_91 : pj_find 91 pj_m19.2.2.2.2.2.2 = some (.aload_n 0, 1) := by decide +kernel
theorem pr_19_92 : pj_find 92 pj_m19.2.2.2.2.2.2 = some (.dup, 1) := by decide +kernel
theorem pr_19_93 : pj_find 93 pj_m19.2.2.2.2.2.2 = some (.getfield 68, 3) := by decide +kernel
theorem pr_19_96 : pj_find 96 pj_m19.2.2.2.2.2.2 = some (.iconst 1, 1) := by decide +kernel
theorem pr_19_97 : pj_find 97 pj_m19.2.2.2.2.2.2 = some (.iadd, 1) := by decide +kernel
theorem pr_19_98 : pj_find 98 pj_m19.2.2.2.2.2.2 = some (.putfield 68, 3) := by decide +kernel
theorem pr_19_101 : pj_find 101 pj_m19.2.2.2.2.2.2 = some (.return_, 1) := by decide +kernel
theorem pr_20_0 : pj_find 0 pj_m20.2.2.2.2.2.2 = some (.lload_n 1, 1) := by decide +kernel
theorem pr_20_1 : pj_find 1 pj_m20.2.2.2.2.2.2 = some (.ldc2_w 81, 3) := by decide +kernel
theorem pr_20_4 : pj_find 4 pj_m20.2.2.2.2.2.2 = some (.lmul, 1) := by decide +kernel
theorem pr_20_5 : pj_find 5 pj_m20.2.2.2.2.2.2 = some (.bipush 55, 2) := by decide +kernel
theorem pr_20_7 : pj_find 7 pj_m20.2.2.2.2.2.2 = some (.lushr, 1) := by decide +kernel
theorem pr_20_8 : pj_find 8 pj_m20.2.2.2.2.2.2 = some (.l2i, 1) := by decide +kernel
theorem pr_20_9 : pj_find 9 pj_m20.2.2.2.2.2.2 = some (.istore_n 3, 1) := by decide +kernel
theorem pr_20_10 : pj_find 10 pj_m20.2.2.2.2.2.2 = some (.iconst 0, 1) := by decide +kernel
theorem pr_20_11 : pj_find 11 pj_m20.2.2.2.2.2.2 = some (.istore 4, 2) := by decide +kernel
theorem pr_20_13 : pj_find 13 pj_m20.2.2.2.2.2.2 = some (.iload 4, 2) := by decide +kernel
theorem pr_20_15 : pj_find 15 pj_m20.2.2.2.2.2.2 = some (.sipush 512, 3) := by decide +kernel
theorem pr_20_18 : pj_find 18 pj_m20.2.2.2.2.2.2 = some (.if_icmp .ge 57, 3) := by decide +kernel
theorem pr_20_21 : pj_find 21 pj_m20.2.2.2.2.2.2 = some (.iload_n 3, 1) := by decide +kernel
theorem pr_20_22 : pj_find 22 pj_m20.2.2.2.2.2.2 = some (.iload 4, 2) := by decide +kernel
theorem pr_20_24 : pj_find 24 pj_m20.2.2.2.2.2.2 = some (.iadd, 1) := by decide +kernel
theorem pr_20_25 : pj_find 25 pj_m20.2.2.2.2.2.2 = some (.sipush 511, 3) := by decide +kernel
theorem pr_20_28 : pj_find 28 pj_m20.2.2.2.2.2.2 = some (.iand, 1) := by decide +kernel
theorem pr_20_29 : pj_find 29 pj_m20.2.2.2.2.2.2 = some (.istore 5, 2) := by decide +kernel
theorem pr_20_31 : pj_find 31 pj_m20.2.2.2.2.2.2 = some (.aload_n 0, 1) := by decide +kernel
theorem pr_20_32 : pj_find 32 pj_m20.2.2.2.2.2.2 = some (.getfield 25, 3) := by decide +kernel
theorem pr_20_35 : pj_find 35 pj_m20.2.2.2.2.2.2 = some (.iload 5, 2) := by decide +kernel
theorem pr_20_37 : pj_find 37 pj_m20.2.2.2.2.2.2 = some (.laload, 1) := by decide +kernel
theorem pr_20_38 : pj_find 38 pj_m20.2.2.2.2.2.2 = some (.lload_n 1, 1) := by decide +kernel
theorem pr_20_39 : pj_find 39 pj_m20.2.2.2.2.2.2 = some (.lcmp, 1) := by decide +kernel
theorem pr_20_40 : pj_find 40 pj_m20.2.2.2.2.2.2 = some (.ifCond .ne 5, 3) := by decide +kernel
theorem pr_20_43 : pj_find 43 pj_m20.2.2.2.2.2.2 = some (.iconst 0, 1) := by decide +kernel
theorem pr_20_44 : pj_find 44 pj_m20.2.2.2.2.2.2 = some (.ireturn, 1) := by decide +kernel
theorem pr_20_45 : pj_find 45 pj_m20.2.2.2.2.2.2 = some (.aload_n 0, 1) := by decide +kernel
theorem pr_20_46 : pj_find 46 pj_m20.2.2.2.2.2.2 = some (.getfield 25, 3) := by decide +kernel
theorem pr_20_49 : pj_find 49 pj_m20.2.2.2.2.2.2 = some (.iload 5, 2) := by decide +kernel
theorem pr_20_51 : pj_find 51 pj_m20.2.2.2.2.2.2 = some (.laload, 1) := by decide +kernel
theorem pr_20_52 : pj_find 52 pj_m20.2.2.2.2.2.2 = some (.ldc2_w 38, 3) := by decide +kernel
theorem pr_20_55 : pj_find 55 pj_m20.2.2.2.2.2.2 = some (.lcmp, 1) := by decide +kernel
theorem pr_20_56 : pj_find 56 pj_m20.2.2.2.2.2.2 = some (.ifCond .ne 13, 3) := by decide +kernel
theorem pr_20_59 : pj_find 59 pj_m20.2.2.2.2.2.2 = some (.aload_n 0, 1) := by decide +kernel
theorem pr_20_60 : pj_find 60 pj_m20.2.2.2.2.2.2 = some (.getfield 25, 3) := by decide +kernel
theorem pr_20_63 : pj_find 63 pj_m20.2.2.2.2.2.2 = some (.iload 5, 2) := by decide +kernel
theorem pr_20_65 : pj_find 65 pj_m20.2.2.2.2.2.2 = some (.lload_n 1, 1) := by decide +kernel
theorem pr_20_66 : pj_find 66 pj_m20.2.2.2.2.2.2 = some (.lastore, 1) := by decide +kernel
theorem pr_20_67 : pj_find 67 pj_m20.2.2.2.2.2.2 = some (.iconst 1, 1) := by decide +kernel
theorem pr_20_68 : pj_find 68 pj_m20.2.2.2.2.2.2 = some (.ireturn, 1) := by decide +kernel
theorem pr_20_69 : pj_find 69 pj_m20.2.2.2.2.2.2 = some (.iinc 4 1, 3) := by decide +kernel
theorem pr_20_72 : pj_find 72 pj_m20.2.2.2.2.2.2 = some (.goto (-59), 3) := by decide +kernel
theorem pr_20_75 : pj_find 75 pj_m20.2.2.2.2.2.2 = some (.iconst 0, 1) := by decide +kernel
theorem pr_20_76 : pj_find 76 pj_m20.2.2.2.2.2.2 = some (.ireturn, 1) := by decide +kernel
theorem pr_21_0 : pj_find 0 pj_m21.2.2.2.2.2.2 = some (.iconst 0, 1) := by decide +kernel
theorem pr_21_1 : pj_find 1 pj_m21.2.2.2.2.2.2 = some (.istore_n 1, 1) := by decide +kernel
theorem pr_21_2 : pj_find 2 pj_m21.2.2.2.2.2.2 = some (.iload_n 0, 1) := by decide +kernel
theorem pr_21_3 : pj_find 3 pj_m21.2.2.2.2.2.2 = some (.bipush 10, 2) := by decide +kernel
theorem pr_21_5 : pj_find 5 pj_m21.2.2.2.2.2.2 = some (.idiv, 1) := by decide +kernel
theorem pr_21_6 : pj_find 6 pj_m21.2.2.2.2.2.2 = some (.istore_n 2, 1) := by decide +kernel
theorem pr_21_7 : pj_find 7 pj_m21.2.2.2.2.2.2 = some (.iconst 0, 1) := by decide +kernel
theorem pr_21_8 : pj_find 8 pj_m21.2.2.2.2.2.2 = some (.istore_n 3, 1) := by decide +kernel
theorem pr_21_9 : pj_find 9 pj_m21.2.2.2.2.2.2 = some (.iload_n 3, 1) := by decide +kernel
theorem pr_21_10 : pj_find 10 pj_m21.2.2.2.2.2.2 = some (.iconst 5, 1) := by decide +kernel
theorem pr_21_11 : pj_find 11 pj_m21.2.2.2.2.2.2 = some (.if_icmp .ge 21, 3) := by decide +kernel
theorem pr_21_14 : pj_find 14 pj_m21.2.2.2.2.2.2 = some (.iload_n 2, 1) := by decide +kernel
theorem pr_21_15 : pj_find 15 pj_m21.2.2.2.2.2.2 = some (.ifCond .le 17, 3) := by decide +kernel
theorem pr_21_18 : pj_find 18 pj_m21.2.2.2.2.2.2 = some (.iinc 1 1, 3) := by decide +kernel
theorem pr_21_21 : pj_find 21 pj_m21.2.2.2.2.2.2 = some (.iload_n 2, 1) := by decide +kernel
theorem pr_21_22 : pj_find 22 pj_m21.2.2.2.2.2.2 = some (.bipush 10, 2) := by decide +kernel
theorem pr_21_24 : pj_find 24 pj_m21.2.2.2.2.2.2 = some (.idiv, 1) := by decide +kernel
theorem pr_21_25 : pj_find 25 pj_m21.2.2.2.2.2.2 = some (.istore_n 2, 1) := by decide +kernel
theorem pr_21_26 : pj_find 26 pj_m21.2.2.2.2.2.2 = some (.iinc 3 1, 3) := by decide +kernel
theorem pr_21_29 : pj_find 29 pj_m21.2.2.2.2.2.2 = some (.goto (-20), 3) := by decide +kernel
theorem pr_21_32 : pj_find 32 pj_m21.2.2.2.2.2.2 = some (.iload_n 1, 1) := by decide +kernel
theorem pr_21_33 : pj_find 33 pj_m21.2.2.2.2.2.2 = some (.ireturn, 1) := by decide +kernel
theorem pr_22_0 : pj_find 0 pj_m22.2.2.2.2.2.2 = some (.aload_n 0, 1) := by decide +kernel
theorem pr_22_1 : pj_find 1 pj_m22.2.2.2.2.2.2 = some (.invokespecial 3, 3) := by decide +kernel
theorem pr_22_4 : pj_find 4 pj_m22.2.2.2.2.2.2 = some (.aload_n 0, 1) := by decide +kernel
theorem pr_22_5 : pj_find 5 pj_m22.2.2.2.2.2.2 = some (.bipush 60, 2) := by decide +kernel
theorem pr_22_7 : pj_find 7 pj_m22.2.2.2.2.2.2 = some (.newarray .int, 2) := by decide +kernel
theorem pr_22_9 : pj_find 9 pj_m22.2.2.2.2.2.2 = some (.putfield 11, 3) := by decide +kernel
theorem pr_22_12 : pj_find 12 pj_m22.2.2.2.2.2.2 = some (.return_, 1) := by decide +kernel
theorem pr_23_0 : pj_find 0 pj_m23.2.2.2.2.2.2 = some (.aload_n 0, 1) := by decide +kernel
theorem pr_23_1 : pj_find 1 pj_m23.2.2.2.2.2.2 = some (.getfield 15, 3) := by decide +kernel
theorem pr_23_4 : pj_find 4 pj_m23.2.2.2.2.2.2 = some (.ireturn, 1) := by decide +kernel
theorem pr_24_0 : pj_find 0 pj_m24.2.2.2.2.2.2 = some (.aload_n 0, 1) := by decide +kernel
theorem pr_24_1 : pj_find 1 pj_m24.2.2.2.2.2.2 = some (.iconst 0, 1) := by decide +kernel
theorem pr_24_2 : pj_find 2 pj_m24.2.2.2.2.2.2 = some (.putfield 15, 3) := by decide +kernel
theorem pr_24_5 : pj_find 5 pj_m24.2.2.2.2.2.2 = some (.return_, 1) := by decide +kernel
theorem pr_25_0 : pj_find 0 pj_m25.2.2.2.2.2.2 = some (.aload_n 0, 1) := by decide +kernel
theorem pr_25_1 : pj_find 1 pj_m25.2.2.2.2.2.2 = some (.getfield 15, 3) := by decide +kernel
theorem pr_25_4 : pj_find 4 pj_m25.2.2.2.2.2.2 = some (.ifCond .lt 12, 3) := by decide +kernel
theorem pr_25_7 : pj_find 7 pj_m25.2.2.2.2.2.2 = some (.aload_n 0, 1) := by decide +kernel
theorem pr_25_8 : pj_find 8 pj_m25.2.2.2.2.2.2 = some (.getfield 15, 3) := by decide +kernel
theorem pr_25_11 : pj_find 11 pj_m25.2.2.2.2.2.2 = some (.bipush 60, 2) := by decide +kernel
theorem pr_25_13 : pj_find 13 pj_m25.2.2.2.2.2.2 = some (.if_icmp .lt 5, 3) := by decide +kernel
theorem pr_25_16 : pj_find 16 pj_m25.2.2.2.2.2.2 = some (.iconst 0, 1) := by decide +kernel
theorem pr_25_17 : pj_find 17 pj_m25.2.2.2.2.2.2 = some (.ireturn, 1) := by decide +kernel
theorem pr_25_18 : pj_find 18 pj_m25.2.2.2.2.2.2 = some (.aload_n 0, 1) := by decide +kernel
theorem pr_25_19 : pj_find 19 pj_m25.2.2.2.2.2.2 = some (.getfield 11, 3) := by decide +kernel
theorem pr_25_22 : pj_find 22 pj_m25.2.2.2.2.2.2 = some (.aload_n 0, 1) := by decide +kernel
theorem pr_25_23 : pj_find 23 pj_m25.2.2.2.2.2.2 = some (.getfield 15, 3) := by decide +kernel
theorem pr_25_26 : pj_find 26 pj_m25.2.2.2.2.2.2 = some (.iload_n 1, 1) := by decide +kernel
theorem pr_25_27 : pj_find 27 pj_m25.2.2.2.2.2.2 = some (.iastore, 1) := by decide +kernel
theorem pr_25_28 : pj_find 28 pj_m25.2.2.2.2.2.2 = some (.aload_n 0, 1) := by decide +kernel
theorem pr_25_29 : pj_find 29 pj_m25.2.2.2.2.2.2 = some (.dup, 1) := by decide +kernel
theorem pr_25_30 : pj_find 30 pj_m25.2.2.2.2.2.2 = some (.getfield 15, 3) := by decide +kernel
theorem pr_25_33 : pj_find 33 pj_m25.2.2.2.2.2.2 = some (.iconst 1, 1) := by decide +kernel
theorem pr_25_34 : pj_find 34 pj_m25.2.2.2.2.2.2 = some (.iadd, 1) := by decide +kernel
theorem pr_25_35 : pj_find 35 pj_m25.2.2.2.2.2.2 = some (.putfield 15, 3) := by decide +kernel
theorem pr_25_38 : pj_find 38 pj_m25.2.2.2.2.2.2 = some (.iconst 1, 1) := by decide +kernel
theorem pr_25_39 : pj_find 39 pj_m25.2.2.2.2.2.2 = some (.ireturn, 1) := by decide +kernel
theorem pr_26_0 : pj_find 0 pj_m26.2.2.2.2.2.2 = some (.iload_n 1, 1) := by decide +kernel
theorem pr_26_1 : pj_find 1 pj_m26.2.2.2.2.2.2 = some (.ifCond .lt 26, 3) := by decide +kernel
theorem pr_26_4 : pj_find 4 pj_m26.2.2.2.2.2.2 = some (.iload_n 1, 1) := by decide +kernel
theorem pr_26_5 : pj_find 5 pj_m26.2.2.2.2.2.2 = some (.aload_n 0, 1) := by decide +kernel
theorem pr_26_6 : pj_find 6 pj_m26.2.2.2.2.2.2 = some (.getfield 15, 3) := by decide +kernel
theorem pr_26_9 : pj_find 9 pj_m26.2.2.2.2.2.2 = some (.if_icmp .ge 18, 3) := by decide +kernel
theorem pr_26_12 : pj_find 12 pj_m26.2.2.2.2.2.2 = some (.iload_n 1, 1) := by decide +kernel
theorem pr_26_13 : pj_find 13 pj_m26.2.2.2.2.2.2 = some (.bipush 60, 2) := by decide +kernel
theorem pr_26_15 : pj_find 15 pj_m26.2.2.2.2.2.2 = some (.if_icmp .ge 12, 3) := by decide +kernel
theorem pr_26_18 : pj_find 18 pj_m26.2.2.2.2.2.2 = some (.aload_n 0, 1) := by decide +kernel
theorem pr_26_19 : pj_find 19 pj_m26.2.2.2.2.2.2 = some (.getfield 11, 3) := by decide +kernel
theorem pr_26_22 : pj_find 22 pj_m26.2.2.2.2.2.2 = some (.iload_n 1, 1) := by decide +kernel
theorem pr_26_23 : pj_find 23 pj_m26.2.2.2.2.2.2 = some (.iaload, 1) := by decide +kernel
theorem pr_26_24 : pj_find 24 pj_m26.2.2.2.2.2.2 = some (.goto 4, 3) := by decide +kernel
theorem pr_26_27 : pj_find 27 pj_m26.2.2.2.2.2.2 = some (.iconst 0, 1) := by decide +kernel
theorem pr_26_28 : pj_find 28 pj_m26.2.2.2.2.2.2 = some (.ireturn, 1) := by decide +kernel
theorem pr_27_0 : pj_find 0 pj_m27.2.2.2.2.2.2 = some (.iconst 0, 1) := by decide +kernel
theorem pr_27_1 : pj_find 1 pj_m27.2.2.2.2.2.2 = some (.istore_n 1, 1) := by decide +kernel
theorem pr_27_2 : pj_find 2 pj_m27.2.2.2.2.2.2 = some (.iconst 0, 1) := by decide +kernel
theorem pr_27_3 : pj_find 3 pj_m27.2.2.2.2.2.2 = some (.istore_n 2, 1) := by decide +kernel
theorem pr_27_4 : pj_find 4 pj_m27.2.2.2.2.2.2 = some (.iload_n 2, 1) := by decide +kernel
theorem pr_27_5 : pj_find 5 pj_m27.2.2.2.2.2.2 = some (.aload_n 0, 1) := by decide +kernel
theorem pr_27_6 : pj_find 6 pj_m27.2.2.2.2.2.2 = some (.getfield 15, 3) := by decide +kernel
theorem pr_27_9 : pj_find 9 pj_m27.2.2.2.2.2.2 = some (.if_icmp .ge 26, 3) := by decide +kernel
theorem pr_27_12 : pj_find 12 pj_m27.2.2.2.2.2.2 = some (.iload_n 1, 1) := by decide +kernel
theorem pr_27_13 : pj_find 13 pj_m27.2.2.2.2.2.2 = some (.aload_n 0, 1) := by decide +kernel
theorem pr_27_14 : pj_find 14 pj_m27.2.2.2.2.2.2 = some (.iload_n 2, 1) := by decide +kernel
theorem pr_27_15 : pj_find 15 pj_m27.2.2.2.2.2.2 = some (.invokevirtual 19, 3) := by decide +kernel
theorem pr_27_18 : pj_find 18 pj_m27.2.2.2.2.2.2 = some (.invokestatic 23, 3) := by decide +kernel
theorem pr_27_21 : pj_find 21 pj_m27.2.2.2.2.2.2 = some (.istore_n 1, 1) := by decide +kernel
theorem pr_27_22 : pj_find 22 pj_m27.2.2.2.2.2.2 = some (.iload_n 1, 1) := by decide +kernel
theorem pr_27_23 : pj_find 23 pj_m27.2.2.2.2.2.2 = some (.iconst 4, 1) := by decide +kernel
theorem pr_27_24 : pj_find 24 pj_m27.2.2.2.2.2.2 = some (.if_icmp .ne 5, 3) := by decide +kernel
theorem pr_27_27 : pj_find 27 pj_m27.2.2.2.2.2.2 = some (.iload_n 2, 1) := by decide +kernel
theorem pr_27_28 : pj_find 28 pj_m27.2.2.2.2.2.2 = some (.ireturn, 1) := by decide +kernel
theorem pr_27_29 : pj_find 29 pj_m27.2.2.2.2.2.2 = some (.iinc 2 1, 3) := by decide +kernel
theorem pr_27_32 : pj_find 32 pj_m27.2.2.2.2.2.2 = some (.goto (-28), 3) := by decide +kernel
theorem pr_27_35 : pj_find 35 pj_m27.2.2.2.2.2.2 = some (.iload_n 1, 1) := by decide +kernel
theorem pr_27_36 : pj_find 36 pj_m27.2.2.2.2.2.2 = some (.ifCond .ne 8, 3) := by decide +kernel
theorem pr_27_39 : pj_find 39 pj_m27.2.2.2.2.2.2 = some (.bipush (-6), 2) := by decide +kernel
theorem pr_27_41 : pj_find 41 pj_m27.2.2.2.2.2.2 = some (.goto 7, 3) := by decide +kernel
theorem pr_27_44 : pj_find 44 pj_m27.2.2.2.2.2.2 = some (.aload_n 0, 1) := by decide +kernel
theorem pr_27_45 : pj_find 45 pj_m27.2.2.2.2.2.2 = some (.getfield 15, 3) := by decide +kernel
theorem pr_27_48 : pj_find 48 pj_m27.2.2.2.2.2.2 = some (.ireturn, 1) := by decide +kernel
theorem pr_28_0 : pj_find 0 pj_m28.2.2.2.2.2.2 = some (.iload_n 0, 1) := by decide +kernel
theorem pr_28_1 : pj_find 1 pj_m28.2.2.2.2.2.2 = some (.tableswitch 90 0 3 #[31, 36, 61, 78], 31) := by decide +kernel
theorem pr_28_32 : pj_find 32 pj_m28.2.2.2.2.2.2 = some (.iload_n 1, 1) := by decide +kernel
theorem pr_28_33 : pj_find 33 pj_m28.2.2.2.2.2.2 = some (.invokestatic 27, 3) := by decide +kernel
theorem pr_28_36 : pj_find 36 pj_m28.2.2.2.2.2.2 = some (.ireturn, 1) := by decide +kernel
theorem pr_28_37 : pj_find 37 pj_m28.2.2.2.2.2.2 = some (.iload_n 1, 1) := by decide +kernel
theorem pr_28_38 : pj_find 38 pj_m28.2.2.2.2.2.2 = some (.bipush 126, 2) := by decide +kernel
theorem pr_28_40 : pj_find 40 pj_m28.2.2.2.2.2.2 = some (.if_icmp .ne 5, 3) := by decide +kernel
theorem pr_28_43 : pj_find 43 pj_m28.2.2.2.2.2.2 = some (.iconst 0, 1) := by decide +kernel
theorem pr_28_44 : pj_find 44 pj_m28.2.2.2.2.2.2 = some (.ireturn, 1) := by decide +kernel
theorem pr_28_45 : pj_find 45 pj_m28.2.2.2.2.2.2 = some (.iload_n 1, 1) := by decide +kernel
theorem pr_28_46 : pj_find 46 pj_m28.2.2.2.2.2.2 = some (.bipush 48, 2) := by decide +kernel
theorem pr_28_48 : pj_find 48 pj_m28.2.2.2.2.2.2 = some (.bipush 51, 2) := by decide +kernel
theorem pr_28_50 : pj_find 50 pj_m28.2.2.2.2.2.2 = some (.invokestatic 30, 3) := by decide +kernel
theorem pr_28_53 : pj_find 53 pj_m28.2.2.2.2.2.2 = some (.ifCond .eq 7, 3) := by decide +kernel
theorem pr_28_56 : pj_find 56 pj_m28.2.2.2.2.2.2 = some (.iconst 2, 1) := by decide +kernel
theorem pr_28_57 : pj_find 57 pj_m28.2.2.2.2.2.2 = some (.goto 4, 3) := by decide +kernel
theorem pr_28_60 : pj_find 60 pj_m28.2.2.2.2.2.2 = some (.iconst 4, 1) := by decide +kernel
theorem pr_28_61 : pj_find 61 pj_m28.2.2.2.2.2.2 = some (.ireturn, 1) := by decide +kernel
theorem pr_28_62 : pj_find 62 pj_m28.2.2.2.2.2.2 = some (.iload_n 1, 1) := by decide +kernel
theorem pr_28_63 : pj_find 63 pj_m28.2.2.2.2.2.2 = some (.bipush 49, 2) := by decide +kernel
theorem pr_28_65 : pj_find 65 pj_m28.2.2.2.2.2.2 = some (.bipush 53, 2) := by decide +kernel
theorem pr_28_67 : pj_find 67 pj_m28.2.2.2.2.2.2 = some (.invokestatic 30, 3) := by decide +kernel
theorem pr_28_70 : pj_find 70 pj_m28.2.2.2.2.2.2 = some (.ifCond .eq 7, 3) := by decide +kernel
theorem pr_28_73 : pj_find 73 pj_m28.2.2.2.2.2.2 = some (.iconst 0, 1) := by decide +kernel
theorem pr_28_74 : pj_find 74 pj_m28.2.2.2.2.2.2 = some (.goto 4, 3) := by decide +kernel
theorem pr_28_77 : pj_find 77 pj_m28.2.2.2.2.2.2 = some (.iconst 4, 1) := by decide +kernel
theorem pr_28_78 : pj_find 78 pj_m28.2.2.2.2.2.2 = some (.ireturn, 1) := by decide +kernel
theorem pr_28_79 : pj_find 79 pj_m28.2.2.2.2.2.2 = some (.iload_n 1, 1) := by decide +kernel
theorem pr_28_80 : pj_find 80 pj_m28.2.2.2.2.2.2 = some (.bipush 45, 2) := by decide +kernel
theorem pr_28_82 : pj_find 82 pj_m28.2.2.2.2.2.2 = some (.if_icmp .ne 7, 3) := by decide +kernel
theorem pr_28_85 : pj_find 85 pj_m28.2.2.2.2.2.2 = some (.iconst 0, 1) := by decide +kernel
theorem pr_28_86 : pj_find 86 pj_m28.2.2.2.2.2.2 = some (.goto 4, 3) := by decide +kernel
theorem pr_28_89 : pj_find 89 pj_m28.2.2.2.2.2.2 = some (.iconst 4, 1) := by decide +kernel
theorem pr_28_90 : pj_find 90 pj_m28.2.2.2.2.2.2 = some (.ireturn, 1) := by decide +kernel
theorem pr_28_91 : pj_find 91 pj_m28.2.2.2.2.2.2 = some (.iconst 4, 1) := by decide +kernel
theorem pr_28_92 : pj_find 92 pj_m28.2.2.2.2.2.2 = some (.ireturn, 1) := by decide +kernel
theorem pr_29_0 : pj_find 0 pj_m29.2.2.2.2.2.2 = some (.iload_n 0, 1) := by decide +kernel
theorem pr_29_1 : pj_find 1 pj_m29.2.2.2.2.2.2 = some (.bipush 65, 2) := by decide +kernel
theorem pr_29_3 : pj_find 3 pj_m29.2.2.2.2.2.2 = some (.bipush 72, 2) := by decide +kernel
theorem pr_29_5 : pj_find 5 pj_m29.2.2.2.2.2.2 = some (.invokestatic 30, 3) := by decide +kernel
theorem pr_29_8 : pj_find 8 pj_m29.2.2.2.2.2.2 = some (.ifCond .eq 5, 3) := by decide +kernel
theorem pr_29_11 : pj_find 11 pj_m29.2.2.2.2.2.2 = some (.iconst 1, 1) := by decide +kernel
theorem pr_29_12 : pj_find 12 pj_m29.2.2.2.2.2.2 = some (.ireturn, 1) := by decide +kernel
theorem pr_29_13 : pj_find 13 pj_m29.2.2.2.2.2.2 = some (.iload_n 0, 1) := by decide +kernel
theorem pr_29_14 : pj_find 14 pj_m29.2.2.2.2.2.2 = some (.bipush 97, 2) := by decide +kernel
theorem pr_29_16 : pj_find 16 pj_m29.2.2.2.2.2.2 = some (.bipush 112, 2) := by decide +kernel
theorem pr_29_18 : pj_find 18 pj_m29.2.2.2.2.2.2 = some (.invokestatic 30, 3) := by decide +kernel
theorem pr_29_21 : pj_find 21 pj_m29.2.2.2.2.2.2 = some (.ifCond .eq 5, 3) := by decide +kernel
theorem pr_29_24 : pj_find 24 pj_m29.2.2.2.2.2.2 = some (.iconst 3, 1) := by decide +kernel
theorem pr_29_25 : pj_find 25 pj_m29.2.2.2.2.2.2 = some (.ireturn, 1) := by decide +kernel
theorem pr_29_26 : pj_find 26 pj_m29.2.2.2.2.2.2 = some (.iload_n 0, 1) := by decide +kernel
theorem pr_29_27 : pj_find 27 pj_m29.2.2.2.2.2.2 = some (.bipush 46, 2) := by decide +kernel
theorem pr_29_29 : pj_find 29 pj_m29.2.2.2.2.2.2 = some (.if_icmp .ne 7, 3) := by decide +kernel
theorem pr_29_32 : pj_find 32 pj_m29.2.2.2.2.2.2 = some (.iconst 0, 1) := by decide +kernel
theorem pr_29_33 : pj_find 33 pj_m29.2.2.2.2.2.2 = some (.goto 4, 3) := by decide +kernel
theorem pr_29_36 : pj_find 36 pj_m29.2.2.2.2.2.2 = some (.iconst 4, 1) := by decide +kernel
theorem pr_29_37 : pj_find 37 pj_m29.2.2.2.2.2.2 = some (.ireturn, 1) := by decide +kernel
theorem pr_30_0 : pj_find 0 pj_m30.2.2.2.2.2.2 = some (.aload_n 0, 1) := by decide +kernel
theorem pr_30_1 : pj_find 1 pj_m30.2.2.2.2.2.2 = some (.iload_n 1, 1) := by decide +kernel
theorem pr_30_2 : pj_find 2 pj_m30.2.2.2.2.2.2 = some (.invokevirtual 19, 3) := by decide +kernel
theorem pr_30_5 : pj_find 5 pj_m30.2.2.2.2.2.2 = some (.invokestatic 27, 3) := by decide +kernel
theorem pr_30_8 : pj_find 8 pj_m30.2.2.2.2.2.2 = some (.istore_n 2, 1) := by decide +kernel
theorem pr_30_9 : pj_find 9 pj_m30.2.2.2.2.2.2 = some (.iload_n 2, 1) := by decide +kernel
theorem pr_30_10 : pj_find 10 pj_m30.2.2.2.2.2.2 = some (.ifCond .ne 5, 3) := by decide +kernel
theorem pr_30_13 : pj_find 13 pj_m30.2.2.2.2.2.2 = some (.iconst 1, 1) := by decide +kernel
theorem pr_30_14 : pj_find 14 pj_m30.2.2.2.2.2.2 = some (.ireturn, 1) := by decide +kernel
theorem pr_30_15 : pj_find 15 pj_m30.2.2.2.2.2.2 = some (.iload_n 2, 1) := by decide +kernel
theorem pr_30_16 : pj_find 16 pj_m30.2.2.2.2.2.2 = some (.iconst 1, 1) := by decide +kernel
theorem pr_30_17 : pj_find 17 pj_m30.2.2.2.2.2.2 = some (.if_icmp .ne 19, 3) := by decide +kernel
theorem pr_30_20 : pj_find 20 pj_m30.2.2.2.2.2.2 = some (.aload_n 0, 1) := by decide +kernel
theorem pr_30_21 : pj_find 21 pj_m30.2.2.2.2.2.2 = some (.iload_n 1, 1) := by decide +kernel
theorem pr_30_22 : pj_find 22 pj_m30.2.2.2.2.2.2 = some (.iconst 1, 1) := by decide +kernel
theorem pr_30_23 : pj_find 23 pj_m30.2.2.2.2.2.2 = some (.iadd, 1) := by decide +kernel
theorem pr_30_24 : pj_find 24 pj_m30.2.2.2.2.2.2 = some (.invokevirtual 19, 3) := by decide +kernel
theorem pr_30_27 : pj_find 27 pj_m30.2.2.2.2.2.2 = some (.bipush 126, 2) := by decide +kernel
theorem pr_30_29 : pj_find 29 pj_m30.2.2.2.2.2.2 = some (.if_icmp .eq 7, 3) := by decide +kernel
theorem pr_30_32 : pj_find 32 pj_m30.2.2.2.2.2.2 = some (.iconst 3, 1) := by decide +kernel
theorem pr_30_33 : pj_find 33 pj_m30.2.2.2.2.2.2 = some (.goto 4, 3) := by decide +kernel
theorem pr_30_36 : pj_find 36 pj_m30.2.2.2.2.2.2 = some (.iconst 2, 1) := by decide +kernel
theorem pr_30_37 : pj_find 37 pj_m30.2.2.2.2.2.2 = some (.ireturn, 1) := by decide +kernel
theorem pr_31_0 : pj_find 0 pj_m31.2.2.2.2.2.2 = some (.aload_n 0, 1) := by decide +kernel
theorem pr_31_1 : pj_find 1 pj_m31.2.2.2.2.2.2 = some (.iload_n 1, 1) := by decide +kernel
theorem pr_31_2 : pj_find 2 pj_m31.2.2.2.2.2.2 = some (.invokevirtual 19, 3) := by decide +kernel
theorem pr_31_5 : pj_find 5 pj_m31.2.2.2.2.2.2 = some (.istore_n 3, 1) := by decide +kernel
theorem pr_31_6 : pj_find 6 pj_m31.2.2.2.2.2.2 = some (.aload_n 0, 1) := by decide +kernel
theorem pr_31_7 : pj_find 7 pj_m31.2.2.2.2.2.2 = some (.iload_n 1, 1) := by decide +kernel
theorem pr_31_8 : pj_find 8 pj_m31.2.2.2.2.2.2 = some (.iconst 1, 1) := by decide +kernel
theorem pr_31_9 : pj_find 9 pj_m31.2.2.2.2.2.2 = some (.iadd, 1) := by decide +kernel
theorem pr_31_10 : pj_find 10 pj_m31.2.2.2.2.2.2 = some (.invokevirtual 19, 3) := by decide +kernel
theorem pr_31_13 : pj_find 13 pj_m31.2.2.2.2.2.2 = some (.istore 4, 2) := by decide +kernel
theorem pr_31_15 : pj_find 15 pj_m31.2.2.2.2.2.2 = some (.iload_n 3, 1) := by decide +kernel
theorem pr_31_16 : pj_find 16 pj_m31.2.2.2.2.2.2 = some (.invokestatic 27, 3) := by decide +kernel
theorem pr_31_19 : pj_find 19 pj_m31.2.2.2.2.2.2 = some (.lookupswitch 74 #[(1, 25), (3, 65)], 25) := by decide +kernel
theorem pr_31_44 : pj_find 44 pj_m31.2.2.2.2.2.2 = some (.iload 4, 2) := by decide +kernel
theorem pr_31_46 : pj_find 46 pj_m31.2.2.2.2.2.2 = some (.bipush 126, 2) := by decide +kernel
theorem pr_31_48 : pj_find 48 pj_m31.2.2.2.2.2.2 = some (.if_icmp .ne 12, 3) := by decide +kernel
theorem pr_31_51 : pj_find 51 pj_m31.2.2.2.2.2.2 = some (.aload_n 2, 1) := by decide +kernel
theorem pr_31_52 : pj_find 52 pj_m31.2.2.2.2.2.2 = some (.iload_n 3, 1) := by decide +kernel
theorem pr_31_53 : pj_find 53 pj_m31.2.2.2.2.2.2 = some (.bipush 65, 2) := by decide +kernel
theorem pr_31_55 : pj_find 55 pj_m31.2.2.2.2.2.2 = some (.isub, 1) := by decide +kernel
theorem pr_31_56 : pj_find 56 pj_m31.2.2.2.2.2.2 = some (.invokevirtual 34, 3) := by decide +kernel
theorem pr_31_59 : pj_find 59 pj_m31.2.2.2.2.2.2 = some (.ireturn, 1) := by decide +kernel
theorem pr_31_60 : pj_find 60 pj_m31.2.2.2.2.2.2 = some (.aload_n 2, 1) := by decide +kernel
theorem pr_31_61 : pj_find 61 pj_m31.2.2.2.2.2.2 = some (.iload_n 3, 1) := by decide +kernel
theorem pr_31_62 : pj_find 62 pj_m31.2.2.2.2.2.2 = some (.bipush 65, 2) := by decide +kernel
theorem pr_31_64 : pj_find 64 pj_m31.2.2.2.2.2.2 = some (.isub, 1) := by decide +kernel
theorem pr_31_65 : pj_find 65 pj_m31.2.2.2.2.2.2 = some (.iload 4, 2) := by decide +kernel
theorem pr_31_67 : pj_find 67 pj_m31.2.2.2.2.2.2 = some (.bipush 48, 2) := by decide +kernel
theorem pr_31_69 : pj_find 69 pj_m31.2.2.2.2.2.2 = some (.isub, 1) := by decide +kernel
theorem pr_31_70 : pj_find 70 pj_m31.2.2.2.2.2.2 = some (.aload_n 0, 1) := by decide +kernel
theorem pr_31_71 : pj_find 71 pj_m31.2.2.2.2.2.2 = some (.iload_n 1, 1) := by decide +kernel
theorem pr_31_72 : pj_find 72 pj_m31.2.2.2.2.2.2 = some (.iconst 2, 1) := by decide +kernel
theorem pr_31_73 : pj_find 73 pj_m31.2.2.2.2.2.2 = some (.iadd, 1) := by decide +kernel
theorem pr_31_74 : pj_find 74 pj_m31.2.2.2.2.2.2 = some (.invokevirtual 19, 3) := by decide +kernel
theorem pr_31_77 : pj_find 77 pj_m31.2.2.2.2.2.2 = some (.bipush 48, 2) := by decide +kernel
theorem pr_31_79 : pj_find 79 pj_m31.2.2.2.2.2.2 = some (.isub, 1) := by decide +kernel
theorem pr_31_80 : pj_find 80 pj_m31.2.2.2.2.2.2 = some (.invokevirtual 39, 3) := by decide +kernel
theorem pr_31_83 : pj_find 83 pj_m31.2.2.2.2.2.2 = some (.ireturn, 1) := by decide +kernel
theorem pr_31_84 : pj_find 84 pj_m31.2.2.2.2.2.2 = some (.aload_n 2, 1) := by decide +kernel
theorem pr_31_85 : pj_find 85 pj_m31.2.2.2.2.2.2 = some (.iload_n 3, 1) := by decide +kernel
theorem pr_31_86 : pj_find 86 pj_m31.2.2.2.2.2.2 = some (.bipush 97, 2) := by decide +kernel
theorem pr_31_88 : pj_find 88 pj_m31.2.2.2.2.2.2 = some (.isub, 1) := by decide +kernel
theorem pr_31_89 : pj_find 89 pj_m31.2.2.2.2.2.2 = some (.invokevirtual 43, 3) := by decide +kernel
theorem pr_31_92 : pj_find 92 pj_m31.2.2.2.2.2.2 = some (.ireturn, 1) := by decide +kernel
theorem pr_31_93 : pj_find 93 pj_m31.2.2.2.2.2.2 = some (.aload_n 2, 1) := by decide +kernel
theorem pr_31_94 : pj_find 94 pj_m31.2.2.2.2.2.2 = some (.invokevirtual 46, 3) := by decide +kernel
theorem pr_31_97 : pj_find 97 pj_m31.2.2.2.2.2.2 = some (.ireturn, 1) := by decide +kernel
theorem pr_32_0 : pj_find 0 pj_m32.2.2.2.2.2.2 = some (.aload_n 0, 1) := by decide +kernel
theorem pr_32_1 : pj_find 1 pj_m32.2.2.2.2.2.2 = some (.invokespecial 3, 3) := by decide +kernel
theorem pr_32_4 : pj_find 4 pj_m32.2.2.2.2.2.2 = some (.aload_n 0, 1) := by decide +kernel
theorem pr_32_5 : pj_find 5 pj_m32.2.2.2.2.2.2 = some (.bipush 7, 2) := by decide +kernel
theorem pr_32_7 : pj_find 7 pj_m32.2.2.2.2.2.2 = some (.newarray .int, 2) := by decide +kernel
theorem pr_32_9 : pj_find 9 pj_m32.2.2.2.2.2.2 = some (.putfield 9, 3) := by decide +kernel
theorem pr_32_12 : pj_find 12 pj_m32.2.2.2.2.2.2 = some (.aload_n 0, 1) := by decide +kernel
theorem pr_32_13 : pj_find 13 pj_m32.2.2.2.2.2.2 = some (.bipush 8, 2) := by decide +kernel
theorem pr_32_15 : pj_find 15 pj_m32.2.2.2.2.2.2 = some (.newarray .int, 2) := by decide +kernel
theorem pr_32_17 : pj_find 17 pj_m32.2.2.2.2.2.2 = some (.putfield 15, 3) := by decide +kernel
theorem pr_32_20 : pj_find 20 pj_m32.2.2.2.2.2.2 = some (.aload_n 0, 1) := by decide +kernel
theorem pr_32_21 : pj_find 21 pj_m32.2.2.2.2.2.2 = some (.bipush 6, 2) := by decide +kernel
theorem pr_32_23 : pj_find 23 pj_m32.2.2.2.2.2.2 = some (.newarray .int, 2) := by decide +kernel
theorem pr_32_25 : pj_find 25 pj_m32.2.2.2.2.2.2 = some (.putfield 18, 3) := by decide +kernel
theorem pr_32_28 : pj_find 28 pj_m32.2.2.2.2.2.2 = some (.aload_n 0, 1) := by decide +kernel
theorem pr_32_29 : pj_find 29 pj_m32.2.2.2.2.2.2 = some (.getfield 9, 3) := by decide +kernel
theorem pr_32_32 : pj_find 32 pj_m32.2.2.2.2.2.2 = some (.iconst 0, 1) := by decide +kernel
theorem pr_32_33 : pj_find 33 pj_m32.2.2.2.2.2.2 = some (.ldc 21, 2) := by decide +kernel
theorem pr_32_35 : pj_find 35 pj_m32.2.2.2.2.2.2 = some (.iastore, 1) := by decide +kernel
theorem pr_32_36 : pj_find 36 pj_m32.2.2.2.2.2.2 = some (.aload_n 0, 1) := by decide +kernel
theorem pr_32_37 : pj_find 37 pj_m32.2.2.2.2.2.2 = some (.getfield 18, 3) := by decide +kernel
theorem pr_32_40 : pj_find 40 pj_m32.2.2.2.2.2.2 = some (.bipush 50, 2) := by decide +kernel
theorem pr_32_42 : pj_find 42 pj_m32.2.2.2.2.2.2 = some (.invokestatic 22, 3) := by decide +kernel
theorem pr_32_45 : pj_find 45 pj_m32.2.2.2.2.2.2 = some (.return_, 1) := by decide +kernel
theorem pr_33_0 : pj_find 0 pj_m33.2.2.2.2.2.2 = some (.aload_n 1, 1) := by decide +kernel
theorem pr_33_1 : pj_find 1 pj_m33.2.2.2.2.2.2 = some (.getfield 9, 3) := by decide +kernel
theorem pr_33_4 : pj_find 4 pj_m33.2.2.2.2.2.2 = some (.iconst 0, 1) := by decide +kernel
theorem pr_33_5 : pj_find 5 pj_m33.2.2.2.2.2.2 = some (.aload_n 0, 1) := by decide +kernel
theorem pr_33_6 : pj_find 6 pj_m33.2.2.2.2.2.2 = some (.getfield 9, 3) := by decide +kernel
theorem pr_33_9 : pj_find 9 pj_m33.2.2.2.2.2.2 = some (.iconst 0, 1) := by decide +kernel
theorem pr_33_10 : pj_find 10 pj_m33.2.2.2.2.2.2 = some (.bipush 7, 2) := by decide +kernel
theorem pr_33_12 : pj_find 12 pj_m33.2.2.2.2.2.2 = some (.invokestatic 28, 3) := by decide +kernel
theorem pr_33_15 : pj_find 15 pj_m33.2.2.2.2.2.2 = some (.aload_n 1, 1) := by decide +kernel
theorem pr_33_16 : pj_find 16 pj_m33.2.2.2.2.2.2 = some (.getfield 15, 3) := by decide +kernel
theorem pr_33_19 : pj_find 19 pj_m33.2.2.2.2.2.2 = some (.iconst 0, 1) := by decide +kernel
theorem pr_33_20 : pj_find 20 pj_m33.2.2.2.2.2.2 = some (.aload_n 0, 1) := by decide +kernel
theorem pr_33_21 : pj_find 21 pj_m33.2.2.2.2.2.2 = some (.getfield 15, 3) := by decide +kernel
theorem pr_33_24 : pj_find 24 pj_m33.2.2.2.2.2.2 = some (.iconst 0, 1) := by decide +kernel
theorem pr_33_25 : pj_find 25 pj_m33.2.2.2.2.2.2 = some (.bipush 8, 2) := by decide +kernel
theorem pr_33_27 : pj_find 27 pj_m33.2.2.2.2.2.2 = some (.invokestatic 28, 3) := by decide +kernel
theorem pr_33_30 : pj_find 30 pj_m33.2.2.2.2.2.2 = some (.aload_n 1, 1) := by decide +kernel
theorem pr_33_31 : pj_find 31 pj_m33.2.2.2.2.2.2 = some (.getfield 18, 3) := by decide +kernel
theorem pr_33_34 : pj_find 34 pj_m33.2.2.2.2.2.2 = some (.iconst 0, 1) := by decide +kernel
theorem pr_33_35 : pj_find 35 pj_m33.2.2.2.2.2.2 = some (.aload_n 0, 1) := by decide +kernel
theorem pr_33_36 : pj_find 36 pj_m33.2.2.2.2.2.2 = some (.getfield 18, 3) := by decide +kernel
theorem pr_33_39 : pj_find 39 pj_m33.2.2.2.2.2.2 = some (.iconst 0, 1) := by decide +kernel
theorem pr_33_40 : pj_find 40 pj_m33.2.2.2.2.2.2 = some (.bipush 6, 2) := by decide +kernel
theorem pr_33_42 : pj_find 42 pj_m33.2.2.2.2.2.2 = some (.invokestatic 28, 3) := by decide +kernel
theorem pr_33_45 : pj_find 45 pj_m33.2.2.2.2.2.2 = some (.aload_n 0, 1) := by decide +kernel
theorem pr_33_46 : pj_find 46 pj_m33.2.2.2.2.2.2 = some (.aload_n 1, 1) := by decide +kernel
theorem pr_33_47 : pj_find 47 pj_m33.2.2.2.2.2.2 = some (.getfield 34, 3) := by decide +kernel
theorem pr_33_50 : pj_find 50 pj_m33.2.2.2.2.2.2 = some (.putfield 34, 3) := by decide +kernel
theorem pr_33_53 : pj_find 53 pj_m33.2.2.2.2.2.2 = some (.aload_n 0, 1) := by decide +kernel
theorem pr_33_54 : pj_find 54 pj_m33.2.2.2.2.2.2 = some (.aload_n 1, 1) := by decide +kernel
theorem pr_33_55 : pj_find 55 pj_m33.2.2.2.2.2.2 = some (.getfield 38, 3) := by decide +kernel
theorem pr_33_58 : pj_find 58 pj_m33.2.2.2.2.2.2 = some (.putfield 38, 3) := by decide +kernel
theorem pr_33_61 : pj_find 61 pj_m33.2.2.2.2.2.2 = some (.aload_n 0, 1) := by decide +kernel
theorem pr_33_62 : pj_find 62 pj_m33.2.2.2.2.2.2 = some (.aload_n 1, 1) := by decide +kernel
theorem pr_33_63 : pj_find 63 pj_m33.2.2.2.2.2.2 = some (.getfield 41, 3) := by decide +kernel
theorem pr_33_66 : pj_find 66 pj_m33.2.2.2.2.2.2 = some (.putfield 41, 3) := by decide +kernel
theorem pr_33_69 : pj_find 69 pj_m33.2.2.2.2.2.2 = some (.aload_n 0, 1) := by decide +kernel
theorem pr_33_70 : pj_find 70 pj_m33.2.2.2.2.2.2 = some (.aload_n 1, 1) := by decide +kernel
theorem pr_33_71 : pj_find 71 pj_m33.2.2.2.2.2.2 = some (.getfield 44, 3) := by decide +kernel
theorem pr_33_74 : pj_find 74 pj_m33.2.2.2.2.2.2 = some (.putfield 44, 3) := by decide +kernel
theorem pr_33_77 : pj_find 77 pj_m33.2.2.2.2.2.2 = some (.aload_n 0, 1) := by decide +kernel
theorem pr_33_78 : pj_find 78 pj_m33.2.2.2.2.2.2 = some (.aload_n 1, 1) := by decide +kernel
theorem pr_33_79 : pj_find 79 pj_m33.2.2.2.2.2.2 = some (.getfield 47, 3) := by decide +kernel
theorem pr_33_82 : pj_find 82 pj_m33.2.2.2.2.2.2 = some (.putfield 47, 3) := by decide +kernel
theorem pr_33_85 : pj_find 85 pj_m33.2.2.2.2.2.2 = some (.aload_n 0, 1) := by decide +kernel
theorem pr_33_86 : pj_find 86 pj_m33.2.2.2.2.2.2 = some (.iconst 0, 1) := by decide +kernel
theorem pr_33_87 : pj_find 87 pj_m33.2.2.2.2.2.2 = some (.putfield 50, 3) := by decide +kernel
theorem pr_33_90 : pj_find 90 pj_m33.2.2.2.2.2.2 = some (.aload_n 0, 1) := by decide +kernel
theorem pr_33_91 : pj_find 91 pj_m33.2.2.2.2.2.2 = some (.iconst 0, 1) := by decide +kernel
theorem pr_33_92 : pj_find 92 pj_m33.2.2.2.2.2.2 = some (.putfield 53, 3) := by decide +kernel
theorem pr_33_95 : pj_find 95 pj_m33.2.2.2.2.2.2 = some (.return_, 1) := by decide +kernel
theorem pr_34_0 : pj_find 0 pj_m34.2.2.2.2.2.2 = some (.iload_n 1, 1) := by decide +kernel
theorem pr_34_1 : pj_find 1 pj_m34.2.2.2.2.2.2 = some (.ifCond .lt 18, 3) := by decide +kernel
theorem pr_34_4 : pj_find 4 pj_m34.2.2.2.2.2.2 = some (.iload_n 1, 1) := by decide +kernel
theorem pr_34_5 : pj_find 5 pj_m34.2.2.2.2.2.2 = some (.bipush 6, 2) := by decide +kernel
theorem pr_34_7 : pj_find 7 pj_m34.2.2.2.2.2.2 = some (.if_icmp .gt 12, 3) := by decide +kernel
theorem pr_34_10 : pj_find 10 pj_m34.2.2.2.2.2.2 = some (.aload_n 0, 1) := by decide +kernel
theorem pr_34_11 : pj_find 11 pj_m34.2.2.2.2.2.2 = some (.getfield 9, 3) := by decide +kernel
theorem pr_34_14 : pj_find 14 pj_m34.2.2.2.2.2.2 = some (.iload_n 1, 1) := by decide +kernel
theorem pr_34_15 : pj_find 15 pj_m34.2.2.2.2.2.2 = some (.iaload, 1) := by decide +kernel
theorem pr_34_16 : pj_find 16 pj_m34.2.2.2.2.2.2 = some (.goto 4, 3) := by decide +kernel
theorem pr_34_19 : pj_find 19 pj_m34.2.2.2.2.2.2 = some (.iconst 0, 1) := by decide +kernel
theorem pr_34_20 : pj_find 20 pj_m34.2.2.2.2.2.2 = some (.ireturn, 1) := by decide +kernel
theorem pr_35_0 : pj_find 0 pj_m35.2.2.2.2.2.2 = some (.aload_n 0, 1) := by decide +kernel
theorem pr_35_1 : pj_find 1 pj_m35.2.2.2.2.2.2 = some (.iload_n 1, 1) := by decide +kernel
theorem pr_35_2 : pj_find 2 pj_m35.2.2.2.2.2.2 = some (.invokevirtual 56, 3) := by decide +kernel
theorem pr_35_5 : pj_find 5 pj_m35.2.2.2.2.2.2 = some (.invokestatic 60, 3) := by decide +kernel
theorem pr_35_8 : pj_find 8 pj_m35.2.2.2.2.2.2 = some (.ireturn, 1) := by decide +kernel
theorem pr_36_0 : pj_find 0 pj_m36.2.2.2.2.2.2 = some (.iconst 1, 1) := by decide +kernel
theorem pr_36_1 : pj_find 1 pj_m36.2.2.2.2.2.2 = some (.istore_n 2, 1) := by decide +kernel
theorem pr_36_2 : pj_find 2 pj_m36.2.2.2.2.2.2 = some (.iload_n 2, 1) := by decide +kernel
theorem pr_36_3 : pj_find 3 pj_m36.2.2.2.2.2.2 = some (.bipush 6, 2) := by decide +kernel
theorem pr_36_5 : pj_find 5 pj_m36.2.2.2.2.2.2 = some (.if_icmp .gt 25, 3) := by decide +kernel
theorem pr_36_8 : pj_find 8 pj_m36.2.2.2.2.2.2 = some (.aload_n 0, 1) := by decide +kernel
theorem pr_36_9 : pj_find 9 pj_m36.2.2.2.2.2.2 = some (.getfield 9, 3) := by decide +kernel
theorem pr_36_12 : pj_find 12 pj_m36.2.2.2.2.2.2 = some (.iload_n 2, 1) := by decide +kernel
theorem pr_36_13 : pj_find 13 pj_m36.2.2.2.2.2.2 = some (.iaload, 1) := by decide +kernel
theorem pr_36_14 : pj_find 14 pj_m36.2.2.2.2.2.2 = some (.iload_n 1, 1) := by decide +kernel
theorem pr_36_15 : pj_find 15 pj_m36.2.2.2.2.2.2 = some (.ishr, 1) := by decide +kernel
theorem pr_36_16 : pj_find 16 pj_m36.2.2.2.2.2.2 = some (.iconst 1, 1) := by decide +kernel
theorem pr_36_17 : pj_find 17 pj_m36.2.2.2.2.2.2 = some (.iand, 1) := by decide +kernel
theorem pr_36_18 : pj_find 18 pj_m36.2.2.2.2.2.2 = some (.iconst 1, 1) := by decide +kernel
theorem pr_36_19 : pj_find 19 pj_m36.2.2.2.2.2.2 = some (.if_icmp .ne 5, 3) := by decide +kernel
theorem pr_36_22 : pj_find 22 pj_m36.2.2.2.2.2.2 = some (.iload_n 2, 1) := by decide +kernel
theorem pr_36_23 : pj_find 23 pj_m36.2.2.2.2.2.2 = some (.ireturn, 1) := by decide +kernel
theorem pr_36_24 : pj_find 24 pj_m36.2.2.2.2.2.2 = some (.iinc 2 1, 3) := by decide +kernel
theorem pr_36_27 : pj_find 27 pj_m36.2.2.2.2.2.2 = some (.goto (-25), 3) := by decide +kernel
theorem pr_36_30 : pj_find 30 pj_m36.2.2.2.2.2.2 = some (.iconst 0, 1) := by decide +kernel
theorem pr_36_31 : pj_find 31 pj_m36.2.2.2.2.2.2 = some (.ireturn, 1) := by decide +kernel
theorem pr_37_0 : pj_find 0 pj_m37.2.2.2.2.2.2 = some (.iload_n 1, 1) := by decide +kernel
theorem pr_37_1 : pj_find 1 pj_m37.2.2.2.2.2.2 = some (.ifCond .lt 18, 3) := by decide +kernel
theorem pr_37_4 : pj_find 4 pj_m37.2.2.2.2.2.2 = some (.iload_n 1, 1) := by decide +kernel
theorem pr_37_5 : pj_find 5 pj_m37.2.2.2.2.2.2 = some (.bipush 8, 2) := by decide +kernel
theorem pr_37_7 : pj_find 7 pj_m37.2.2.2.2.2.2 = some (.if_icmp .ge 12, 3) := by decide +kernel
theorem pr_37_10 : pj_find 10 pj_m37.2.2.2.2.2.2 = some (.aload_n 0, 1) := by decide +kernel
theorem pr_37_11 : pj_find 11 pj_m37.2.2.2.2.2.2 = some (.getfield 15, 3) := by decide +kernel
theorem pr_37_14 : pj_find 14 pj_m37.2.2.2.2.2.2 = some (.iload_n 1, 1) := by decide +kernel
theorem pr_37_15 : pj_find 15 pj_m37.2.2.2.2.2.2 = some (.iaload, 1) := by decide +kernel
theorem pr_37_16 : pj_find 16 pj_m37.2.2.2.2.2.2 = some (.goto 4, 3) := by decide +kernel
theorem pr_37_19 : pj_find 19 pj_m37.2.2.2.2.2.2 = some (.iconst 0, 1) := by decide +kernel
theorem pr_37_20 : pj_find 20 pj_m37.2.2.2.2.2.2 = some (.ireturn, 1) := by decide +kernel
theorem pr_38_0 : pj_find 0 pj_m38.2.2.2.2.2.2 = some (.iconst 0, 1) := by decide +kernel
theorem pr_38_1 : pj_find 1 pj_m38.2.2.2.2.2.2 = some (.istore_n 2, 1) := by decide +kernel
theorem pr_38_2 : pj_find 2 pj_m38.2.2.2.2.2.2 = some (.iconst 0, 1) := by decide +kernel
theorem pr_38_3 : pj_find 3 pj_m38.2.2.2.2.2.2 = some (.istore_n 3, 1) := by decide +kernel
theorem pr_38_4 : pj_find 4 pj_m38.2.2.2.2.2.2 = some (.iload_n 3, 1) := by decide +kernel
theorem pr_38_5 : pj_find 5 pj_m38.2.2.2.2.2.2 = some (.bipush 8, 2) := by decide +kernel
theorem pr_38_7 : pj_find 7 pj_m38.2.2.2.2.2.2 = some (.if_icmp .ge 27, 3) := by decide +kernel
theorem pr_38_10 : pj_find 10 pj_m38.2.2.2.2.2.2 = some (.iload_n 1, 1) := by decide +kernel
theorem pr_38_11 : pj_find 11 pj_m38.2.2.2.2.2.2 = some (.iload_n 3, 1) := by decide +kernel
theorem pr_38_12 : pj_find 12 pj_m38.2.2.2.2.2.2 = some (.ishr, 1) := by decide +kernel
theorem pr_38_13 : pj_find 13 pj_m38.2.2.2.2.2.2 = some (.iconst 1, 1) := by decide +kernel
theorem pr_38_14 : pj_find 14 pj_m38.2.2.2.2.2.2 = some (.iand, 1) := by decide +kernel
theorem pr_38_15 : pj_find 15 pj_m38.2.2.2.2.2.2 = some (.iconst 1, 1) := by decide +kernel
theorem pr_38_16 : pj_find 16 pj_m38.2.2.2.2.2.2 = some (.if_icmp .ne 12, 3) := by decide +kernel
theorem pr_38_19 : pj_find 19 pj_m38.2.2.2.2.2.2 = some (.iload_n 2, 1) := by decide +kernel
theorem pr_38_20 : pj_find 20 pj_m38.2.2.2.2.2.2 = some (.aload_n 0, 1) := by decide +kernel
theorem pr_38_21 : pj_find 21 pj_m38.2.2.2.2.2.2 = some (.getfield 15, 3) := by decide +kernel
theorem pr_38_24 : pj_find 24 pj_m38.2.2.2.2.2.2 = some (.iload_n 3, 1) := by decide +kernel
theorem pr_38_25 : pj_find 25 pj_m38.2.2.2.2.2.2 = some (.iaload, 1) := by decide +kernel
theorem pr_38_26 : pj_find 26 pj_m38.2.2.2.2.2.2 = some (.ior, 1) := by decide +kernel
theorem pr_38_27 : pj_find 27 pj_m38.2.2.2.2.2.2 = some (.istore_n 2, 1) := by decide +kernel
theorem pr_38_28 : pj_find 28 pj_m38.2.2.2.2.2.2 = some (.iinc 3 1, 3) := by decide +kernel
theorem pr_38_31 : pj_find 31 pj_m38.2.2.2.2.2.2 = some (.goto (-27), 3) := by decide +kernel
theorem pr_38_34 : pj_find 34 pj_m38.2.2.2.2.2.2 = some (.iload_n 2, 1) := by decide +kernel
theorem pr_38_35 : pj_find 35 pj_m38.2.2.2.2.2.2 = some (.ireturn, 1) := by decide +kernel
theorem pr_39_0 : pj_find 0 pj_m39.2.2.2.2.2.2 = some (.iload_n 1, 1) := by decide +kernel
theorem pr_39_1 : pj_find 1 pj_m39.2.2.2.2.2.2 = some (.iconst 1, 1) := by decide +kernel
theorem pr_39_2 : pj_find 2 pj_m39.2.2.2.2.2.2 = some (.if_icmp .lt 17, 3) := by decide +kernel
theorem pr_39_5 : pj_find 5 pj_m39.2.2.2.2.2.2 = some (.iload_n 1, 1) := by decide +kernel
theorem pr_39_6 : pj_find 6 pj_m39.2.2.2.2.2.2 = some (.iconst 5, 1) := by decide +kernel
theorem pr_39_7 : pj_find 7 pj_m39.2.2.2.2.2.2 = some (.if_icmp .gt 12, 3) := by decide +kernel
theorem pr_39_10 : pj_find 10 pj_m39.2.2.2.2.2.2 = some (.aload_n 0, 1) := by decide +kernel
theorem pr_39_11 : pj_find 11 pj_m39.2.2.2.2.2.2 = some (.getfield 18, 3) := by decide +kernel
theorem pr_39_14 : pj_find 14 pj_m39.2.2.2.2.2.2 = some (.iload_n 1, 1) := by decide +kernel
theorem pr_39_15 : pj_find 15 pj_m39.2.2.2.2.2.2 = some (.iaload, 1) := by decide +kernel
theorem pr_39_16 : pj_find 16 pj_m39.2.2.2.2.2.2 = some (.goto 4, 3) := by decide +kernel
theorem pr_39_19 : pj_find 19 pj_m39.2.2.2.2.2.2 = some (.iconst 0, 1) := by decide +kernel
theorem pr_39_20 : pj_find 20 pj_m39.2.2.2.2.2.2 = some (.ireturn, 1) := by decide +kernel
theorem pr_40_0 : pj_find 0 pj_m40.2.2.2.2.2.2 = some (.iconst 0, 1) := by decide +kernel
theorem pr_40_1 : pj_find 1 pj_m40.2.2.2.2.2.2 = some (.istore_n 3, 1) := by decide +kernel
theorem pr_40_2 : pj_find 2 pj_m40.2.2.2.2.2.2 = some (.iload_n 3, 1) := by decide +kernel
theorem pr_40_3 : pj_find 3 pj_m40.2.2.2.2.2.2 = some (.bipush 6, 2) := by decide +kernel
theorem pr_40_5 : pj_find 5 pj_m40.2.2.2.2.2.2 = some (.if_icmp .gt 41, 3) := by decide +kernel
theorem pr_40_8 : pj_find 8 pj_m40.2.2.2.2.2.2 = some (.aload_n 0, 1) := by decide +kernel
theorem pr_40_9 : pj_find 9 pj_m40.2.2.2.2.2.2 = some (.getfield 9, 3) := by decide +kernel
theorem pr_40_12 : pj_find 12 pj_m40.2.2.2.2.2.2 = some (.iload_n 3, 1) := by decide +kernel
theorem pr_40_13 : pj_find 13 pj_m40.2.2.2.2.2.2 = some (.iaload, 1) := by decide +kernel
theorem pr_40_14 : pj_find 14 pj_m40.2.2.2.2.2.2 = some (.iload_n 1, 1) := by decide +kernel
theorem pr_40_15 : pj_find 15 pj_m40.2.2.2.2.2.2 = some (.iconst (-1), 1) := by decide +kernel
theorem pr_40_16 : pj_find 16 pj_m40.2.2.2.2.2.2 = some (.ixor, 1) := by decide +kernel
theorem pr_40_17 : pj_find 17 pj_m40.2.2.2.2.2.2 = some (.iand, 1) := by decide +kernel
theorem pr_40_18 : pj_find 18 pj_m40.2.2.2.2.2.2 = some (.istore 4, 2) := by decide +kernel
theorem pr_40_20 : pj_find 20 pj_m40.2.2.2.2.2.2 = some (.aload_n 0, 1) := by decide +kernel
theorem pr_40_21 : pj_find 21 pj_m40.2.2.2.2.2.2 = some (.getfield 9, 3) := by decide +kernel
theorem pr_40_24 : pj_find 24 pj_m40.2.2.2.2.2.2 = some (.iload_n 3, 1) := by decide +kernel
theorem pr_40_25 : pj_find 25 pj_m40.2.2.2.2.2.2 = some (.iload_n 3, 1) := by decide +kernel
theorem pr_40_26 : pj_find 26 pj_m40.2.2.2.2.2.2 = some (.iload_n 2, 1) := by decide +kernel
theorem pr_40_27 : pj_find 27 pj_m40.2.2.2.2.2.2 = some (.if_icmp .ne 10, 3) := by decide +kernel
theorem pr_40_30 : pj_find 30 pj_m40.2.2.2.2.2.2 = some (.iload 4, 2) := by decide +kernel
theorem pr_40_32 : pj_find 32 pj_m40.2.2.2.2.2.2 = some (.iload_n 1, 1) := by decide +kernel
theorem pr_40_33 : pj_find 33 pj_m40.2.2.2.2.2.2 = some (.ior, 1) := by decide +kernel
theorem pr_40_34 : pj_find 34 pj_m40.2.2.2.2.2.2 = some (.goto 5, 3) := by decide +kernel
theorem pr_40_37 : pj_find 37 pj_m40.2.2.2.2.2.2 = some (.iload 4, 2) := by decide +kernel
theorem pr_40_39 : pj_find 39 pj_m40.2.2.2.2.2.2 = some (.iastore, 1) := by decide +kernel
theorem pr_40_40 : pj_find 40 pj_m40.2.2.2.2.2.2 = some (.iinc 3 1, 3) := by decide +kernel
theorem pr_40_43 : pj_find 43 pj_m40.2.2.2.2.2.2 = some (.goto (-41), 3) := by decide +kernel
theorem pr_40_46 : pj_find 46 pj_m40.2.2.2.2.2.2 = some (.return_, 1) := by decide +kernel
theorem pr_41_0 : pj_find 0 pj_m41.2.2.2.2.2.2 = some (.aload_n 0, 1) := by decide +kernel
theorem pr_41_1 : pj_find 1 pj_m41.2.2.2.2.2.2 = some (.iload_n 2, 1) := by decide +kernel
theorem pr_41_2 : pj_find 2 pj_m41.2.2.2.2.2.2 = some (.ifCond .eq 12, 3) := by decide +kernel
theorem pr_41_5 : pj_find 5 pj_m41.2.2.2.2.2.2 = some (.aload_n 0, 1) := by decide +kernel
theorem pr_41_6 : pj_find 6 pj_m41.2.2.2.2.2.2 = some (.getfield 34, 3) := by decide +kernel
theorem pr_41_9 : pj_find 9 pj_m41.2.2.2.2.2.2 = some (.iload_n 1, 1) := by decide +kernel
theorem pr_41_10 : pj_find 10 pj_m41.2.2.2.2.2.2 = some (.ior, 1) := by decide +kernel
theorem pr_41_11 : pj_find 11 pj_m41.2.2.2.2.2.2 = some (.goto 11, 3) := by decide +kernel
theorem pr_41_14 : pj_find 14 pj_m41.2.2.2.2.2.2 = some (.aload_n 0, 1) := by decide +kernel
theorem pr_41_15 : pj_find 15 pj_m41.2.2.2.2.2.2 = some (.getfield 34, 3) := by decide +kernel
theorem pr_41_18 : pj_find 18 pj_m41.2.2.2.2.2.2 = some (.iload_n 1, 1) := by decide +kernel
theorem pr_41_19 : pj_find 19 pj_m41.2.2.2.2.2.2 = some (.iconst (-1), 1) := by decide +kernel
theorem pr_41_20 : pj_find 20 pj_m41.2.2.2.2.2.2 = some (.ixor, 1) := by decide +kernel
theorem pr_41_21 : pj_find 21 pj_m41.2.2.2.2.2.2 = some (.iand, 1) := by decide +kernel
theorem pr_41_22 : pj_find 22 pj_m41.2.2.2.2.2.2 = some (.putfield 34, 3) := by decide +kernel
theorem pr_41_25 : pj_find 25 pj_m41.2.2.2.2.2.2 = some (.return_, 1) := by decide +kernel
theorem pr_42_0 : pj_find 0 pj_m42.2.2.2.2.2.2 = some (.iload_n 1, 1) := by decide +kernel
theorem pr_42_1 : pj_find 1 pj_m42.2.2.2.2.2.2 = some (.ifCond .lt 16, 3) := by decide +kernel
theorem pr_42_4 : pj_find 4 pj_m42.2.2.2.2.2.2 = some (.iload_n 1, 1) := by decide +kernel
theorem pr_42_5 : pj_find 5 pj_m42.2.2.2.2.2.2 = some (.bipush 8, 2) := by decide +kernel
theorem pr_42_7 : pj_find 7 pj_m42.2.2.2.2.2.2 = some (.if_icmp .ge 10, 3) := by decide +kernel
theorem pr_42_10 : pj_find 10 pj_m42.2.2.2.2.2.2 = some (.aload_n 0, 1) := by decide +kernel
theorem pr_42_11 : pj_find 11 pj_m42.2.2.2.2.2.2 = some (.getfield 15, 3) := by decide +kernel
theorem pr_42_14 : pj_find 14 pj_m42.2.2.2.2.2.2 = some (.iload_n 1, 1) := by decide +kernel
theorem pr_42_15 : pj_find 15 pj_m42.2.2.2.2.2.2 = some (.iload_n 2, 1) := by decide +kernel
theorem pr_42_16 : pj_find 16 pj_m42.2.2.2.2.2.2 = some (.iastore, 1) := by decide +kernel
theorem pr_42_17 : pj_find 17 pj_m42.2.2.2.2.2.2 = some (.return_, 1) := by decide +kernel
theorem pr_43_0 : pj_find 0 pj_m43.2.2.2.2.2.2 = some (.iload_n 1, 1) := by decide +kernel
theorem pr_43_1 : pj_find 1 pj_m43.2.2.2.2.2.2 = some (.iconst 1, 1) := by decide +kernel
theorem pr_43_2 : pj_find 2 pj_m43.2.2.2.2.2.2 = some (.if_icmp .lt 15, 3) := by decide +kernel
theorem pr_43_5 : pj_find 5 pj_m43.2.2.2.2.2.2 = some (.iload_n 1, 1) := by decide +kernel
theorem pr_43_6 : pj_find 6 pj_m43.2.2.2.2.2.2 = some (.iconst 5, 1) := by decide +kernel
theorem pr_43_7 : pj_find 7 pj_m43.2.2.2.2.2.2 = some (.if_icmp .gt 10, 3) := by decide +kernel
theorem pr_43_10 : pj_find 10 pj_m43.2.2.2.2.2.2 = some (.aload_n 0, 1) := by decide +kernel
theorem pr_43_11 : pj_find 11 pj_m43.2.2.2.2.2.2 = some (.getfield 18, 3) := by decide +kernel
theorem pr_43_14 : pj_find 14 pj_m43.2.2.2.2.2.2 = some (.iload_n 1, 1) := by decide +kernel
theorem pr_43_15 : pj_find 15 pj_m43.2.2.2.2.2.2 = some (.iload_n 2, 1) := by decide +kernel
theorem pr_43_16 : pj_find 16 pj_m43.2.2.2.2.2.2 = some (.iastore, 1) := by decide +kernel
theorem pr_43_17 : pj_find 17 pj_m43.2.2.2.2.2.2 = some (.return_, 1) := by decide +kernel
theorem pr_44_0 : pj_find 0 pj_m44.2.2.2.2.2.2 = some (.aload_n 0, 1) := by decide +kernel
theorem pr_44_1 : pj_find 1 pj_m44.2.2.2.2.2.2 = some (.dup, 1) := by decide +kernel
theorem pr_44_2 : pj_find 2 pj_m44.2.2.2.2.2.2 = some (.getfield 41, 3) := by decide +kernel
theorem pr_44_5 : pj_find 5 pj_m44.2.2.2.2.2.2 = some (.iconst 1, 1) := by decide +kernel
theorem pr_44_6 : pj_find 6 pj_m44.2.2.2.2.2.2 = some (.iadd, 1) := by decide +kernel
theorem pr_44_7 : pj_find 7 pj_m44.2.2.2.2.2.2 = some (.putfield 41, 3) := by decide +kernel
theorem pr_44_10 : pj_find 10 pj_m44.2.2.2.2.2.2 = some (.iload_n 2, 1) := by decide +kernel
theorem pr_44_11 : pj_find 11 pj_m44.2.2.2.2.2.2 = some (.ifCond .eq 18, 3) := by decide +kernel
theorem pr_44_14 : pj_find 14 pj_m44.2.2.2.2.2.2 = some (.aload_n 0, 1) := by decide +kernel
theorem pr_44_15 : pj_find 15 pj_m44.2.2.2.2.2.2 = some (.dup, 1) := by decide +kernel
theorem pr_44_16 : pj_find 16 pj_m44.2.2.2.2.2.2 = some (.getfield 44, 3) := by decide +kernel
theorem pr_44_19 : pj_find 19 pj_m44.2.2.2.2.2.2 = some (.iconst 1, 1) := by decide +kernel
theorem pr_44_20 : pj_find 20 pj_m44.2.2.2.2.2.2 = some (.iload_n 1, 1) := by decide +kernel
theorem pr_44_21 : pj_find 21 pj_m44.2.2.2.2.2.2 = some (.ishl, 1) := by decide +kernel
theorem pr_44_22 : pj_find 22 pj_m44.2.2.2.2.2.2 = some (.ior, 1) := by decide +kernel
theorem pr_44_23 : pj_find 23 pj_m44.2.2.2.2.2.2 = some (.putfield 44, 3) := by decide +kernel
theorem pr_44_26 : pj_find 26 pj_m44.2.2.2.2.2.2 = some (.goto 15, 3) := by decide +kernel
theorem pr_44_29 : pj_find 29 pj_m44.2.2.2.2.2.2 = some (.aload_n 0, 1) := by decide +kernel
theorem pr_44_30 : pj_find 30 pj_m44.2.2.2.2.2.2 = some (.dup, 1) := by decide +kernel
theorem pr_44_31 : pj_find 31 pj_m44.2.2.2.2.2.2 = some (.getfield 47, 3) := by decide +kernel
theorem pr_44_34 : pj_find 34 pj_m44.2.2.2.2.2.2 = some (.iconst 1, 1) := by decide +kernel
theorem pr_44_35 : pj_find 35 pj_m44.2.2.2.2.2.2 = some (.iload_n 1, 1) := by decide +kernel
theorem pr_44_36 : pj_find 36 pj_m44.2.2.2.2.2.2 = some (.ishl, 1) := by decide +kernel
theorem pr_44_37 : pj_find 37 pj_m44.2.2.2.2.2.2 = some (.ior, 1) := by decide +kernel
theorem pr_44_38 : pj_find 38 pj_m44.2.2.2.2.2.2 = some (.putfield 47, 3) := by decide +kernel
theorem pr_44_41 : pj_find 41 pj_m44.2.2.2.2.2.2 = some (.return_, 1) := by decide +kernel
theorem pr_45_0 : pj_find 0 pj_m45.2.2.2.2.2.2 = some (.aload_n 0, 1) := by decide +kernel
theorem pr_45_1 : pj_find 1 pj_m45.2.2.2.2.2.2 = some (.iconst 0, 1) := by decide +kernel
theorem pr_45_2 : pj_find 2 pj_m45.2.2.2.2.2.2 = some (.putfield 41, 3) := by decide +kernel
theorem pr_45_5 : pj_find 5 pj_m45.2.2.2.2.2.2 = some (.aload_n 0, 1) := by decide +kernel
theorem pr_45_6 : pj_find 6 pj_m45.2.2.2.2.2.2 = some (.iconst 0, 1) := by decide +kernel
theorem pr_45_7 : pj_find 7 pj_m45.2.2.2.2.2.2 = some (.putfield 44, 3) := by decide +kernel
theorem pr_45_10 : pj_find 10 pj_m45.2.2.2.2.2.2 = some (.aload_n 0, 1) := by decide +kernel
theorem pr_45_11 : pj_find 11 pj_m45.2.2.2.2.2.2 = some (.iconst 0, 1) := by decide +kernel
theorem pr_45_12 : pj_find 12 pj_m45.2.2.2.2.2.2 = some (.putfield 47, 3) := by decide +kernel
theorem pr_45_15 : pj_find 15 pj_m45.2.2.2.2.2.2 = some (.return_, 1) := by decide +kernel
theorem pr_46_0 : pj_find 0 pj_m46.2.2.2.2.2.2 = some (.aload_n 0, 1) := by decide +kernel
theorem pr_46_1 : pj_find 1 pj_m46.2.2.2.2.2.2 = some (.getfield 44, 3) := by decide +kernel
theorem pr_46_4 : pj_find 4 pj_m46.2.2.2.2.2.2 = some (.iload_n 1, 1) := by decide +kernel
theorem pr_46_5 : pj_find 5 pj_m46.2.2.2.2.2.2 = some (.iconst (-1), 1) := by decide +kernel
theorem pr_46_6 : pj_find 6 pj_m46.2.2.2.2.2.2 = some (.ixor, 1) := by decide +kernel
theorem pr_46_7 : pj_find 7 pj_m46.2.2.2.2.2.2 = some (.iand, 1) := by decide +kernel
theorem pr_46_8 : pj_find 8 pj_m46.2.2.2.2.2.2 = some (.ifCond .ne 16, 3) := by decide +kernel
theorem pr_46_11 : pj_find 11 pj_m46.2.2.2.2.2.2 = some (.aload_n 0, 1) := by decide +kernel
theorem pr_46_12 : pj_find 12 pj_m46.2.2.2.2.2.2 = some (.getfield 47, 3) := by decide +kernel
theorem pr_46_15 : pj_find 15 pj_m46.2.2.2.2.2.2 = some (.iload_n 1, 1) := by decide +kernel
theorem pr_46_16 : pj_find 16 pj_m46.2.2.2.2.2.2 = some (.iand, 1) := by decide +kernel
theorem pr_46_17 : pj_find 17 pj_m46.2.2.2.2.2.2 = some (.ifCond .ne 7, 3) := by decide +kernel
theorem pr_46_20 : pj_find 20 pj_m46.2.2.2.2.2.2 = some (.iconst 1, 1) := by decide +kernel
theorem pr_46_21 : pj_find 21 pj_m46.2.2.2.2.2.2 = some (.goto 4, 3) := by decide +kernel
theorem pr_46_24 : pj_find 24 pj_m46.2.2.2.2.2.2 = some (.iconst 0, 1) := by decide +kernel
theorem pr_46_25 : pj_find 25 pj_m46.2.2.2.2.2.2 = some (.ireturn, 1) := by decide +kernel
theorem pr_47_0 : pj_find 0 pj_m47.2.2.2.2.2.2 = some (.aload_n 0, 1) := by decide +kernel
theorem pr_47_1 : pj_find 1 pj_m47.2.2.2.2.2.2 = some (.iload_n 1, 1) := by decide +kernel
theorem pr_47_2 : pj_find 2 pj_m47.2.2.2.2.2.2 = some (.invokevirtual 65, 3) := by decide +kernel
theorem pr_47_5 : pj_find 5 pj_m47.2.2.2.2.2.2 = some (.iload_n 2, 1) := by decide +kernel
theorem pr_47_6 : pj_find 6 pj_m47.2.2.2.2.2.2 = some (.invokestatic 68, 3) := by decide +kernel
theorem pr_47_9 : pj_find 9 pj_m47.2.2.2.2.2.2 = some (.istore 4, 2) := by decide +kernel
theorem pr_47_11 : pj_find 11 pj_m47.2.2.2.2.2.2 = some (.iload 4, 2) := by decide +kernel
theorem pr_47_13 : pj_find 13 pj_m47.2.2.2.2.2.2 = some (.invokestatic 60, 3) := by decide +kernel
theorem pr_47_16 : pj_find 16 pj_m47.2.2.2.2.2.2 = some (.istore 5, 2) := by decide +kernel
theorem pr_47_18 : pj_find 18 pj_m47.2.2.2.2.2.2 = some (.iload 5, 2) := by decide +kernel
theorem pr_47_20 : pj_find 20 pj_m47.2.2.2.2.2.2 = some (.ifCond .ne 5, 3) := by decide +kernel
theorem pr_47_23 : pj_find 23 pj_m47.2.2.2.2.2.2 = some (.iconst 1, 1) := by decide +kernel
theorem pr_47_24 : pj_find 24 pj_m47.2.2.2.2.2.2 = some (.ireturn, 1) := by decide +kernel
theorem pr_47_25 : pj_find 25 pj_m47.2.2.2.2.2.2 = some (.aload_n 0, 1) := by decide +kernel
theorem pr_47_26 : pj_find 26 pj_m47.2.2.2.2.2.2 = some (.iload_n 3, 1) := by decide +kernel
theorem pr_47_27 : pj_find 27 pj_m47.2.2.2.2.2.2 = some (.invokevirtual 74, 3) := by decide +kernel
theorem pr_47_30 : pj_find 30 pj_m47.2.2.2.2.2.2 = some (.iload 5, 2) := by decide +kernel
theorem pr_47_32 : pj_find 32 pj_m47.2.2.2.2.2.2 = some (.if_icmp .ge 5, 3) := by decide +kernel
theorem pr_47_35 : pj_find 35 pj_m47.2.2.2.2.2.2 = some (.iconst 2, 1) := by decide +kernel
theorem pr_47_36 : pj_find 36 pj_m47.2.2.2.2.2.2 = some (.ireturn, 1) := by decide +kernel
theorem pr_47_37 : pj_find 37 pj_m47.2.2.2.2.2.2 = some (.iload 4, 2) := by decide +kernel
theorem pr_47_39 : pj_find 39 pj_m47.2.2.2.2.2.2 = some (.aload_n 0, 1) := by decide +kernel
theorem pr_47_40 : pj_find 40 pj_m47.2.2.2.2.2.2 = some (.getfield 34, 3) := by decide +kernel
theorem pr_47_43 : pj_find 43 pj_m47.2.2.2.2.2.2 = some (.iand, 1) := by decide +kernel
theorem pr_47_44 : pj_find 44 pj_m47.2.2.2.2.2.2 = some (.aload_n 0, 1) := by decide +kernel
theorem pr_47_45 : pj_find 45 pj_m47.2.2.2.2.2.2 = some (.iload_n 3, 1) := by decide +kernel
theorem pr_47_46 : pj_find 46 pj_m47.2.2.2.2.2.2 = some (.invokevirtual 56, 3) := by decide +kernel
theorem pr_47_49 : pj_find 49 pj_m47.2.2.2.2.2.2 = some (.iconst (-1), 1) := by decide +kernel
theorem pr_47_50 : pj_find 50 pj_m47.2.2.2.2.2.2 = some (.ixor, 1) := by decide +kernel
theorem pr_47_51 : pj_find 51 pj_m47.2.2.2.2.2.2 = some (.iand, 1) := by decide +kernel
theorem pr_47_52 : pj_find 52 pj_m47.2.2.2.2.2.2 = some (.istore 6, 2) := by decide +kernel
theorem pr_47_54 : pj_find 54 pj_m47.2.2.2.2.2.2 = some (.aload_n 0, 1) := by decide +kernel
theorem pr_47_55 : pj_find 55 pj_m47.2.2.2.2.2.2 = some (.iload 6, 2) := by decide +kernel
theorem pr_47_57 : pj_find 57 pj_m47.2.2.2.2.2.2 = some (.aload_n 0, 1) := by decide +kernel
theorem pr_47_58 : pj_find 58 pj_m47.2.2.2.2.2.2 = some (.bipush 6, 2) := by decide +kernel
theorem pr_47_60 : pj_find 60 pj_m47.2.2.2.2.2.2 = some (.invokevirtual 56, 3) := by decide +kernel
theorem pr_47_63 : pj_find 63 pj_m47.2.2.2.2.2.2 = some (.iconst (-1), 1) := by decide +kernel
theorem pr_47_64 : pj_find 64 pj_m47.2.2.2.2.2.2 = some (.ixor, 1) := by decide +kernel
theorem pr_47_65 : pj_find 65 pj_m47.2.2.2.2.2.2 = some (.iand, 1) := by decide +kernel
theorem pr_47_66 : pj_find 66 pj_m47.2.2.2.2.2.2 = some (.putfield 53, 3) := by decide +kernel
theorem pr_47_69 : pj_find 69 pj_m47.2.2.2.2.2.2 = some (.aload_n 0, 1) := by decide +kernel
theorem pr_47_70 : pj_find 70 pj_m47.2.2.2.2.2.2 = some (.iload 4, 2) := by decide +kernel
theorem pr_47_72 : pj_find 72 pj_m47.2.2.2.2.2.2 = some (.iload_n 3, 1) := by decide +kernel
theorem pr_47_73 : pj_find 73 pj_m47.2.2.2.2.2.2 = some (.invokevirtual 77, 3) := by decide +kernel
theorem pr_47_76 : pj_find 76 pj_m47.2.2.2.2.2.2 = some (.aload_n 0, 1) := by decide +kernel
theorem pr_47_77 : pj_find 77 pj_m47.2.2.2.2.2.2 = some (.iload 6, 2) := by decide +kernel
theorem pr_47_79 : pj_find 79 pj_m47.2.2.2.2.2.2 = some (.bipush 6, 2) := by decide +kernel
theorem pr_47_81 : pj_find 81 pj_m47.2.2.2.2.2.2 = some (.invokevirtual 77, 3) := by decide +kernel
theorem pr_47_84 : pj_find 84 pj_m47.2.2.2.2.2.2 = some (.aload_n 0, 1) := by decide +kernel
theorem pr_47_85 : pj_find 85 pj_m47.2.2.2.2.2.2 = some (.iload 4, 2) := by decide +kernel
theorem pr_47_87 : pj_find 87 pj_m47.2.2.2.2.2.2 = some (.iconst 1, 1) := by decide +kernel
theorem pr_47_88 : pj_find 88 pj_m47.2.2.2.2.2.2 = some (.invokevirtual 81, 3) := by decide +kernel
theorem pr_47_91 : pj_find 91 pj_m47.2.2.2.2.2.2 = some (.aload_n 0, 1) := by decide +kernel
theorem pr_47_92 : pj_find 92 pj_m47.2.2.2.2.2.2 = some (.iload_n 3, 1) := by decide +kernel
theorem pr_47_93 : pj_find 93 pj_m47.2.2.2.2.2.2 = some (.aload_n 0, 1) := by decide +kernel
theorem pr_47_94 : pj_find 94 pj_m47.2.2.2.2.2.2 = some (.iload_n 3, 1) := by decide +kernel
theorem pr_47_95 : pj_find 95 pj_m47.2.2.2.2.2.2 = some (.invokevirtual 74, 3) := by decide +kernel
theorem pr_47_98 : pj_find 98 pj_m47.2.2.2.2.2.2 = some (.iload 5, 2) := by decide +kernel
theorem pr_47_100 : pj_find 100 pj_m47.2.2.2.2.2.2 = some (.isub, 1) := by decide +kernel
theorem pr_47_101 : pj_find 101 pj_m47.2.2.2.2.2.2 = some (.invokevirtual 85, 3) := by decide +kernel
theorem pr_47_104 : pj_find 104 pj_m47.2.2.2.2.2.2 = some (.aload_n 0, 1) := by decide +kernel
theorem pr_47_105 : pj_find 105 pj_m47.2.2.2.2.2.2 = some (.dup, 1) := by decide +kernel
theorem pr_47_106 : pj_find 106 pj_m47.2.2.2.2.2.2 = some (.getfield 50, 3) := by decide +kernel
theorem pr_47_109 : pj_find 109 pj_m47.2.2.2.2.2.2 = some (.iload 5, 2) := by decide +kernel
theorem pr_47_111 : pj_find 111 pj_m47.2.2.2.2.2.2 = some (.iadd, 1) := by decide +kernel
theorem pr_47_112 : pj_find 112 pj_m47.2.2.2.2.2.2 = some (.putfield 50, 3) := by decide +kernel
theorem pr_47_115 : pj_find 115 pj_m47.2.2.2.2.2.2 = some (.iconst 0, 1) := by decide +kernel
theorem pr_47_116 : pj_find 116 pj_m47.2.2.2.2.2.2 = some (.ireturn, 1) := by decide +kernel
theorem pr_48_0 : pj_find 0 pj_m48.2.2.2.2.2.2 = some (.aload_n 0, 1) := by decide +kernel
theorem pr_48_1 : pj_find 1 pj_m48.2.2.2.2.2.2 = some (.iload_n 1, 1) := by decide +kernel
theorem pr_48_2 : pj_find 2 pj_m48.2.2.2.2.2.2 = some (.invokevirtual 65, 3) := by decide +kernel
theorem pr_48_5 : pj_find 5 pj_m48.2.2.2.2.2.2 = some (.invokestatic 87, 3) := by decide +kernel
theorem pr_48_8 : pj_find 8 pj_m48.2.2.2.2.2.2 = some (.istore_n 2, 1) := by decide +kernel
theorem pr_48_9 : pj_find 9 pj_m48.2.2.2.2.2.2 = some (.iload_n 2, 1) := by decide +kernel
theorem pr_48_10 : pj_find 10 pj_m48.2.2.2.2.2.2 = some (.aload_n 0, 1) := by decide +kernel
theorem pr_48_11 : pj_find 11 pj_m48.2.2.2.2.2.2 = some (.iload_n 1, 1) := by decide +kernel
theorem pr_48_12 : pj_find 12 pj_m48.2.2.2.2.2.2 = some (.invokevirtual 65, 3) := by decide +kernel
theorem pr_48_15 : pj_find 15 pj_m48.2.2.2.2.2.2 = some (.if_icmp .ne 5, 3) := by decide +kernel
theorem pr_48_18 : pj_find 18 pj_m48.2.2.2.2.2.2 = some (.iconst 3, 1) := by decide +kernel
theorem pr_48_19 : pj_find 19 pj_m48.2.2.2.2.2.2 = some (.ireturn, 1) := by decide +kernel
theorem pr_48_20 : pj_find 20 pj_m48.2.2.2.2.2.2 = some (.aload_n 0, 1) := by decide +kernel
theorem pr_48_21 : pj_find 21 pj_m48.2.2.2.2.2.2 = some (.iload_n 1, 1) := by decide +kernel
theorem pr_48_22 : pj_find 22 pj_m48.2.2.2.2.2.2 = some (.iload_n 2, 1) := by decide +kernel
theorem pr_48_23 : pj_find 23 pj_m48.2.2.2.2.2.2 = some (.invokevirtual 90, 3) := by decide +kernel
theorem pr_48_26 : pj_find 26 pj_m48.2.2.2.2.2.2 = some (.iconst 0, 1) := by decide +kernel
theorem pr_48_27 : pj_find 27 pj_m48.2.2.2.2.2.2 = some (.ireturn, 1) := by decide +kernel
theorem pr_49_0 : pj_find 0 pj_m49.2.2.2.2.2.2 = some (.aload_n 0, 1) := by decide +kernel
theorem pr_49_1 : pj_find 1 pj_m49.2.2.2.2.2.2 = some (.iload_n 1, 1) := by decide +kernel
theorem pr_49_2 : pj_find 2 pj_m49.2.2.2.2.2.2 = some (.invokevirtual 93, 3) := by decide +kernel
theorem pr_49_5 : pj_find 5 pj_m49.2.2.2.2.2.2 = some (.ifCond .ne 5, 3) := by decide +kernel
theorem pr_49_8 : pj_find 8 pj_m49.2.2.2.2.2.2 = some (.iconst 4, 1) := by decide +kernel
theorem pr_49_9 : pj_find 9 pj_m49.2.2.2.2.2.2 = some (.ireturn, 1) := by decide +kernel
theorem pr_49_10 : pj_find 10 pj_m49.2.2.2.2.2.2 = some (.aload_n 0, 1) := by decide +kernel
theorem pr_49_11 : pj_find 11 pj_m49.2.2.2.2.2.2 = some (.iconst 1, 1) := by decide +kernel
theorem pr_49_12 : pj_find 12 pj_m49.2.2.2.2.2.2 = some (.iload_n 1, 1) := by decide +kernel
theorem pr_49_13 : pj_find 13 pj_m49.2.2.2.2.2.2 = some (.ishl, 1) := by decide +kernel
theorem pr_49_14 : pj_find 14 pj_m49.2.2.2.2.2.2 = some (.iconst 0, 1) := by decide +kernel
theorem pr_49_15 : pj_find 15 pj_m49.2.2.2.2.2.2 = some (.invokevirtual 77, 3) := by decide +kernel
theorem pr_49_18 : pj_find 18 pj_m49.2.2.2.2.2.2 = some (.aload_n 0, 1) := by decide +kernel
theorem pr_49_19 : pj_find 19 pj_m49.2.2.2.2.2.2 = some (.iconst 1, 1) := by decide +kernel
theorem pr_49_20 : pj_find 20 pj_m49.2.2.2.2.2.2 = some (.iload_n 1, 1) := by decide +kernel
theorem pr_49_21 : pj_find 21 pj_m49.2.2.2.2.2.2 = some (.ishl, 1) := by decide +kernel
theorem pr_49_22 : pj_find 22 pj_m49.2.2.2.2.2.2 = some (.iconst 0, 1) := by decide +kernel
theorem pr_49_23 : pj_find 23 pj_m49.2.2.2.2.2.2 = some (.invokevirtual 81, 3) := by decide +kernel
theorem pr_49_26 : pj_find 26 pj_m49.2.2.2.2.2.2 = some (.iconst 0, 1) := by decide +kernel
theorem pr_49_27 : pj_find 27 pj_m49.2.2.2.2.2.2 = some (.ireturn, 1) := by decide +kernel
theorem pr_50_0 : pj_find 0 pj_m50.2.2.2.2.2.2 = some (.aload_n 0, 1) := by decide +kernel
theorem pr_50_1 : pj_find 1 pj_m50.2.2.2.2.2.2 = some (.getfield 38, 3) := by decide +kernel
theorem pr_50_4 : pj_find 4 pj_m50.2.2.2.2.2.2 = some (.bipush 99, 2) := by decide +kernel
theorem pr_50_6 : pj_find 6 pj_m50.2.2.2.2.2.2 = some (.if_icmp .lt 5, 3) := by decide +kernel
theorem pr_50_9 : pj_find 9 pj_m50.2.2.2.2.2.2 = some (.iconst 5, 1) := by decide +kernel
theorem pr_50_10 : pj_find 10 pj_m50.2.2.2.2.2.2 = some (.ireturn, 1) := by decide +kernel
theorem pr_50_11 : pj_find 11 pj_m50.2.2.2.2.2.2 = some (.aload_n 0, 1) := by decide +kernel
theorem pr_50_12 : pj_find 12 pj_m50.2.2.2.2.2.2 = some (.dup, 1) := by decide +kernel
theorem pr_50_13 : pj_find 13 pj_m50.2.2.2.2.2.2 = some (.getfield 38, 3) := by decide +kernel
theorem pr_50_16 : pj_find 16 pj_m50.2.2.2.2.2.2 = some (.iconst 1, 1) := by decide +kernel
theorem pr_50_17 : pj_find 17 pj_m50.2.2.2.2.2.2 = some (.iadd, 1) := by decide +kernel
theorem pr_50_18 : pj_find 18 pj_m50.2.2.2.2.2.2 = some (.putfield 38, 3) := by decide +kernel
theorem pr_50_21 : pj_find 21 pj_m50.2.2.2.2.2.2 = some (.aload_n 0, 1) := by decide +kernel
theorem pr_50_22 : pj_find 22 pj_m50.2.2.2.2.2.2 = some (.iconst 0, 1) := by decide +kernel
theorem pr_50_23 : pj_find 23 pj_m50.2.2.2.2.2.2 = some (.putfield 34, 3) := by decide +kernel
theorem pr_50_26 : pj_find 26 pj_m50.2.2.2.2.2.2 = some (.iconst 0, 1) := by decide +kernel
theorem pr_50_27 : pj_find 27 pj_m50.2.2.2.2.2.2 = some (.ireturn, 1) := by decide +kernel
theorem pr_51_0 : pj_find 0 pj_m51.2.2.2.2.2.2 = some (.iconst 0, 1) := by decide +kernel
theorem pr_51_1 : pj_find 1 pj_m51.2.2.2.2.2.2 = some (.istore_n 1, 1) := by decide +kernel
theorem pr_51_2 : pj_find 2 pj_m51.2.2.2.2.2.2 = some (.iconst 1, 1) := by decide +kernel
theorem pr_51_3 : pj_find 3 pj_m51.2.2.2.2.2.2 = some (.istore_n 2, 1) := by decide +kernel
theorem pr_51_4 : pj_find 4 pj_m51.2.2.2.2.2.2 = some (.iload_n 2, 1) := by decide +kernel
theorem pr_51_5 : pj_find 5 pj_m51.2.2.2.2.2.2 = some (.bipush 6, 2) := by decide +kernel
theorem pr_51_7 : pj_find 7 pj_m51.2.2.2.2.2.2 = some (.if_icmp .gt 59, 3) := by decide +kernel
theorem pr_51_10 : pj_find 10 pj_m51.2.2.2.2.2.2 = some (.aload_n 0, 1) := by decide +kernel
theorem pr_51_11 : pj_find 11 pj_m51.2.2.2.2.2.2 = some (.iload_n 2, 1) := by decide +kernel
theorem pr_51_12 : pj_find 12 pj_m51.2.2.2.2.2.2 = some (.invokevirtual 9, 3) := by decide +kernel
theorem pr_51_15 : pj_find 15 pj_m51.2.2.2.2.2.2 = some (.istore_n 3, 1) := by decide +kernel
theorem pr_51_16 : pj_find 16 pj_m51.2.2.2.2.2.2 = some (.iconst 0, 1) := by decide +kernel
theorem pr_51_17 : pj_find 17 pj_m51.2.2.2.2.2.2 = some (.istore 4, 2) := by decide +kernel
theorem pr_51_19 : pj_find 19 pj_m51.2.2.2.2.2.2 = some (.iload 4, 2) := by decide +kernel
theorem pr_51_21 : pj_find 21 pj_m51.2.2.2.2.2.2 = some (.bipush 16, 2) := by decide +kernel
theorem pr_51_23 : pj_find 23 pj_m51.2.2.2.2.2.2 = some (.if_icmp .ge 37, 3) := by decide +kernel
theorem pr_51_26 : pj_find 26 pj_m51.2.2.2.2.2.2 = some (.iload_n 3, 1) := by decide +kernel
theorem pr_51_27 : pj_find 27 pj_m51.2.2.2.2.2.2 = some (.ifCond .eq 33, 3) := by decide +kernel
theorem pr_51_30 : pj_find 30 pj_m51.2.2.2.2.2.2 = some (.iload_n 3, 1) := by decide +kernel
theorem pr_51_31 : pj_find 31 pj_m51.2.2.2.2.2.2 = some (.iload_n 3, 1) := by decide +kernel
theorem pr_51_32 : pj_find 32 pj_m51.2.2.2.2.2.2 = some (.ineg, 1) := by decide +kernel
theorem pr_51_33 : pj_find 33 pj_m51.2.2.2.2.2.2 = some (.iand, 1) := by decide +kernel
theorem pr_51_34 : pj_find 34 pj_m51.2.2.2.2.2.2 = some (.iload_n 3, 1) := by decide +kernel
theorem pr_51_35 : pj_find 35 pj_m51.2.2.2.2.2.2 = some (.invokestatic 15, 3) := by decide +kernel
theorem pr_51_38 : pj_find 38 pj_m51.2.2.2.2.2.2 = some (.istore 5, 2) := by decide +kernel
theorem pr_51_40 : pj_find 40 pj_m51.2.2.2.2.2.2 = some (.iload_n 1, 1) := by decide +kernel
theorem pr_51_41 : pj_find 41 pj_m51.2.2.2.2.2.2 = some (.iload 5, 2) := by decide +kernel
theorem pr_51_43 : pj_find 43 pj_m51.2.2.2.2.2.2 = some (.invokestatic 21, 3) := by decide +kernel
theorem pr_51_46 : pj_find 46 pj_m51.2.2.2.2.2.2 = some (.istore_n 1, 1) := by decide +kernel
theorem pr_51_47 : pj_find 47 pj_m51.2.2.2.2.2.2 = some (.iload_n 3, 1) := by decide +kernel
theorem pr_51_48 : pj_find 48 pj_m51.2.2.2.2.2.2 = some (.iload 5, 2) := by decide +kernel
theorem pr_51_50 : pj_find 50 pj_m51.2.2.2.2.2.2 = some (.iconst (-1), 1) := by decide +kernel
theorem pr_51_51 : pj_find 51 pj_m51.2.2.2.2.2.2 = some (.ixor, 1) := by decide +kernel
theorem pr_51_52 : pj_find 52 pj_m51.2.2.2.2.2.2 = some (.iand, 1) := by decide +kernel
theorem pr_51_53 : pj_find 53 pj_m51.2.2.2.2.2.2 = some (.istore_n 3, 1) := by decide +kernel
theorem pr_51_54 : pj_find 54 pj_m51.2.2.2.2.2.2 = some (.iinc 4 1, 3) := by decide +kernel
theorem pr_51_57 : pj_find 57 pj_m51.2.2.2.2.2.2 = some (.goto (-38), 3) := by decide +kernel
theorem pr_51_60 : pj_find 60 pj_m51.2.2.2.2.2.2 = some (.iinc 2 1, 3) := by decide +kernel
theorem pr_51_63 : pj_find 63 pj_m51.2.2.2.2.2.2 = some (.goto (-59), 3) := by decide +kernel
theorem pr_51_66 : pj_find 66 pj_m51.2.2.2.2.2.2 = some (.iload_n 1, 1) := by decide +kernel
theorem pr_51_67 : pj_find 67 pj_m51.2.2.2.2.2.2 = some (.ireturn, 1) := by decide +kernel
theorem pr_52_0 : pj_find 0 pj_m52.2.2.2.2.2.2 = some (.iload_n 0, 1) := by decide +kernel
theorem pr_52_1 : pj_find 1 pj_m52.2.2.2.2.2.2 = some (.istore_n 2, 1) := by decide +kernel
theorem pr_52_2 : pj_find 2 pj_m52.2.2.2.2.2.2 = some (.iconst 0, 1) := by decide +kernel
theorem pr_52_3 : pj_find 3 pj_m52.2.2.2.2.2.2 = some (.istore_n 3, 1) := by decide +kernel
theorem pr_52_4 : pj_find 4 pj_m52.2.2.2.2.2.2 = some (.iload_n 3, 1) := by decide +kernel
theorem pr_52_5 : pj_find 5 pj_m52.2.2.2.2.2.2 = some (.bipush 16, 2) := by decide +kernel
theorem pr_52_7 : pj_find 7 pj_m52.2.2.2.2.2.2 = some (.if_icmp .ge 18, 3) := by decide +kernel
theorem pr_52_10 : pj_find 10 pj_m52.2.2.2.2.2.2 = some (.iload_n 2, 1) := by decide +kernel
theorem pr_52_11 : pj_find 11 pj_m52.2.2.2.2.2.2 = some (.iload_n 2, 1) := by decide +kernel
theorem pr_52_12 : pj_find 12 pj_m52.2.2.2.2.2.2 = some (.invokestatic 24, 3) := by decide +kernel
theorem pr_52_15 : pj_find 15 pj_m52.2.2.2.2.2.2 = some (.iload_n 1, 1) := by decide +kernel
theorem pr_52_16 : pj_find 16 pj_m52.2.2.2.2.2.2 = some (.iand, 1) := by decide +kernel
theorem pr_52_17 : pj_find 17 pj_m52.2.2.2.2.2.2 = some (.ior, 1) := by decide +kernel
theorem pr_52_18 : pj_find 18 pj_m52.2.2.2.2.2.2 = some (.istore_n 2, 1) := by decide +kernel
theorem pr_52_19 : pj_find 19 pj_m52.2.2.2.2.2.2 = some (.iinc 3 1, 3) := by decide +kernel
theorem pr_52_22 : pj_find 22 pj_m52.2.2.2.2.2.2 = some (.goto (-18), 3) := by decide +kernel
theorem pr_52_25 : pj_find 25 pj_m52.2.2.2.2.2.2 = some (.iload_n 2, 1) := by decide +kernel
theorem pr_52_26 : pj_find 26 pj_m52.2.2.2.2.2.2 = some (.ireturn, 1) := by decide +kernel
theorem pr_53_0 : pj_find 0 pj_m53.2.2.2.2.2.2 = some (.iload_n 0, 1) := by decide +kernel
theorem pr_53_1 : pj_find 1 pj_m53.2.2.2.2.2.2 = some (.ldc 27, 2) := by decide +kernel
theorem pr_53_3 : pj_find 3 pj_m53.2.2.2.2.2.2 = some (.iand, 1) := by decide +kernel
theorem pr_53_4 : pj_find 4 pj_m53.2.2.2.2.2.2 = some (.iconst 1, 1) := by decide +kernel
theorem pr_53_5 : pj_find 5 pj_m53.2.2.2.2.2.2 = some (.ishl, 1) := by decide +kernel
theorem pr_53_6 : pj_find 6 pj_m53.2.2.2.2.2.2 = some (.iload_n 0, 1) := by decide +kernel
theorem pr_53_7 : pj_find 7 pj_m53.2.2.2.2.2.2 = some (.sipush (-4370), 3) := by decide +kernel
theorem pr_53_10 : pj_find 10 pj_m53.2.2.2.2.2.2 = some (.iand, 1) := by decide +kernel
theorem pr_53_11 : pj_find 11 pj_m53.2.2.2.2.2.2 = some (.iconst 1, 1) := by decide +kernel
theorem pr_53_12 : pj_find 12 pj_m53.2.2.2.2.2.2 = some (.ishr, 1) := by decide +kernel
theorem pr_53_13 : pj_find 13 pj_m53.2.2.2.2.2.2 = some (.ior, 1) := by decide +kernel
theorem pr_53_14 : pj_find 14 pj_m53.2.2.2.2.2.2 = some (.istore_n 1, 1) := by decide +kernel
theorem pr_53_15 : pj_find 15 pj_m53.2.2.2.2.2.2 = some (.iload_n 1, 1) := by decide +kernel
theorem pr_53_16 : pj_find 16 pj_m53.2.2.2.2.2.2 = some (.iload_n 0, 1) := by decide +kernel
theorem pr_53_17 : pj_find 17 pj_m53.2.2.2.2.2.2 = some (.iconst 4, 1) := by decide +kernel
theorem pr_53_18 : pj_find 18 pj_m53.2.2.2.2.2.2 = some (.ishl, 1) := by decide +kernel
theorem pr_53_19 : pj_find 19 pj_m53.2.2.2.2.2.2 = some (.ior, 1) := by decide +kernel
theorem pr_53_20 : pj_find 20 pj_m53.2.2.2.2.2.2 = some (.iload_n 0, 1) := by decide +kernel
theorem pr_53_21 : pj_find 21 pj_m53.2.2.2.2.2.2 = some (.iconst 4, 1) := by decide +kernel
theorem pr_53_22 : pj_find 22 pj_m53.2.2.2.2.2.2 = some (.ishr, 1) := by decide +kernel
theorem pr_53_23 : pj_find 23 pj_m53.2.2.2.2.2.2 = some (.ior, 1) := by decide +kernel
theorem pr_53_24 : pj_find 24 pj_m53.2.2.2.2.2.2 = some (.ireturn, 1) := by decide +kernel
theorem pr_54_0 : pj_find 0 pj_m54.2.2.2.2.2.2 = some (.iconst 0, 1) := by decide +kernel
theorem pr_54_1 : pj_find 1 pj_m54.2.2.2.2.2.2 = some (.istore_n 1, 1) := by decide +kernel
theorem pr_54_2 : pj_find 2 pj_m54.2.2.2.2.2.2 = some (.iconst 0, 1) := by decide +kernel
theorem pr_54_3 : pj_find 3 pj_m54.2.2.2.2.2.2 = some (.istore_n 2, 1) := by decide +kernel
theorem pr_54_4 : pj_find 4 pj_m54.2.2.2.2.2.2 = some (.iload_n 2, 1) := by decide +kernel
theorem pr_54_5 : pj_find 5 pj_m54.2.2.2.2.2.2 = some (.iconst 4, 1) := by decide +kernel
theorem pr_54_6 : pj_find 6 pj_m54.2.2.2.2.2.2 = some (.if_icmp .ge 44, 3) := by decide +kernel
theorem pr_54_9 : pj_find 9 pj_m54.2.2.2.2.2.2 = some (.iload_n 2, 1) := by decide +kernel
theorem pr_54_10 : pj_find 10 pj_m54.2.2.2.2.2.2 = some (.istore_n 3, 1) := by decide +kernel
theorem pr_54_11 : pj_find 11 pj_m54.2.2.2.2.2.2 = some (.iload_n 3, 1) := by decide +kernel
theorem pr_54_12 : pj_find 12 pj_m54.2.2.2.2.2.2 = some (.iconst 4, 1) := by decide +kernel
theorem pr_54_13 : pj_find 13 pj_m54.2.2.2.2.2.2 = some (.if_icmp .ge 31, 3) := by decide +kernel
theorem pr_54_16 : pj_find 16 pj_m54.2.2.2.2.2.2 = some (.iconst 1, 1) := by decide +kernel
theorem pr_54_17 : pj_find 17 pj_m54.2.2.2.2.2.2 = some (.iload_n 3, 1) := by decide +kernel
theorem pr_54_18 : pj_find 18 pj_m54.2.2.2.2.2.2 = some (.iconst 1, 1) := by decide +kernel
theorem pr_54_19 : pj_find 19 pj_m54.2.2.2.2.2.2 = some (.iadd, 1) := by decide +kernel
theorem pr_54_20 : pj_find 20 pj_m54.2.2.2.2.2.2 = some (.ishl, 1) := by decide +kernel
theorem pr_54_21 : pj_find 21 pj_m54.2.2.2.2.2.2 = some (.iconst 1, 1) := by decide +kernel
theorem pr_54_22 : pj_find 22 pj_m54.2.2.2.2.2.2 = some (.iload_n 2, 1) := by decide +kernel
theorem pr_54_23 : pj_find 23 pj_m54.2.2.2.2.2.2 = some (.ishl, 1) := by decide +kernel
theorem pr_54_24 : pj_find 24 pj_m54.2.2.2.2.2.2 = some (.isub, 1) := by decide +kernel
theorem pr_54_25 : pj_find 25 pj_m54.2.2.2.2.2.2 = some (.istore 4, 2) := by decide +kernel
theorem pr_54_27 : pj_find 27 pj_m54.2.2.2.2.2.2 = some (.iload_n 1, 1) := by decide +kernel
theorem pr_54_28 : pj_find 28 pj_m54.2.2.2.2.2.2 = some (.iload 4, 2) := by decide +kernel
theorem pr_54_30 : pj_find 30 pj_m54.2.2.2.2.2.2 = some (.aload_n 0, 1) := by decide +kernel
theorem pr_54_31 : pj_find 31 pj_m54.2.2.2.2.2.2 = some (.invokestatic 28, 3) := by decide +kernel
theorem pr_54_34 : pj_find 34 pj_m54.2.2.2.2.2.2 = some (.invokestatic 21, 3) := by decide +kernel
theorem pr_54_37 : pj_find 37 pj_m54.2.2.2.2.2.2 = some (.istore_n 1, 1) := by decide +kernel
theorem pr_54_38 : pj_find 38 pj_m54.2.2.2.2.2.2 = some (.iinc 3 1, 3) := by decide +kernel
theorem pr_54_41 : pj_find 41 pj_m54.2.2.2.2.2.2 = some (.goto (-30), 3) := by decide +kernel
theorem pr_54_44 : pj_find 44 pj_m54.2.2.2.2.2.2 = some (.iinc 2 1, 3) := by decide +kernel
theorem pr_54_47 : pj_find 47 pj_m54.2.2.2.2.2.2 = some (.goto (-43), 3) := by decide +kernel
theorem pr_54_50 : pj_find 50 pj_m54.2.2.2.2.2.2 = some (.iload_n 1, 1) := by decide +kernel
theorem pr_54_51 : pj_find 51 pj_m54.2.2.2.2.2.2 = some (.ireturn, 1) := by decide +kernel
theorem pr_55_0 : pj_find 0 pj_m55.2.2.2.2.2.2 = some (.iconst 0, 1) := by decide +kernel
theorem pr_55_1 : pj_find 1 pj_m55.2.2.2.2.2.2 = some (.istore_n 2, 1) := by decide +kernel
theorem pr_55_2 : pj_find 2 pj_m55.2.2.2.2.2.2 = some (.iconst 0, 1) := by decide +kernel
theorem pr_55_3 : pj_find 3 pj_m55.2.2.2.2.2.2 = some (.istore_n 3, 1) := by decide +kernel
theorem pr_55_4 : pj_find 4 pj_m55.2.2.2.2.2.2 = some (.iload_n 3, 1) := by decide +kernel
theorem pr_55_5 : pj_find 5 pj_m55.2.2.2.2.2.2 = some (.iconst 4, 1) := by decide +kernel
theorem pr_55_6 : pj_find 6 pj_m55.2.2.2.2.2.2 = some (.if_icmp .ge 54, 3) := by decide +kernel
theorem pr_55_9 : pj_find 9 pj_m55.2.2.2.2.2.2 = some (.iconst 0, 1) := by decide +kernel
theorem pr_55_10 : pj_find 10 pj_m55.2.2.2.2.2.2 = some (.istore 4, 2) := by decide +kernel
theorem pr_55_12 : pj_find 12 pj_m55.2.2.2.2.2.2 = some (.iload_n 3, 1) := by decide +kernel
theorem pr_55_13 : pj_find 13 pj_m55.2.2.2.2.2.2 = some (.istore 5, 2) := by decide +kernel
theorem pr_55_15 : pj_find 15 pj_m55.2.2.2.2.2.2 = some (.iload 5, 2) := by decide +kernel
theorem pr_55_17 : pj_find 17 pj_m55.2.2.2.2.2.2 = some (.iconst 4, 1) := by decide +kernel
theorem pr_55_18 : pj_find 18 pj_m55.2.2.2.2.2.2 = some (.if_icmp .ge 36, 3) := by decide +kernel
theorem pr_55_21 : pj_find 21 pj_m55.2.2.2.2.2.2 = some (.iload 4, 2) := by decide +kernel
theorem pr_55_23 : pj_find 23 pj_m55.2.2.2.2.2.2 = some (.iload_n 0, 1) := by decide +kernel
theorem pr_55_24 : pj_find 24 pj_m55.2.2.2.2.2.2 = some (.iconst 4, 1) := by decide +kernel
theorem pr_55_25 : pj_find 25 pj_m55.2.2.2.2.2.2 = some (.iload 5, 2) := by decide +kernel
theorem pr_55_27 : pj_find 27 pj_m55.2.2.2.2.2.2 = some (.imul, 1) := by decide +kernel
theorem pr_55_28 : pj_find 28 pj_m55.2.2.2.2.2.2 = some (.ishl, 1) := by decide +kernel
theorem pr_55_29 : pj_find 29 pj_m55.2.2.2.2.2.2 = some (.ior, 1) := by decide +kernel
theorem pr_55_30 : pj_find 30 pj_m55.2.2.2.2.2.2 = some (.istore 4, 2) := by decide +kernel
theorem pr_55_32 : pj_find 32 pj_m55.2.2.2.2.2.2 = some (.iload 4, 2) := by decide +kernel
theorem pr_55_34 : pj_find 34 pj_m55.2.2.2.2.2.2 = some (.aload_n 1, 1) := by decide +kernel
theorem pr_55_35 : pj_find 35 pj_m55.2.2.2.2.2.2 = some (.invokestatic 32, 3) := by decide +kernel
theorem pr_55_38 : pj_find 38 pj_m55.2.2.2.2.2.2 = some (.ifCond .eq 10, 3) := by decide +kernel
theorem pr_55_41 : pj_find 41 pj_m55.2.2.2.2.2.2 = some (.iload_n 2, 1) := by decide +kernel
theorem pr_55_42 : pj_find 42 pj_m55.2.2.2.2.2.2 = some (.iload 4, 2) := by decide +kernel
theorem pr_55_44 : pj_find 44 pj_m55.2.2.2.2.2.2 = some (.invokestatic 21, 3) := by decide +kernel
theorem pr_55_47 : pj_find 47 pj_m55.2.2.2.2.2.2 = some (.istore_n 2, 1) := by decide +kernel
theorem pr_55_48 : pj_find 48 pj_m55.2.2.2.2.2.2 = some (.iinc 5 1, 3) := by decide +kernel
theorem pr_55_51 : pj_find 51 pj_m55.2.2.2.2.2.2 = some (.goto (-36), 3) := by decide +kernel
theorem pr_55_54 : pj_find 54 pj_m55.2.2.2.2.2.2 = some (.iinc 3 1, 3) := by decide +kernel
theorem pr_55_57 : pj_find 57 pj_m55.2.2.2.2.2.2 = some (.goto (-53), 3) := by decide +kernel
theorem pr_55_60 : pj_find 60 pj_m55.2.2.2.2.2.2 = some (.iload_n 2, 1) := by decide +kernel
theorem pr_55_61 : pj_find 61 pj_m55.2.2.2.2.2.2 = some (.ireturn, 1) := by decide +kernel
theorem pr_56_0 : pj_find 0 pj_m56.2.2.2.2.2.2 = some (.iconst 1, 1) := by decide +kernel
theorem pr_56_1 : pj_find 1 pj_m56.2.2.2.2.2.2 = some (.istore_n 2, 1) := by decide +kernel
theorem pr_56_2 : pj_find 2 pj_m56.2.2.2.2.2.2 = some (.iload_n 2, 1) := by decide +kernel
theorem pr_56_3 : pj_find 3 pj_m56.2.2.2.2.2.2 = some (.bipush 6, 2) := by decide +kernel
theorem pr_56_5 : pj_find 5 pj_m56.2.2.2.2.2.2 = some (.if_icmp .gt 23, 3) := by decide +kernel
theorem pr_56_8 : pj_find 8 pj_m56.2.2.2.2.2.2 = some (.iload_n 0, 1) := by decide +kernel
theorem pr_56_9 : pj_find 9 pj_m56.2.2.2.2.2.2 = some (.aload_n 1, 1) := by decide +kernel
theorem pr_56_10 : pj_find 10 pj_m56.2.2.2.2.2.2 = some (.iload_n 2, 1) := by decide +kernel
theorem pr_56_11 : pj_find 11 pj_m56.2.2.2.2.2.2 = some (.invokevirtual 9, 3) := by decide +kernel
theorem pr_56_14 : pj_find 14 pj_m56.2.2.2.2.2.2 = some (.iconst (-1), 1) := by decide +kernel
theorem pr_56_15 : pj_find 15 pj_m56.2.2.2.2.2.2 = some (.ixor, 1) := by decide +kernel
theorem pr_56_16 : pj_find 16 pj_m56.2.2.2.2.2.2 = some (.iand, 1) := by decide +kernel
theorem pr_56_17 : pj_find 17 pj_m56.2.2.2.2.2.2 = some (.ifCond .ne 5, 3) := by decide +kernel
theorem pr_56_20 : pj_find 20 pj_m56.2.2.2.2.2.2 = some (.iconst 1, 1) := by decide +kernel
theorem pr_56_21 : pj_find 21 pj_m56.2.2.2.2.2.2 = some (.ireturn, 1) := by decide +kernel
theorem pr_56_22 : pj_find 22 pj_m56.2.2.2.2.2.2 = some (.iinc 2 1, 3) := by decide +kernel
theorem pr_56_25 : pj_find 25 pj_m56.2.2.2.2.2.2 = some (.goto (-23), 3) := by decide +kernel
theorem pr_56_28 : pj_find 28 pj_m56.2.2.2.2.2.2 = some (.iconst 0, 1) := by decide +kernel
theorem pr_56_29 : pj_find 29 pj_m56.2.2.2.2.2.2 = some (.ireturn, 1) := by decide +kernel
theorem pr_57_0 : pj_find 0 pj_m57.2.2.2.2.2.2 = some (.iload_n 0, 1) := by decide +kernel
theorem pr_57_1 : pj_find 1 pj_m57.2.2.2.2.2.2 = some (.invokestatic 36, 3) := by decide +kernel
theorem pr_57_4 : pj_find 4 pj_m57.2.2.2.2.2.2 = some (.iload_n 1, 1) := by decide +kernel
theorem pr_57_5 : pj_find 5 pj_m57.2.2.2.2.2.2 = some (.invokestatic 36, 3) := by decide +kernel
theorem pr_57_8 : pj_find 8 pj_m57.2.2.2.2.2.2 = some (.isub, 1) := by decide +kernel
theorem pr_57_9 : pj_find 9 pj_m57.2.2.2.2.2.2 = some (.istore_n 2, 1) := by decide +kernel
theorem pr_57_10 : pj_find 10 pj_m57.2.2.2.2.2.2 = some (.iload_n 2, 1) := by decide +kernel
theorem pr_57_11 : pj_find 11 pj_m57.2.2.2.2.2.2 = some (.ifCond .ne 9, 3) := by decide +kernel
theorem pr_57_14 : pj_find 14 pj_m57.2.2.2.2.2.2 = some (.iload_n 0, 1) := by decide +kernel
theorem pr_57_15 : pj_find 15 pj_m57.2.2.2.2.2.2 = some (.iload_n 1, 1) := by decide +kernel
theorem pr_57_16 : pj_find 16 pj_m57.2.2.2.2.2.2 = some (.invokestatic 41, 3) := by decide +kernel
theorem pr_57_19 : pj_find 19 pj_m57.2.2.2.2.2.2 = some (.ireturn, 1) := by decide +kernel
theorem pr_57_20 : pj_find 20 pj_m57.2.2.2.2.2.2 = some (.iload_n 2, 1) := by decide +kernel
theorem pr_57_21 : pj_find 21 pj_m57.2.2.2.2.2.2 = some (.ifCond .le 7, 3) := by decide +kernel
theorem pr_57_24 : pj_find 24 pj_m57.2.2.2.2.2.2 = some (.iload_n 0, 1) := by decide +kernel
theorem pr_57_25 : pj_find 25 pj_m57.2.2.2.2.2.2 = some (.goto 4, 3) := by decide +kernel
theorem pr_57_28 : pj_find 28 pj_m57.2.2.2.2.2.2 = some (.iload_n 1, 1) := by decide +kernel
theorem pr_57_29 : pj_find 29 pj_m57.2.2.2.2.2.2 = some (.ireturn, 1) := by decide +kernel
theorem pr_58_0 : pj_find 0 pj_m58.2.2.2.2.2.2 = some (.iconst 1, 1) := by decide +kernel
theorem pr_58_1 : pj_find 1 pj_m58.2.2.2.2.2.2 = some (.istore_n 1, 1) := by decide +kernel
theorem pr_58_2 : pj_find 2 pj_m58.2.2.2.2.2.2 = some (.iload_n 1, 1) := by decide +kernel
theorem pr_58_3 : pj_find 3 pj_m58.2.2.2.2.2.2 = some (.iconst 5, 1) := by decide +kernel
theorem pr_58_4 : pj_find 4 pj_m58.2.2.2.2.2.2 = some (.if_icmp .gt 44, 3) := by decide +kernel
theorem pr_58_7 : pj_find 7 pj_m58.2.2.2.2.2.2 = some (.iload_n 1, 1) := by decide +kernel
theorem pr_58_8 : pj_find 8 pj_m58.2.2.2.2.2.2 = some (.iload_n 0, 1) := by decide +kernel
theorem pr_58_9 : pj_find 9 pj_m58.2.2.2.2.2.2 = some (.invokestatic 11, 3) := by decide +kernel
theorem pr_58_12 : pj_find 12 pj_m58.2.2.2.2.2.2 = some (.istore_n 2, 1) := by decide +kernel
theorem pr_58_13 : pj_find 13 pj_m58.2.2.2.2.2.2 = some (.iconst 1, 1) := by decide +kernel
theorem pr_58_14 : pj_find 14 pj_m58.2.2.2.2.2.2 = some (.istore_n 3, 1) := by decide +kernel
theorem pr_58_15 : pj_find 15 pj_m58.2.2.2.2.2.2 = some (.iload_n 3, 1) := by decide +kernel
theorem pr_58_16 : pj_find 16 pj_m58.2.2.2.2.2.2 = some (.iload_n 2, 1) := by decide +kernel
theorem pr_58_17 : pj_find 17 pj_m58.2.2.2.2.2.2 = some (.if_icmp .gt 25, 3) := by decide +kernel
theorem pr_58_20 : pj_find 20 pj_m58.2.2.2.2.2.2 = some (.iload_n 0, 1) := by decide +kernel
theorem pr_58_21 : pj_find 21 pj_m58.2.2.2.2.2.2 = some (.iload_n 1, 1) := by decide +kernel
theorem pr_58_22 : pj_find 22 pj_m58.2.2.2.2.2.2 = some (.iload_n 3, 1) := by decide +kernel
theorem pr_58_23 : pj_find 23 pj_m58.2.2.2.2.2.2 = some (.invokestatic 15, 3) := by decide +kernel
theorem pr_58_26 : pj_find 26 pj_m58.2.2.2.2.2.2 = some (.ifCond .ne 10, 3) := by decide +kernel
theorem pr_58_29 : pj_find 29 pj_m58.2.2.2.2.2.2 = some (.bipush 10, 2) := by decide +kernel
theorem pr_58_31 : pj_find 31 pj_m58.2.2.2.2.2.2 = some (.iload_n 1, 1) := by decide +kernel
theorem pr_58_32 : pj_find 32 pj_m58.2.2.2.2.2.2 = some (.imul, 1) := by decide +kernel
theorem pr_58_33 : pj_find 33 pj_m58.2.2.2.2.2.2 = some (.iload_n 3, 1) := by decide +kernel
theorem pr_58_34 : pj_find 34 pj_m58.2.2.2.2.2.2 = some (.iadd, 1) := by decide +kernel
theorem pr_58_35 : pj_find 35 pj_m58.2.2.2.2.2.2 = some (.ireturn, 1) := by decide +kernel
theorem pr_58_36 : pj_find 36 pj_m58.2.2.2.2.2.2 = some (.iinc 3 1, 3) := by decide +kernel
theorem pr_58_39 : pj_find 39 pj_m58.2.2.2.2.2.2 = some (.goto (-24), 3) := by decide +kernel
theorem pr_58_42 : pj_find 42 pj_m58.2.2.2.2.2.2 = some (.iinc 1 1, 3) := by decide +kernel
theorem pr_58_45 : pj_find 45 pj_m58.2.2.2.2.2.2 = some (.goto (-43), 3) := by decide +kernel
theorem pr_58_48 : pj_find 48 pj_m58.2.2.2.2.2.2 = some (.bipush (-6), 2) := by decide +kernel
theorem pr_58_50 : pj_find 50 pj_m58.2.2.2.2.2.2 = some (.ireturn, 1) := by decide +kernel
theorem pr_59_0 : pj_find 0 pj_m59.2.2.2.2.2.2 = some (.iload_n 1, 1) := by decide +kernel
theorem pr_59_1 : pj_find 1 pj_m59.2.2.2.2.2.2 = some (.istore_n 2, 1) := by decide +kernel
theorem pr_59_2 : pj_find 2 pj_m59.2.2.2.2.2.2 = some (.iload_n 0, 1) := by decide +kernel
theorem pr_59_3 : pj_find 3 pj_m59.2.2.2.2.2.2 = some (.istore_n 3, 1) := by decide +kernel
theorem pr_59_4 : pj_find 4 pj_m59.2.2.2.2.2.2 = some (.iload_n 3, 1) := by decide +kernel
theorem pr_59_5 : pj_find 5 pj_m59.2.2.2.2.2.2 = some (.iconst 5, 1) := by decide +kernel
theorem pr_59_6 : pj_find 6 pj_m59.2.2.2.2.2.2 = some (.if_icmp .ge 14, 3) := by decide +kernel
theorem pr_59_9 : pj_find 9 pj_m59.2.2.2.2.2.2 = some (.iload_n 2, 1) := by decide +kernel
theorem pr_59_10 : pj_find 10 pj_m59.2.2.2.2.2.2 = some (.bipush 10, 2) := by decide +kernel
theorem pr_59_12 : pj_find 12 pj_m59.2.2.2.2.2.2 = some (.idiv, 1) := by decide +kernel
theorem pr_59_13 : pj_find 13 pj_m59.2.2.2.2.2.2 = some (.istore_n 2, 1) := by decide +kernel
theorem pr_59_14 : pj_find 14 pj_m59.2.2.2.2.2.2 = some (.iinc 3 1, 3) := by decide +kernel
theorem pr_59_17 : pj_find 17 pj_m59.2.2.2.2.2.2 = some (.goto (-13), 3) := by decide +kernel
theorem pr_59_20 : pj_find 20 pj_m59.2.2.2.2.2.2 = some (.iload_n 2, 1) := by decide +kernel
theorem pr_59_21 : pj_find 21 pj_m59.2.2.2.2.2.2 = some (.bipush 10, 2) := by decide +kernel
theorem pr_59_23 : pj_find 23 pj_m59.2.2.2.2.2.2 = some (.irem, 1) := by decide +kernel
theorem pr_59_24 : pj_find 24 pj_m59.2.2.2.2.2.2 = some (.ireturn, 1) := by decide +kernel
theorem pr_60_0 : pj_find 0 pj_m60.2.2.2.2.2.2 = some (.iconst 0, 1) := by decide +kernel
theorem pr_60_1 : pj_find 1 pj_m60.2.2.2.2.2.2 = some (.istore_n 3, 1) := by decide +kernel
theorem pr_60_2 : pj_find 2 pj_m60.2.2.2.2.2.2 = some (.iconst 1, 1) := by decide +kernel
theorem pr_60_3 : pj_find 3 pj_m60.2.2.2.2.2.2 = some (.istore 4, 2) := by decide +kernel
theorem pr_60_5 : pj_find 5 pj_m60.2.2.2.2.2.2 = some (.iload 4, 2) := by decide +kernel
theorem pr_60_7 : pj_find 7 pj_m60.2.2.2.2.2.2 = some (.iconst 5, 1) := by decide +kernel
theorem pr_60_8 : pj_find 8 pj_m60.2.2.2.2.2.2 = some (.if_icmp .gt 51, 3) := by decide +kernel
theorem pr_60_11 : pj_find 11 pj_m60.2.2.2.2.2.2 = some (.iload 4, 2) := by decide +kernel
theorem pr_60_13 : pj_find 13 pj_m60.2.2.2.2.2.2 = some (.iload_n 0, 1) := by decide +kernel
theorem pr_60_14 : pj_find 14 pj_m60.2.2.2.2.2.2 = some (.invokestatic 11, 3) := by decide +kernel
theorem pr_60_17 : pj_find 17 pj_m60.2.2.2.2.2.2 = some (.istore 5, 2) := by decide +kernel
theorem pr_60_19 : pj_find 19 pj_m60.2.2.2.2.2.2 = some (.iload 4, 2) := by decide +kernel
theorem pr_60_21 : pj_find 21 pj_m60.2.2.2.2.2.2 = some (.iload_n 1, 1) := by decide +kernel
theorem pr_60_22 : pj_find 22 pj_m60.2.2.2.2.2.2 = some (.if_icmp .ne 12, 3) := by decide +kernel
theorem pr_60_25 : pj_find 25 pj_m60.2.2.2.2.2.2 = some (.iload 5, 2) := by decide +kernel
theorem pr_60_27 : pj_find 27 pj_m60.2.2.2.2.2.2 = some (.iload_n 2, 1) := by decide +kernel
theorem pr_60_28 : pj_find 28 pj_m60.2.2.2.2.2.2 = some (.isub, 1) := by decide +kernel
theorem pr_60_29 : pj_find 29 pj_m60.2.2.2.2.2.2 = some (.istore 5, 2) := by decide +kernel
theorem pr_60_31 : pj_find 31 pj_m60.2.2.2.2.2.2 = some (.goto 17, 3) := by decide +kernel
theorem pr_60_34 : pj_find 34 pj_m60.2.2.2.2.2.2 = some (.iload 4, 2) := by decide +kernel
theorem pr_60_36 : pj_find 36 pj_m60.2.2.2.2.2.2 = some (.iload_n 1, 1) := by decide +kernel
theorem pr_60_37 : pj_find 37 pj_m60.2.2.2.2.2.2 = some (.iconst 1, 1) := by decide +kernel
theorem pr_60_38 : pj_find 38 pj_m60.2.2.2.2.2.2 = some (.isub, 1) := by decide +kernel
theorem pr_60_39 : pj_find 39 pj_m60.2.2.2.2.2.2 = some (.if_icmp .ne 9, 3) := by decide +kernel
theorem pr_60_42 : pj_find 42 pj_m60.2.2.2.2.2.2 = some (.iload 5, 2) := by decide +kernel
theorem pr_60_44 : pj_find 44 pj_m60.2.2.2.2.2.2 = some (.iload_n 2, 1) := by decide +kernel
theorem pr_60_45 : pj_find 45 pj_m60.2.2.2.2.2.2 = some (.iadd, 1) := by decide +kernel
theorem pr_60_46 : pj_find 46 pj_m60.2.2.2.2.2.2 = some (.istore 5, 2) := by decide +kernel
theorem pr_60_48 : pj_find 48 pj_m60.2.2.2.2.2.2 = some (.iload_n 3, 1) := by decide +kernel
theorem pr_60_49 : pj_find 49 pj_m60.2.2.2.2.2.2 = some (.iload 5, 2) := by decide +kernel
theorem pr_60_51 : pj_find 51 pj_m60.2.2.2.2.2.2 = some (.ixor, 1) := by decide +kernel
theorem pr_60_52 : pj_find 52 pj_m60.2.2.2.2.2.2 = some (.istore_n 3, 1) := by decide +kernel
theorem pr_60_53 : pj_find 53 pj_m60.2.2.2.2.2.2 = some (.iinc 4 2, 3) := by decide +kernel
theorem pr_60_56 : pj_find 56 pj_m60.2.2.2.2.2.2 = some (.goto (-51), 3) := by decide +kernel
theorem pr_60_59 : pj_find 59 pj_m60.2.2.2.2.2.2 = some (.iload_n 3, 1) := by decide +kernel
theorem pr_60_60 : pj_find 60 pj_m60.2.2.2.2.2.2 = some (.ireturn, 1) := by decide +kernel
theorem pr_61_0 : pj_find 0 pj_m61.2.2.2.2.2.2 = some (.iload_n 0, 1) := by decide +kernel
theorem pr_61_1 : pj_find 1 pj_m61.2.2.2.2.2.2 = some (.istore_n 2, 1) := by decide +kernel
theorem pr_61_2 : pj_find 2 pj_m61.2.2.2.2.2.2 = some (.iconst 0, 1) := by decide +kernel
theorem pr_61_3 : pj_find 3 pj_m61.2.2.2.2.2.2 = some (.istore_n 3, 1) := by decide +kernel
theorem pr_61_4 : pj_find 4 pj_m61.2.2.2.2.2.2 = some (.iload_n 3, 1) := by decide +kernel
theorem pr_61_5 : pj_find 5 pj_m61.2.2.2.2.2.2 = some (.iload_n 1, 1) := by decide +kernel
theorem pr_61_6 : pj_find 6 pj_m61.2.2.2.2.2.2 = some (.if_icmp .ge 19, 3) := by decide +kernel
theorem pr_61_9 : pj_find 9 pj_m61.2.2.2.2.2.2 = some (.iload_n 3, 1) := by decide +kernel
theorem pr_61_10 : pj_find 10 pj_m61.2.2.2.2.2.2 = some (.iconst 4, 1) := by decide +kernel
theorem pr_61_11 : pj_find 11 pj_m61.2.2.2.2.2.2 = some (.if_icmp .ge 14, 3) := by decide +kernel
theorem pr_61_14 : pj_find 14 pj_m61.2.2.2.2.2.2 = some (.iload_n 2, 1) := by decide +kernel
theorem pr_61_15 : pj_find 15 pj_m61.2.2.2.2.2.2 = some (.invokestatic 9, 3) := by decide +kernel
theorem pr_61_18 : pj_find 18 pj_m61.2.2.2.2.2.2 = some (.istore_n 2, 1) := by decide +kernel
theorem pr_61_19 : pj_find 19 pj_m61.2.2.2.2.2.2 = some (.iinc 3 1, 3) := by decide +kernel
theorem pr_61_22 : pj_find 22 pj_m61.2.2.2.2.2.2 = some (.goto (-18), 3) := by decide +kernel
theorem pr_61_25 : pj_find 25 pj_m61.2.2.2.2.2.2 = some (.iload_n 2, 1) := by decide +kernel
theorem pr_61_26 : pj_find 26 pj_m61.2.2.2.2.2.2 = some (.ireturn, 1) := by decide +kernel
theorem pr_62_0 : pj_find 0 pj_m62.2.2.2.2.2.2 = some (.iconst 0, 1) := by decide +kernel
theorem pr_62_1 : pj_find 1 pj_m62.2.2.2.2.2.2 = some (.istore_n 1, 1) := by decide +kernel
theorem pr_62_2 : pj_find 2 pj_m62.2.2.2.2.2.2 = some (.iconst 0, 1) := by decide +kernel
theorem pr_62_3 : pj_find 3 pj_m62.2.2.2.2.2.2 = some (.istore_n 2, 1) := by decide +kernel
theorem pr_62_4 : pj_find 4 pj_m62.2.2.2.2.2.2 = some (.iload_n 2, 1) := by decide +kernel
theorem pr_62_5 : pj_find 5 pj_m62.2.2.2.2.2.2 = some (.iconst 4, 1) := by decide +kernel
theorem pr_62_6 : pj_find 6 pj_m62.2.2.2.2.2.2 = some (.if_icmp .ge 48, 3) := by decide +kernel
theorem pr_62_9 : pj_find 9 pj_m62.2.2.2.2.2.2 = some (.iconst 0, 1) := by decide +kernel
theorem pr_62_10 : pj_find 10 pj_m62.2.2.2.2.2.2 = some (.istore_n 3, 1) := by decide +kernel
theorem pr_62_11 : pj_find 11 pj_m62.2.2.2.2.2.2 = some (.iload_n 3, 1) := by decide +kernel
theorem pr_62_12 : pj_find 12 pj_m62.2.2.2.2.2.2 = some (.iconst 4, 1) := by decide +kernel
theorem pr_62_13 : pj_find 13 pj_m62.2.2.2.2.2.2 = some (.if_icmp .ge 35, 3) := by decide +kernel
theorem pr_62_16 : pj_find 16 pj_m62.2.2.2.2.2.2 = some (.iload_n 0, 1) := by decide +kernel
theorem pr_62_17 : pj_find 17 pj_m62.2.2.2.2.2.2 = some (.iconst 4, 1) := by decide +kernel
theorem pr_62_18 : pj_find 18 pj_m62.2.2.2.2.2.2 = some (.iload_n 2, 1) := by decide +kernel
theorem pr_62_19 : pj_find 19 pj_m62.2.2.2.2.2.2 = some (.imul, 1) := by decide +kernel
theorem pr_62_20 : pj_find 20 pj_m62.2.2.2.2.2.2 = some (.iload_n 3, 1) := by decide +kernel
theorem pr_62_21 : pj_find 21 pj_m62.2.2.2.2.2.2 = some (.iadd, 1) := by decide +kernel
theorem pr_62_22 : pj_find 22 pj_m62.2.2.2.2.2.2 = some (.ishr, 1) := by decide +kernel
theorem pr_62_23 : pj_find 23 pj_m62.2.2.2.2.2.2 = some (.iconst 1, 1) := by decide +kernel
theorem pr_62_24 : pj_find 24 pj_m62.2.2.2.2.2.2 = some (.iand, 1) := by decide +kernel
theorem pr_62_25 : pj_find 25 pj_m62.2.2.2.2.2.2 = some (.istore 4, 2) := by decide +kernel
theorem pr_62_27 : pj_find 27 pj_m62.2.2.2.2.2.2 = some (.iload_n 1, 1) := by decide +kernel
theorem pr_62_28 : pj_find 28 pj_m62.2.2.2.2.2.2 = some (.iload 4, 2) := by decide +kernel
theorem pr_62_30 : pj_find 30 pj_m62.2.2.2.2.2.2 = some (.iconst 4, 1) := by decide +kernel
theorem pr_62_31 : pj_find 31 pj_m62.2.2.2.2.2.2 = some (.iload_n 3, 1) := by decide +kernel
theorem pr_62_32 : pj_find 32 pj_m62.2.2.2.2.2.2 = some (.imul, 1) := by decide +kernel
theorem pr_62_33 : pj_find 33 pj_m62.2.2.2.2.2.2 = some (.iconst 4, 1) := by decide +kernel
theorem pr_62_34 : pj_find 34 pj_m62.2.2.2.2.2.2 = some (.iadd, 1) := by decide +kernel
theorem pr_62_35 : pj_find 35 pj_m62.2.2.2.2.2.2 = some (.iconst 1, 1) := by decide +kernel
theorem pr_62_36 : pj_find 36 pj_m62.2.2.2.2.2.2 = some (.isub, 1) := by decide +kernel
theorem pr_62_37 : pj_find 37 pj_m62.2.2.2.2.2.2 = some (.iload_n 2, 1) := by decide +kernel
theorem pr_62_38 : pj_find 38 pj_m62.2.2.2.2.2.2 = some (.isub, 1) := by decide +kernel
theorem pr_62_39 : pj_find 39 pj_m62.2.2.2.2.2.2 = some (.ishl, 1) := by decide +kernel
theorem pr_62_40 : pj_find 40 pj_m62.2.2.2.2.2.2 = some (.ior, 1) := by decide +kernel
theorem pr_62_41 : pj_find 41 pj_m62.2.2.2.2.2.2 = some (.istore_n 1, 1) := by decide +kernel
theorem pr_62_42 : pj_find 42 pj_m62.2.2.2.2.2.2 = some (.iinc 3 1, 3) := by decide +kernel
theorem pr_62_45 : pj_find 45 pj_m62.2.2.2.2.2.2 = some (.goto (-34), 3) := by decide +kernel
theorem pr_62_48 : pj_find 48 pj_m62.2.2.2.2.2.2 = some (.iinc 2 1, 3) := by decide +kernel
theorem pr_62_51 : pj_find 51 pj_m62.2.2.2.2.2.2 = some (.goto (-47), 3) := by decide +kernel
theorem pr_62_54 : pj_find 54 pj_m62.2.2.2.2.2.2 = some (.iload_n 1, 1) := by decide +kernel
theorem pr_62_55 : pj_find 55 pj_m62.2.2.2.2.2.2 = some (.ireturn, 1) := by decide +kernel
theorem pr_63_0 : pj_find 0 pj_m63.2.2.2.2.2.2 = some (.iload_n 0, 1) := by decide +kernel
theorem pr_63_1 : pj_find 1 pj_m63.2.2.2.2.2.2 = some (.sipush 4369, 3) := by decide +kernel
theorem pr_63_4 : pj_find 4 pj_m63.2.2.2.2.2.2 = some (.iand, 1) := by decide +kernel
theorem pr_63_5 : pj_find 5 pj_m63.2.2.2.2.2.2 = some (.iconst 3, 1) := by decide +kernel
theorem pr_63_6 : pj_find 6 pj_m63.2.2.2.2.2.2 = some (.ishl, 1) := by decide +kernel
theorem pr_63_7 : pj_find 7 pj_m63.2.2.2.2.2.2 = some (.iload_n 0, 1) := by decide +kernel
theorem pr_63_8 : pj_find 8 pj_m63.2.2.2.2.2.2 = some (.ldc 15, 2) := by decide +kernel
theorem pr_63_10 : pj_find 10 pj_m63.2.2.2.2.2.2 = some (.iand, 1) := by decide +kernel
theorem pr_63_11 : pj_find 11 pj_m63.2.2.2.2.2.2 = some (.iconst 3, 1) := by decide +kernel
theorem pr_63_12 : pj_find 12 pj_m63.2.2.2.2.2.2 = some (.ishr, 1) := by decide +kernel
theorem pr_63_13 : pj_find 13 pj_m63.2.2.2.2.2.2 = some (.ior, 1) := by decide +kernel
theorem pr_63_14 : pj_find 14 pj_m63.2.2.2.2.2.2 = some (.istore_n 1, 1) := by decide +kernel
theorem pr_63_15 : pj_find 15 pj_m63.2.2.2.2.2.2 = some (.iload_n 0, 1) := by decide +kernel
theorem pr_63_16 : pj_find 16 pj_m63.2.2.2.2.2.2 = some (.sipush 8738, 3) := by decide +kernel
theorem pr_63_19 : pj_find 19 pj_m63.2.2.2.2.2.2 = some (.iand, 1) := by decide +kernel
theorem pr_63_20 : pj_find 20 pj_m63.2.2.2.2.2.2 = some (.iconst 1, 1) := by decide +kernel
theorem pr_63_21 : pj_find 21 pj_m63.2.2.2.2.2.2 = some (.ishl, 1) := by decide +kernel
theorem pr_63_22 : pj_find 22 pj_m63.2.2.2.2.2.2 = some (.iload_n 0, 1) := by decide +kernel
theorem pr_63_23 : pj_find 23 pj_m63.2.2.2.2.2.2 = some (.sipush 17476, 3) := by decide +kernel
theorem pr_63_26 : pj_find 26 pj_m63.2.2.2.2.2.2 = some (.iand, 1) := by decide +kernel
theorem pr_63_27 : pj_find 27 pj_m63.2.2.2.2.2.2 = some (.iconst 1, 1) := by decide +kernel
theorem pr_63_28 : pj_find 28 pj_m63.2.2.2.2.2.2 = some (.ishr, 1) := by decide +kernel
theorem pr_63_29 : pj_find 29 pj_m63.2.2.2.2.2.2 = some (.ior, 1) := by decide +kernel
theorem pr_63_30 : pj_find 30 pj_m63.2.2.2.2.2.2 = some (.istore_n 2, 1) := by decide +kernel
theorem pr_63_31 : pj_find 31 pj_m63.2.2.2.2.2.2 = some (.iload_n 1, 1) := by decide +kernel
theorem pr_63_32 : pj_find 32 pj_m63.2.2.2.2.2.2 = some (.iload_n 2, 1) := by decide +kernel
theorem pr_63_33 : pj_find 33 pj_m63.2.2.2.2.2.2 = some (.ior, 1) := by decide +kernel
theorem pr_63_34 : pj_find 34 pj_m63.2.2.2.2.2.2 = some (.ireturn, 1) := by decide +kernel
theorem pr_64_0 : pj_find 0 pj_m64.2.2.2.2.2.2 = some (.iload_n 1, 1) := by decide +kernel
theorem pr_64_1 : pj_find 1 pj_m64.2.2.2.2.2.2 = some (.istore_n 3, 1) := by decide +kernel
theorem pr_64_2 : pj_find 2 pj_m64.2.2.2.2.2.2 = some (.iconst 0, 1) := by decide +kernel
theorem pr_64_3 : pj_find 3 pj_m64.2.2.2.2.2.2 = some (.istore 4, 2) := by decide +kernel
theorem pr_64_5 : pj_find 5 pj_m64.2.2.2.2.2.2 = some (.iload 4, 2) := by decide +kernel
theorem pr_64_7 : pj_find 7 pj_m64.2.2.2.2.2.2 = some (.iload_n 2, 1) := by decide +kernel
theorem pr_64_8 : pj_find 8 pj_m64.2.2.2.2.2.2 = some (.if_icmp .ge 32, 3) := by decide +kernel
theorem pr_64_11 : pj_find 11 pj_m64.2.2.2.2.2.2 = some (.bipush 75, 2) := by decide +kernel
theorem pr_64_13 : pj_find 13 pj_m64.2.2.2.2.2.2 = some (.iload_n 3, 1) := by decide +kernel
theorem pr_64_14 : pj_find 14 pj_m64.2.2.2.2.2.2 = some (.imul, 1) := by decide +kernel
theorem pr_64_15 : pj_find 15 pj_m64.2.2.2.2.2.2 = some (.bipush 74, 2) := by decide +kernel
theorem pr_64_17 : pj_find 17 pj_m64.2.2.2.2.2.2 = some (.iadd, 1) := by decide +kernel
theorem pr_64_18 : pj_find 18 pj_m64.2.2.2.2.2.2 = some (.ldc 9, 2) := by decide +kernel
theorem pr_64_20 : pj_find 20 pj_m64.2.2.2.2.2.2 = some (.irem, 1) := by decide +kernel
theorem pr_64_21 : pj_find 21 pj_m64.2.2.2.2.2.2 = some (.istore_n 3, 1) := by decide +kernel
theorem pr_64_22 : pj_find 22 pj_m64.2.2.2.2.2.2 = some (.iload_n 3, 1) := by decide +kernel
theorem pr_64_23 : pj_find 23 pj_m64.2.2.2.2.2.2 = some (.bipush 8, 2) := by decide +kernel
theorem pr_64_25 : pj_find 25 pj_m64.2.2.2.2.2.2 = some (.irem, 1) := by decide +kernel
theorem pr_64_26 : pj_find 26 pj_m64.2.2.2.2.2.2 = some (.iload_n 3, 1) := by decide +kernel
theorem pr_64_27 : pj_find 27 pj_m64.2.2.2.2.2.2 = some (.bipush 8, 2) := by decide +kernel
theorem pr_64_29 : pj_find 29 pj_m64.2.2.2.2.2.2 = some (.idiv, 1) := by decide +kernel
theorem pr_64_30 : pj_find 30 pj_m64.2.2.2.2.2.2 = some (.aload_n 0, 1) := by decide +kernel
theorem pr_64_31 : pj_find 31 pj_m64.2.2.2.2.2.2 = some (.invokestatic 10, 3) := by decide +kernel
theorem pr_64_34 : pj_find 34 pj_m64.2.2.2.2.2.2 = some (.iinc 4 1, 3) := by decide +kernel
theorem pr_64_37 : pj_find 37 pj_m64.2.2.2.2.2.2 = some (.goto (-32), 3) := by decide +kernel
theorem pr_64_40 : pj_find 40 pj_m64.2.2.2.2.2.2 = some (.return_, 1) := by decide +kernel
theorem pr_65_0 : pj_find 0 pj_m65.2.2.2.2.2.2 = some (.iload_n 0, 1) := by decide +kernel
theorem pr_65_1 : pj_find 1 pj_m65.2.2.2.2.2.2 = some (.tableswitch 59 5 7 #[27, 39, 51], 27) := by decide +kernel
theorem pr_65_28 : pj_find 28 pj_m65.2.2.2.2.2.2 = some (.aload_n 2, 1) := by decide +kernel
theorem pr_65_29 : pj_find 29 pj_m65.2.2.2.2.2.2 = some (.iload_n 1, 1) := by decide +kernel
theorem pr_65_30 : pj_find 30 pj_m65.2.2.2.2.2.2 = some (.bipush 8, 2) := by decide +kernel
theorem pr_65_32 : pj_find 32 pj_m65.2.2.2.2.2.2 = some (.irem, 1) := by decide +kernel
theorem pr_65_33 : pj_find 33 pj_m65.2.2.2.2.2.2 = some (.invokevirtual 16, 3) := by decide +kernel
theorem pr_65_36 : pj_find 36 pj_m65.2.2.2.2.2.2 = some (.pop, 1) := by decide +kernel
theorem pr_65_37 : pj_find 37 pj_m65.2.2.2.2.2.2 = some (.goto 46, 3) := by decide +kernel
theorem pr_65_40 : pj_find 40 pj_m65.2.2.2.2.2.2 = some (.aload_n 2, 1) := by decide +kernel
theorem pr_65_41 : pj_find 41 pj_m65.2.2.2.2.2.2 = some (.iload_n 1, 1) := by decide +kernel
theorem pr_65_42 : pj_find 42 pj_m65.2.2.2.2.2.2 = some (.bipush 16, 2) := by decide +kernel
theorem pr_65_44 : pj_find 44 pj_m65.2.2.2.2.2.2 = some (.irem, 1) := by decide +kernel
theorem pr_65_45 : pj_find 45 pj_m65.2.2.2.2.2.2 = some (.invokevirtual 22, 3) := by decide +kernel
theorem pr_65_48 : pj_find 48 pj_m65.2.2.2.2.2.2 = some (.pop, 1) := by decide +kernel
theorem pr_65_49 : pj_find 49 pj_m65.2.2.2.2.2.2 = some (.goto 34, 3) := by decide +kernel
theorem pr_65_52 : pj_find 52 pj_m65.2.2.2.2.2.2 = some (.aload_n 2, 1) := by decide +kernel
theorem pr_65_53 : pj_find 53 pj_m65.2.2.2.2.2.2 = some (.invokevirtual 25, 3) := by decide +kernel
theorem pr_65_56 : pj_find 56 pj_m65.2.2.2.2.2.2 = some (.pop, 1) := by decide +kernel
theorem pr_65_57 : pj_find 57 pj_m65.2.2.2.2.2.2 = some (.goto 26, 3) := by decide +kernel
theorem pr_65_60 : pj_find 60 pj_m65.2.2.2.2.2.2 = some (.aload_n 2, 1) := by decide +kernel
theorem pr_65_61 : pj_find 61 pj_m65.2.2.2.2.2.2 = some (.iload_n 1, 1) := by decide +kernel
theorem pr_65_62 : pj_find 62 pj_m65.2.2.2.2.2.2 = some (.bipush 8, 2) := by decide +kernel
theorem pr_65_64 : pj_find 64 pj_m65.2.2.2.2.2.2 = some (.irem, 1) := by decide +kernel
theorem pr_65_65 : pj_find 65 pj_m65.2.2.2.2.2.2 = some (.iload_n 1, 1) := by decide +kernel
theorem pr_65_66 : pj_find 66 pj_m65.2.2.2.2.2.2 = some (.bipush 8, 2) := by decide +kernel
theorem pr_65_68 : pj_find 68 pj_m65.2.2.2.2.2.2 = some (.idiv, 1) := by decide +kernel
theorem pr_65_69 : pj_find 69 pj_m65.2.2.2.2.2.2 = some (.iconst 4, 1) := by decide +kernel
theorem pr_65_70 : pj_find 70 pj_m65.2.2.2.2.2.2 = some (.irem, 1) := by decide +kernel
theorem pr_65_71 : pj_find 71 pj_m65.2.2.2.2.2.2 = some (.iconst 1, 1) := by decide +kernel
theorem pr_65_72 : pj_find 72 pj_m65.2.2.2.2.2.2 = some (.iload_n 1, 1) := by decide +kernel
theorem pr_65_73 : pj_find 73 pj_m65.2.2.2.2.2.2 = some (.bipush 32, 2) := by decide +kernel
theorem pr_65_75 : pj_find 75 pj_m65.2.2.2.2.2.2 = some (.idiv, 1) := by decide +kernel
theorem pr_65_76 : pj_find 76 pj_m65.2.2.2.2.2.2 = some (.iconst 5, 1) := by decide +kernel
theorem pr_65_77 : pj_find 77 pj_m65.2.2.2.2.2.2 = some (.irem, 1) := by decide +kernel
theorem pr_65_78 : pj_find 78 pj_m65.2.2.2.2.2.2 = some (.iadd, 1) := by decide +kernel
theorem pr_65_79 : pj_find 79 pj_m65.2.2.2.2.2.2 = some (.invokevirtual 29, 3) := by decide +kernel
theorem pr_65_82 : pj_find 82 pj_m65.2.2.2.2.2.2 = some (.pop, 1) := by decide +kernel
theorem pr_65_83 : pj_find 83 pj_m65.2.2.2.2.2.2 = some (.return_, 1) := by decide +kernel
theorem pr_66_0 : pj_find 0 pj_m66.2.2.2.2.2.2 = some (.aload_n 0, 1) := by decide +kernel
theorem pr_66_1 : pj_find 1 pj_m66.2.2.2.2.2.2 = some (.invokespecial 1, 3) := by decide +kernel
theorem pr_66_4 : pj_find 4 pj_m66.2.2.2.2.2.2 = some (.aload_n 0, 1) := by decide +kernel
theorem pr_66_5 : pj_find 5 pj_m66.2.2.2.2.2.2 = some (.new 7, 3) := by decide +kernel
theorem pr_66_8 : pj_find 8 pj_m66.2.2.2.2.2.2 = some (.dup, 1) := by decide +kernel
theorem pr_66_9 : pj_find 9 pj_m66.2.2.2.2.2.2 = some (.invokespecial 9, 3) := by decide +kernel
theorem pr_66_12 : pj_find 12 pj_m66.2.2.2.2.2.2 = some (.putfield 10, 3) := by decide +kernel
theorem pr_66_15 : pj_find 15 pj_m66.2.2.2.2.2.2 = some (.aload_n 0, 1) := by decide +kernel
theorem pr_66_16 : pj_find 16 pj_m66.2.2.2.2.2.2 = some (.new 7, 3) := by decide +kernel
theorem pr_66_19 : pj_find 19 pj_m66.2.2.2.2.2.2 = some (.dup, 1) := by decide +kernel
theorem pr_66_20 : pj_find 20 pj_m66.2.2.2.2.2.2 = some (.invokespecial 9, 3) := by decide +kernel
theorem pr_66_23 : pj_find 23 pj_m66.2.2.2.2.2.2 = some (.putfield 16, 3) := by decide +kernel
theorem pr_66_26 : pj_find 26 pj_m66.2.2.2.2.2.2 = some (.aload_n 0, 1) := by decide +kernel
theorem pr_66_27 : pj_find 27 pj_m66.2.2.2.2.2.2 = some (.new 7, 3) := by decide +kernel
theorem pr_66_30 : pj_find 30 pj_m66.2.2.2.2.2.2 = some (.dup, 1) := by decide +kernel
theorem pr_66_31 : pj_find 31 pj_m66.2.2.2.2.2.2 = some (.invokespecial 9, 3) := by decide +kernel
theorem pr_66_34 : pj_find 34 pj_m66.2.2.2.2.2.2 = some (.putfield 19, 3) := by decide +kernel
theorem pr_66_37 : pj_find 37 pj_m66.2.2.2.2.2.2 = some (.aload_n 0, 1) := by decide +kernel
theorem pr_66_38 : pj_find 38 pj_m66.2.2.2.2.2.2 = some (.new 7, 3) := by decide +kernel
theorem pr_66_41 : pj_find 41 pj_m66.2.2.2.2.2.2 = some (.dup, 1) := by decide +kernel
theorem pr_66_42 : pj_find 42 pj_m66.2.2.2.2.2.2 = some (.invokespecial 9, 3) := by decide +kernel
theorem pr_66_45 : pj_find 45 pj_m66.2.2.2.2.2.2 = some (.putfield 22, 3) := by decide +kernel
theorem pr_66_48 : pj_find 48 pj_m66.2.2.2.2.2.2 = some (.aload_n 0, 1) := by decide +kernel
theorem pr_66_49 : pj_find 49 pj_m66.2.2.2.2.2.2 = some (.new 25, 3) := by decide +kernel
theorem pr_66_52 : pj_find 52 pj_m66.2.2.2.2.2.2 = some (.dup, 1) := by decide +kernel
theorem pr_66_53 : pj_find 53 pj_m66.2.2.2.2.2.2 = some (.invokespecial 27, 3) := by decide +kernel
theorem pr_66_56 : pj_find 56 pj_m66.2.2.2.2.2.2 = some (.putfield 28, 3) := by decide +kernel
theorem pr_66_59 : pj_find 59 pj_m66.2.2.2.2.2.2 = some (.aload_n 0, 1) := by decide +kernel
theorem pr_66_60 : pj_find 60 pj_m66.2.2.2.2.2.2 = some (.new 32, 3) := by decide +kernel
theorem pr_66_63 : pj_find 63 pj_m66.2.2.2.2.2.2 = some (.dup, 1) := by decide +kernel
theorem pr_66_64 : pj_find 64 pj_m66.2.2.2.2.2.2 = some (.invokespecial 34, 3) := by decide +kernel
theorem pr_66_67 : pj_find 67 pj_m66.2.2.2.2.2.2 = some (.putfield 35, 3) := by decide +kernel
theorem pr_66_70 : pj_find 70 pj_m66.2.2.2.2.2.2 = some (.aload_n 0, 1) := by decide +kernel
theorem pr_66_71 : pj_find 71 pj_m66.2.2.2.2.2.2 = some (.new 39, 3) := by decide +kernel
theorem pr_66_74 : pj_find 74 pj_m66.2.2.2.2.2.2 = some (.dup, 1) := by decide +kernel
theorem pr_66_75 : pj_find 75 pj_m66.2.2.2.2.2.2 = some (.invokespecial 41, 3) := by decide +kernel
theorem pr_66_78 : pj_find 78 pj_m66.2.2.2.2.2.2 = some (.putfield 42, 3) := by decide +kernel
theorem pr_66_81 : pj_find 81 pj_m66.2.2.2.2.2.2 = some (.aload_n 0, 1) := by decide +kernel
theorem pr_66_82 : pj_find 82 pj_m66.2.2.2.2.2.2 = some (.new 46, 3) := by decide +kernel
theorem pr_66_85 : pj_find 85 pj_m66.2.2.2.2.2.2 = some (.dup, 1) := by decide +kernel
theorem pr_66_86 : pj_find 86 pj_m66.2.2.2.2.2.2 = some (.invokespecial 48, 3) := by decide +kernel
theorem pr_66_89 : pj_find 89 pj_m66.2.2.2.2.2.2 = some (.putfield 49, 3) := by decide +kernel
theorem pr_66_92 : pj_find 92 pj_m66.2.2.2.2.2.2 = some (.aload_n 0, 1) := by decide +kernel
theorem pr_66_93 : pj_find 93 pj_m66.2.2.2.2.2.2 = some (.new 53, 3) := by decide +kernel
theorem pr_66_96 : pj_find 96 pj_m66.2.2.2.2.2.2 = some (.dup, 1) := by decide +kernel
theorem pr_66_97 : pj_find 97 pj_m66.2.2.2.2.2.2 = some (.invokespecial 55, 3) := by decide +kernel
theorem pr_66_100 : pj_find 100 pj_m66.2.2.2.2.2.2 = some (.putfield 56, 3) := by decide +kernel
theorem pr_66_103 : pj_find 103 pj_m66.2.2.2.2.2.2 = some (.return_, 1) := by decide +kernel
theorem pr_67_0 : pj_find 0 pj_m67.2.2.2.2.2.2 = some (.iload_n 1, 1) := by decide +kernel
theorem pr_67_1 : pj_find 1 pj_m67.2.2.2.2.2.2 = some (.invokestatic 60, 3) := by decide +kernel
theorem pr_67_4 : pj_find 4 pj_m67.2.2.2.2.2.2 = some (.ifCond .ne 5, 3) := by decide +kernel
theorem pr_67_7 : pj_find 7 pj_m67.2.2.2.2.2.2 = some (.iconst (-1), 1) := by decide +kernel
theorem pr_67_8 : pj_find 8 pj_m67.2.2.2.2.2.2 = some (.ireturn, 1) := by decide +kernel
theorem pr_67_9 : pj_find 9 pj_m67.2.2.2.2.2.2 = some (.iload_n 2, 1) := by decide +kernel
theorem pr_67_10 : pj_find 10 pj_m67.2.2.2.2.2.2 = some (.ifCond .ne 7, 3) := by decide +kernel
theorem pr_67_13 : pj_find 13 pj_m67.2.2.2.2.2.2 = some (.iconst 0, 1) := by decide +kernel
theorem pr_67_14 : pj_find 14 pj_m67.2.2.2.2.2.2 = some (.goto 4, 3) := by decide +kernel
theorem pr_67_17 : pj_find 17 pj_m67.2.2.2.2.2.2 = some (.iconst 1, 1) := by decide +kernel
theorem pr_67_18 : pj_find 18 pj_m67.2.2.2.2.2.2 = some (.istore 4, 2) := by decide +kernel
theorem pr_67_20 : pj_find 20 pj_m67.2.2.2.2.2.2 = some (.iload_n 2, 1) := by decide +kernel
theorem pr_67_21 : pj_find 21 pj_m67.2.2.2.2.2.2 = some (.iconst 0, 1) := by decide +kernel
theorem pr_67_22 : pj_find 22 pj_m67.2.2.2.2.2.2 = some (.bipush 6, 2) := by decide +kernel
theorem pr_67_24 : pj_find 24 pj_m67.2.2.2.2.2.2 = some (.invokestatic 64, 3) := by decide +kernel
theorem pr_67_27 : pj_find 27 pj_m67.2.2.2.2.2.2 = some (.ifCond .eq 13, 3) := by decide +kernel
theorem pr_67_30 : pj_find 30 pj_m67.2.2.2.2.2.2 = some (.iload_n 3, 1) := by decide +kernel
theorem pr_67_31 : pj_find 31 pj_m67.2.2.2.2.2.2 = some (.iconst 0, 1) := by decide +kernel
theorem pr_67_32 : pj_find 32 pj_m67.2.2.2.2.2.2 = some (.iload 4, 2) := by decide +kernel
theorem pr_67_34 : pj_find 34 pj_m67.2.2.2.2.2.2 = some (.invokestatic 64, 3) := by decide +kernel
theorem pr_67_37 : pj_find 37 pj_m67.2.2.2.2.2.2 = some (.ifCond .ne 6, 3) := by decide +kernel
theorem pr_67_40 : pj_find 40 pj_m67.2.2.2.2.2.2 = some (.bipush (-2), 2) := by decide +kernel
theorem pr_67_42 : pj_find 42 pj_m67.2.2.2.2.2.2 = some (.ireturn, 1) := by decide +kernel
theorem pr_67_43 : pj_find 43 pj_m67.2.2.2.2.2.2 = some (.aload_n 0, 1) := by decide +kernel
theorem pr_67_44 : pj_find 44 pj_m67.2.2.2.2.2.2 = some (.getfield 10, 3) := by decide +kernel
theorem pr_67_47 : pj_find 47 pj_m67.2.2.2.2.2.2 = some (.iload_n 1, 1) := by decide +kernel
theorem pr_67_48 : pj_find 48 pj_m67.2.2.2.2.2.2 = some (.invokevirtual 68, 3) := by decide +kernel
theorem pr_67_51 : pj_find 51 pj_m67.2.2.2.2.2.2 = some (.istore 5, 2) := by decide +kernel
theorem pr_67_53 : pj_find 53 pj_m67.2.2.2.2.2.2 = some (.aload_n 0, 1) := by decide +kernel
theorem pr_67_54 : pj_find 54 pj_m67.2.2.2.2.2.2 = some (.getfield 10, 3) := by decide +kernel
theorem pr_67_57 : pj_find 57 pj_m67.2.2.2.2.2.2 = some (.iconst 1, 1) := by decide +kernel
theorem pr_67_58 : pj_find 58 pj_m67.2.2.2.2.2.2 = some (.iload_n 1, 1) := by decide +kernel
theorem pr_67_59 : pj_find 59 pj_m67.2.2.2.2.2.2 = some (.ishl, 1) := by decide +kernel
theorem pr_67_60 : pj_find 60 pj_m67.2.2.2.2.2.2 = some (.iload_n 2, 1) := by decide +kernel
theorem pr_67_61 : pj_find 61 pj_m67.2.2.2.2.2.2 = some (.invokevirtual 72, 3) := by decide +kernel
theorem pr_67_64 : pj_find 64 pj_m67.2.2.2.2.2.2 = some (.aload_n 0, 1) := by decide +kernel
theorem pr_67_65 : pj_find 65 pj_m67.2.2.2.2.2.2 = some (.getfield 10, 3) := by decide +kernel
theorem pr_67_68 : pj_find 68 pj_m67.2.2.2.2.2.2 = some (.iconst 1, 1) := by decide +kernel
theorem pr_67_69 : pj_find 69 pj_m67.2.2.2.2.2.2 = some (.iload_n 1, 1) := by decide +kernel
theorem pr_67_70 : pj_find 70 pj_m67.2.2.2.2.2.2 = some (.ishl, 1) := by decide +kernel
theorem pr_67_71 : pj_find 71 pj_m67.2.2.2.2.2.2 = some (.iload_n 3, 1) := by decide +kernel
theorem pr_67_72 : pj_find 72 pj_m67.2.2.2.2.2.2 = some (.iconst 1, 1) := by decide +kernel
theorem pr_67_73 : pj_find 73 pj_m67.2.2.2.2.2.2 = some (.if_icmp .ne 7, 3) := by decide +kernel
theorem pr_67_76 : pj_find 76 pj_m67.2.2.2.2.2.2 = some (.iconst 1, 1) := by decide +kernel
theorem pr_67_77 : pj_find 77 pj_m67.2.2.2.2.2.2 = some (.goto 4, 3) := by decide +kernel
theorem pr_67_80 : pj_find 80 pj_m67.2.2.2.2.2.2 = some (.iconst 0, 1) := by decide +kernel
theorem pr_67_81 : pj_find 81 pj_m67.2.2.2.2.2.2 = some (.invokevirtual 76, 3) := by decide +kernel
theorem pr_67_84 : pj_find 84 pj_m67.2.2.2.2.2.2 = some (.iload 5, 2) := by decide +kernel
theorem pr_67_86 : pj_find 86 pj_m67.2.2.2.2.2.2 = some (.ireturn, 1) := by decide +kernel
theorem pr_68_0 : pj_find 0 pj_m68.2.2.2.2.2.2 = some (.iload_n 1, 1) := by decide +kernel
theorem pr_68_1 : pj_find 1 pj_m68.2.2.2.2.2.2 = some (.invokestatic 80, 3) := by decide +kernel
theorem pr_68_4 : pj_find 4 pj_m68.2.2.2.2.2.2 = some (.ifCond .ne 5, 3) := by decide +kernel
theorem pr_68_7 : pj_find 7 pj_m68.2.2.2.2.2.2 = some (.iconst (-1), 1) := by decide +kernel
theorem pr_68_8 : pj_find 8 pj_m68.2.2.2.2.2.2 = some (.ireturn, 1) := by decide +kernel
theorem pr_68_9 : pj_find 9 pj_m68.2.2.2.2.2.2 = some (.iload_n 2, 1) := by decide +kernel
theorem pr_68_10 : pj_find 10 pj_m68.2.2.2.2.2.2 = some (.iconst 0, 1) := by decide +kernel
theorem pr_68_11 : pj_find 11 pj_m68.2.2.2.2.2.2 = some (.ldc 83, 2) := by decide +kernel
theorem pr_68_13 : pj_find 13 pj_m68.2.2.2.2.2.2 = some (.invokestatic 64, 3) := by decide +kernel
theorem pr_68_16 : pj_find 16 pj_m68.2.2.2.2.2.2 = some (.ifCond .ne 6, 3) := by decide +kernel
theorem pr_68_19 : pj_find 19 pj_m68.2.2.2.2.2.2 = some (.bipush (-2), 2) := by decide +kernel
theorem pr_68_21 : pj_find 21 pj_m68.2.2.2.2.2.2 = some (.ireturn, 1) := by decide +kernel
theorem pr_68_22 : pj_find 22 pj_m68.2.2.2.2.2.2 = some (.aload_n 0, 1) := by decide +kernel
theorem pr_68_23 : pj_find 23 pj_m68.2.2.2.2.2.2 = some (.getfield 10, 3) := by decide +kernel
theorem pr_68_26 : pj_find 26 pj_m68.2.2.2.2.2.2 = some (.iload_n 1, 1) := by decide +kernel
theorem pr_68_27 : pj_find 27 pj_m68.2.2.2.2.2.2 = some (.invokevirtual 84, 3) := by decide +kernel
theorem pr_68_30 : pj_find 30 pj_m68.2.2.2.2.2.2 = some (.istore_n 3, 1) := by decide +kernel
theorem pr_68_31 : pj_find 31 pj_m68.2.2.2.2.2.2 = some (.aload_n 0, 1) := by decide +kernel
theorem pr_68_32 : pj_find 32 pj_m68.2.2.2.2.2.2 = some (.getfield 10, 3) := by decide +kernel
theorem pr_68_35 : pj_find 35 pj_m68.2.2.2.2.2.2 = some (.iload_n 1, 1) := by decide +kernel
theorem pr_68_36 : pj_find 36 pj_m68.2.2.2.2.2.2 = some (.iload_n 2, 1) := by decide +kernel
theorem pr_68_37 : pj_find 37 pj_m68.2.2.2.2.2.2 = some (.invokevirtual 87, 3) := by decide +kernel
theorem pr_68_40 : pj_find 40 pj_m68.2.2.2.2.2.2 = some (.iload_n 3, 1) := by decide +kernel
theorem pr_68_41 : pj_find 41 pj_m68.2.2.2.2.2.2 = some (.ireturn, 1) := by decide +kernel
theorem pr_69_0 : pj_find 0 pj_m69.2.2.2.2.2.2 = some (.iload_n 1, 1) := by decide +kernel
theorem pr_69_1 : pj_find 1 pj_m69.2.2.2.2.2.2 = some (.invokestatic 90, 3) := by decide +kernel
theorem pr_69_4 : pj_find 4 pj_m69.2.2.2.2.2.2 = some (.ifCond .ne 5, 3) := by decide +kernel
theorem pr_69_7 : pj_find 7 pj_m69.2.2.2.2.2.2 = some (.iconst (-1), 1) := by decide +kernel
theorem pr_69_8 : pj_find 8 pj_m69.2.2.2.2.2.2 = some (.ireturn, 1) := by decide +kernel
theorem pr_69_9 : pj_find 9 pj_m69.2.2.2.2.2.2 = some (.iload_n 2, 1) := by decide +kernel
theorem pr_69_10 : pj_find 10 pj_m69.2.2.2.2.2.2 = some (.iconst 0, 1) := by decide +kernel
theorem pr_69_11 : pj_find 11 pj_m69.2.2.2.2.2.2 = some (.sipush 999, 3) := by decide +kernel
theorem pr_69_14 : pj_find 14 pj_m69.2.2.2.2.2.2 = some (.invokestatic 64, 3) := by decide +kernel
theorem pr_69_17 : pj_find 17 pj_m69.2.2.2.2.2.2 = some (.ifCond .ne 6, 3) := by decide +kernel
theorem pr_69_20 : pj_find 20 pj_m69.2.2.2.2.2.2 = some (.bipush (-2), 2) := by decide +kernel
theorem pr_69_22 : pj_find 22 pj_m69.2.2.2.2.2.2 = some (.ireturn, 1) := by decide +kernel
theorem pr_69_23 : pj_find 23 pj_m69.2.2.2.2.2.2 = some (.aload_n 0, 1) := by decide +kernel
theorem pr_69_24 : pj_find 24 pj_m69.2.2.2.2.2.2 = some (.getfield 10, 3) := by decide +kernel
theorem pr_69_27 : pj_find 27 pj_m69.2.2.2.2.2.2 = some (.iload_n 1, 1) := by decide +kernel
theorem pr_69_28 : pj_find 28 pj_m69.2.2.2.2.2.2 = some (.invokevirtual 93, 3) := by decide +kernel
theorem pr_69_31 : pj_find 31 pj_m69.2.2.2.2.2.2 = some (.istore_n 3, 1) := by decide +kernel
theorem pr_69_32 : pj_find 32 pj_m69.2.2.2.2.2.2 = some (.aload_n 0, 1) := by decide +kernel
theorem pr_69_33 : pj_find 33 pj_m69.2.2.2.2.2.2 = some (.getfield 10, 3) := by decide +kernel
theorem pr_69_36 : pj_find 36 pj_m69.2.2.2.2.2.2 = some (.iload_n 1, 1) := by decide +kernel
theorem pr_69_37 : pj_find 37 pj_m69.2.2.2.2.2.2 = some (.iload_n 2, 1) := by decide +kernel
theorem pr_69_38 : pj_find 38 pj_m69.2.2.2.2.2.2 = some (.invokevirtual 96, 3) := by decide +kernel
theorem pr_69_41 : pj_find 41 pj_m69.2.2.2.2.2.2 = some (.iload_n 3, 1) := by decide +kernel
theorem pr_69_42 : pj_find 42 pj_m69.2.2.2.2.2.2 = some (.ireturn, 1) := by decide +kernel
theorem pr_70_0 : pj_find 0 pj_m70.2.2.2.2.2.2 = some (.iload_n 1, 1) := by decide +kernel
theorem pr_70_1 : pj_find 1 pj_m70.2.2.2.2.2.2 = some (.bipush 33, 2) := by decide +kernel
theorem pr_70_3 : pj_find 3 pj_m70.2.2.2.2.2.2 = some (.bipush 126, 2) := by decide +kernel
theorem pr_70_5 : pj_find 5 pj_m70.2.2.2.2.2.2 = some (.invokestatic 64, 3) := by decide +kernel
theorem pr_70_8 : pj_find 8 pj_m70.2.2.2.2.2.2 = some (.ifCond .ne 6, 3) := by decide +kernel
theorem pr_70_11 : pj_find 11 pj_m70.2.2.2.2.2.2 = some (.bipush (-2), 2) := by decide +kernel
theorem pr_70_13 : pj_find 13 pj_m70.2.2.2.2.2.2 = some (.ireturn, 1) := by decide +kernel
theorem pr_70_14 : pj_find 14 pj_m70.2.2.2.2.2.2 = some (.aload_n 0, 1) := by decide +kernel
theorem pr_70_15 : pj_find 15 pj_m70.2.2.2.2.2.2 = some (.getfield 28, 3) := by decide +kernel
theorem pr_70_18 : pj_find 18 pj_m70.2.2.2.2.2.2 = some (.iload_n 1, 1) := by decide +kernel
theorem pr_70_19 : pj_find 19 pj_m70.2.2.2.2.2.2 = some (.invokevirtual 99, 3) := by decide +kernel
theorem pr_70_22 : pj_find 22 pj_m70.2.2.2.2.2.2 = some (.ifCond .eq 13, 3) := by decide +kernel
theorem pr_70_25 : pj_find 25 pj_m70.2.2.2.2.2.2 = some (.aload_n 0, 1) := by decide +kernel
theorem pr_70_26 : pj_find 26 pj_m70.2.2.2.2.2.2 = some (.getfield 28, 3) := by decide +kernel
theorem pr_70_29 : pj_find 29 pj_m70.2.2.2.2.2.2 = some (.invokevirtual 102, 3) := by decide +kernel
theorem pr_70_32 : pj_find 32 pj_m70.2.2.2.2.2.2 = some (.goto 5, 3) := by decide +kernel
theorem pr_70_35 : pj_find 35 pj_m70.2.2.2.2.2.2 = some (.bipush (-4), 2) := by decide +kernel
theorem pr_70_37 : pj_find 37 pj_m70.2.2.2.2.2.2 = some (.ireturn, 1) := by decide +kernel
theorem pr_71_0 : pj_find 0 pj_m71.2.2.2.2.2.2 = some (.aload_n 0, 1) := by decide +kernel
theorem pr_71_1 : pj_find 1 pj_m71.2.2.2.2.2.2 = some (.getfield 28, 3) := by decide +kernel
theorem pr_71_4 : pj_find 4 pj_m71.2.2.2.2.2.2 = some (.invokevirtual 102, 3) := by decide +kernel
theorem pr_71_7 : pj_find 7 pj_m71.2.2.2.2.2.2 = some (.istore_n 1, 1) := by decide +kernel
theorem pr_71_8 : pj_find 8 pj_m71.2.2.2.2.2.2 = some (.aload_n 0, 1) := by decide +kernel
theorem pr_71_9 : pj_find 9 pj_m71.2.2.2.2.2.2 = some (.getfield 28, 3) := by decide +kernel
theorem pr_71_12 : pj_find 12 pj_m71.2.2.2.2.2.2 = some (.invokevirtual 106, 3) := by decide +kernel
theorem pr_71_15 : pj_find 15 pj_m71.2.2.2.2.2.2 = some (.iload_n 1, 1) := by decide +kernel
theorem pr_71_16 : pj_find 16 pj_m71.2.2.2.2.2.2 = some (.ireturn, 1) := by decide +kernel
theorem pr_72_0 : pj_find 0 pj_m72.2.2.2.2.2.2 = some (.aload_n 0, 1) := by decide +kernel
theorem pr_72_1 : pj_find 1 pj_m72.2.2.2.2.2.2 = some (.getfield 28, 3) := by decide +kernel
theorem pr_72_4 : pj_find 4 pj_m72.2.2.2.2.2.2 = some (.invokevirtual 109, 3) := by decide +kernel
theorem pr_72_7 : pj_find 7 pj_m72.2.2.2.2.2.2 = some (.ireturn, 1) := by decide +kernel
theorem pr_73_0 : pj_find 0 pj_m73.2.2.2.2.2.2 = some (.iload_n 1, 1) := by decide +kernel
theorem pr_73_1 : pj_find 1 pj_m73.2.2.2.2.2.2 = some (.iconst 0, 1) := by decide +kernel
theorem pr_73_2 : pj_find 2 pj_m73.2.2.2.2.2.2 = some (.iconst 1, 1) := by decide +kernel
theorem pr_73_3 : pj_find 3 pj_m73.2.2.2.2.2.2 = some (.invokestatic 64, 3) := by decide +kernel
theorem pr_73_6 : pj_find 6 pj_m73.2.2.2.2.2.2 = some (.ifCond .ne 6, 3) := by decide +kernel
theorem pr_73_9 : pj_find 9 pj_m73.2.2.2.2.2.2 = some (.bipush (-2), 2) := by decide +kernel
theorem pr_73_11 : pj_find 11 pj_m73.2.2.2.2.2.2 = some (.ireturn, 1) := by decide +kernel
theorem pr_73_12 : pj_find 12 pj_m73.2.2.2.2.2.2 = some (.aload_n 0, 1) := by decide +kernel
theorem pr_73_13 : pj_find 13 pj_m73.2.2.2.2.2.2 = some (.getfield 28, 3) := by decide +kernel
theorem pr_73_16 : pj_find 16 pj_m73.2.2.2.2.2.2 = some (.invokevirtual 109, 3) := by decide +kernel
theorem pr_73_19 : pj_find 19 pj_m73.2.2.2.2.2.2 = some (.bipush (-6), 2) := by decide +kernel
theorem pr_73_21 : pj_find 21 pj_m73.2.2.2.2.2.2 = some (.if_icmp .eq 6, 3) := by decide +kernel
theorem pr_73_24 : pj_find 24 pj_m73.2.2.2.2.2.2 = some (.bipush (-5), 2) := by decide +kernel
theorem pr_73_26 : pj_find 26 pj_m73.2.2.2.2.2.2 = some (.ireturn, 1) := by decide +kernel
theorem pr_73_27 : pj_find 27 pj_m73.2.2.2.2.2.2 = some (.aload_n 0, 1) := by decide +kernel
theorem pr_73_28 : pj_find 28 pj_m73.2.2.2.2.2.2 = some (.getfield 35, 3) := by decide +kernel
theorem pr_73_31 : pj_find 31 pj_m73.2.2.2.2.2.2 = some (.aload_n 0, 1) := by decide +kernel
theorem pr_73_32 : pj_find 32 pj_m73.2.2.2.2.2.2 = some (.getfield 28, 3) := by decide +kernel
theorem pr_73_35 : pj_find 35 pj_m73.2.2.2.2.2.2 = some (.aload_n 0, 1) := by decide +kernel
theorem pr_73_36 : pj_find 36 pj_m73.2.2.2.2.2.2 = some (.getfield 10, 3) := by decide +kernel
theorem pr_73_39 : pj_find 39 pj_m73.2.2.2.2.2.2 = some (.aload_n 0, 1) := by decide +kernel
theorem pr_73_40 : pj_find 40 pj_m73.2.2.2.2.2.2 = some (.getfield 16, 3) := by decide +kernel
theorem pr_73_43 : pj_find 43 pj_m73.2.2.2.2.2.2 = some (.invokevirtual 112, 3) := by decide +kernel
theorem pr_73_46 : pj_find 46 pj_m73.2.2.2.2.2.2 = some (.iload_n 1, 1) := by decide +kernel
theorem pr_73_47 : pj_find 47 pj_m73.2.2.2.2.2.2 = some (.ifCond .ne 13, 3) := by decide +kernel
theorem pr_73_50 : pj_find 50 pj_m73.2.2.2.2.2.2 = some (.aload_n 0, 1) := by decide +kernel
theorem pr_73_51 : pj_find 51 pj_m73.2.2.2.2.2.2 = some (.getfield 35, 3) := by decide +kernel
theorem pr_73_54 : pj_find 54 pj_m73.2.2.2.2.2.2 = some (.getfield 116, 3) := by decide +kernel
theorem pr_73_57 : pj_find 57 pj_m73.2.2.2.2.2.2 = some (.goto 10, 3) := by decide +kernel
theorem pr_73_60 : pj_find 60 pj_m73.2.2.2.2.2.2 = some (.aload_n 0, 1) := by decide +kernel
theorem pr_73_61 : pj_find 61 pj_m73.2.2.2.2.2.2 = some (.getfield 35, 3) := by decide +kernel
theorem pr_73_64 : pj_find 64 pj_m73.2.2.2.2.2.2 = some (.getfield 120, 3) := by decide +kernel
theorem pr_73_67 : pj_find 67 pj_m73.2.2.2.2.2.2 = some (.ireturn, 1) := by decide +kernel
theorem pr_74_0 : pj_find 0 pj_m74.2.2.2.2.2.2 = some (.aload_n 0, 1) := by decide +kernel
theorem pr_74_1 : pj_find 1 pj_m74.2.2.2.2.2.2 = some (.invokevirtual 123, 3) := by decide +kernel
theorem pr_74_4 : pj_find 4 pj_m74.2.2.2.2.2.2 = some (.ifCond .ne 6, 3) := by decide +kernel
theorem pr_74_7 : pj_find 7 pj_m74.2.2.2.2.2.2 = some (.bipush (-5), 2) := by decide +kernel
theorem pr_74_9 : pj_find 9 pj_m74.2.2.2.2.2.2 = some (.ireturn, 1) := by decide +kernel
theorem pr_74_10 : pj_find 10 pj_m74.2.2.2.2.2.2 = some (.aload_n 0, 1) := by decide +kernel
theorem pr_74_11 : pj_find 11 pj_m74.2.2.2.2.2.2 = some (.getfield 10, 3) := by decide +kernel
theorem pr_74_14 : pj_find 14 pj_m74.2.2.2.2.2.2 = some (.aload_n 0, 1) := by decide +kernel
theorem pr_74_15 : pj_find 15 pj_m74.2.2.2.2.2.2 = some (.getfield 16, 3) := by decide +kernel
theorem pr_74_18 : pj_find 18 pj_m74.2.2.2.2.2.2 = some (.invokevirtual 127, 3) := by decide +kernel
theorem pr_74_21 : pj_find 21 pj_m74.2.2.2.2.2.2 = some (.aload_n 0, 1) := by decide +kernel
theorem pr_74_22 : pj_find 22 pj_m74.2.2.2.2.2.2 = some (.getfield 28, 3) := by decide +kernel
theorem pr_74_25 : pj_find 25 pj_m74.2.2.2.2.2.2 = some (.invokevirtual 106, 3) := by decide +kernel
theorem pr_74_28 : pj_find 28 pj_m74.2.2.2.2.2.2 = some (.aload_n 0, 1) := by decide +kernel
theorem pr_74_29 : pj_find 29 pj_m74.2.2.2.2.2.2 = some (.getfield 35, 3) := by decide +kernel
theorem pr_74_32 : pj_find 32 pj_m74.2.2.2.2.2.2 = some (.getfield 131, 3) := by decide +kernel
theorem pr_74_35 : pj_find 35 pj_m74.2.2.2.2.2.2 = some (.ireturn, 1) := by decide +kernel
theorem pr_75_0 : pj_find 0 pj_m75.2.2.2.2.2.2 = some (.iload_n 1, 1) := by decide +kernel
theorem pr_75_1 : pj_find 1 pj_m75.2.2.2.2.2.2 = some (.invokestatic 60, 3) := by decide +kernel
theorem pr_75_4 : pj_find 4 pj_m75.2.2.2.2.2.2 = some (.ifCond .ne 5, 3) := by decide +kernel
theorem pr_75_7 : pj_find 7 pj_m75.2.2.2.2.2.2 = some (.iconst (-1), 1) := by decide +kernel
theorem pr_75_8 : pj_find 8 pj_m75.2.2.2.2.2.2 = some (.ireturn, 1) := by decide +kernel
theorem pr_75_9 : pj_find 9 pj_m75.2.2.2.2.2.2 = some (.iload_n 2, 1) := by decide +kernel
theorem pr_75_10 : pj_find 10 pj_m75.2.2.2.2.2.2 = some (.iconst 0, 1) := by decide +kernel
theorem pr_75_11 : pj_find 11 pj_m75.2.2.2.2.2.2 = some (.iconst 1, 1) := by decide +kernel
theorem pr_75_12 : pj_find 12 pj_m75.2.2.2.2.2.2 = some (.invokestatic 64, 3) := by decide +kernel
theorem pr_75_15 : pj_find 15 pj_m75.2.2.2.2.2.2 = some (.ifCond .ne 6, 3) := by decide +kernel
theorem pr_75_18 : pj_find 18 pj_m75.2.2.2.2.2.2 = some (.bipush (-2), 2) := by decide +kernel
theorem pr_75_20 : pj_find 20 pj_m75.2.2.2.2.2.2 = some (.ireturn, 1) := by decide +kernel
theorem pr_75_21 : pj_find 21 pj_m75.2.2.2.2.2.2 = some (.aload_n 0, 1) := by decide +kernel
theorem pr_75_22 : pj_find 22 pj_m75.2.2.2.2.2.2 = some (.invokevirtual 123, 3) := by decide +kernel
theorem pr_75_25 : pj_find 25 pj_m75.2.2.2.2.2.2 = some (.ifCond .ne 6, 3) := by decide +kernel
theorem pr_75_28 : pj_find 28 pj_m75.2.2.2.2.2.2 = some (.bipush (-5), 2) := by decide +kernel
theorem pr_75_30 : pj_find 30 pj_m75.2.2.2.2.2.2 = some (.ireturn, 1) := by decide +kernel
theorem pr_75_31 : pj_find 31 pj_m75.2.2.2.2.2.2 = some (.iload_n 2, 1) := by decide +kernel
theorem pr_75_32 : pj_find 32 pj_m75.2.2.2.2.2.2 = some (.ifCond .ne 14, 3) := by decide +kernel
theorem pr_75_35 : pj_find 35 pj_m75.2.2.2.2.2.2 = some (.aload_n 0, 1) := by decide +kernel
theorem pr_75_36 : pj_find 36 pj_m75.2.2.2.2.2.2 = some (.getfield 16, 3) := by decide +kernel
theorem pr_75_39 : pj_find 39 pj_m75.2.2.2.2.2.2 = some (.iload_n 1, 1) := by decide +kernel
theorem pr_75_40 : pj_find 40 pj_m75.2.2.2.2.2.2 = some (.invokevirtual 68, 3) := by decide +kernel
theorem pr_75_43 : pj_find 43 pj_m75.2.2.2.2.2.2 = some (.goto 14, 3) := by decide +kernel
theorem pr_75_46 : pj_find 46 pj_m75.2.2.2.2.2.2 = some (.aload_n 0, 1) := by decide +kernel
theorem pr_75_47 : pj_find 47 pj_m75.2.2.2.2.2.2 = some (.getfield 16, 3) := by decide +kernel
theorem pr_75_50 : pj_find 50 pj_m75.2.2.2.2.2.2 = some (.getfield 134, 3) := by decide +kernel
theorem pr_75_53 : pj_find 53 pj_m75.2.2.2.2.2.2 = some (.iload_n 1, 1) := by decide +kernel
theorem pr_75_54 : pj_find 54 pj_m75.2.2.2.2.2.2 = some (.ishr, 1) := by decide +kernel
theorem pr_75_55 : pj_find 55 pj_m75.2.2.2.2.2.2 = some (.iconst 1, 1) := by decide +kernel
theorem pr_75_56 : pj_find 56 pj_m75.2.2.2.2.2.2 = some (.iand, 1) := by decide +kernel
theorem pr_75_57 : pj_find 57 pj_m75.2.2.2.2.2.2 = some (.ireturn, 1) := by decide +kernel
theorem pr_76_0 : pj_find 0 pj_m76.2.2.2.2.2.2 = some (.iload_n 1, 1) := by decide +kernel
theorem pr_76_1 : pj_find 1 pj_m76.2.2.2.2.2.2 = some (.invokestatic 90, 3) := by decide +kernel
theorem pr_76_4 : pj_find 4 pj_m76.2.2.2.2.2.2 = some (.ifCond .ne 5, 3) := by decide +kernel
theorem pr_76_7 : pj_find 7 pj_m76.2.2.2.2.2.2 = some (.iconst (-1), 1) := by decide +kernel
theorem pr_76_8 : pj_find 8 pj_m76.2.2.2.2.2.2 = some (.ireturn, 1) := by decide +kernel
theorem pr_76_9 : pj_find 9 pj_m76.2.2.2.2.2.2 = some (.aload_n 0, 1) := by decide +kernel
theorem pr_76_10 : pj_find 10 pj_m76.2.2.2.2.2.2 = some (.invokevirtual 123, 3) := by decide +kernel
theorem pr_76_13 : pj_find 13 pj_m76.2.2.2.2.2.2 = some (.ifCond .eq 14, 3) := by decide +kernel
theorem pr_76_16 : pj_find 16 pj_m76.2.2.2.2.2.2 = some (.aload_n 0, 1) := by decide +kernel
theorem pr_76_17 : pj_find 17 pj_m76.2.2.2.2.2.2 = some (.getfield 16, 3) := by decide +kernel
theorem pr_76_20 : pj_find 20 pj_m76.2.2.2.2.2.2 = some (.iload_n 1, 1) := by decide +kernel
theorem pr_76_21 : pj_find 21 pj_m76.2.2.2.2.2.2 = some (.invokevirtual 93, 3) := by decide +kernel
theorem pr_76_24 : pj_find 24 pj_m76.2.2.2.2.2.2 = some (.goto 5, 3) := by decide +kernel
theorem pr_76_27 : pj_find 27 pj_m76.2.2.2.2.2.2 = some (.bipush (-5), 2) := by decide +kernel
theorem pr_76_29 : pj_find 29 pj_m76.2.2.2.2.2.2 = some (.ireturn, 1) := by decide +kernel
theorem pr_77_0 : pj_find 0 pj_m77.2.2.2.2.2.2 = some (.iload_n 1, 1) := by decide +kernel
theorem pr_77_1 : pj_find 1 pj_m77.2.2.2.2.2.2 = some (.iconst 0, 1) := by decide +kernel
theorem pr_77_2 : pj_find 2 pj_m77.2.2.2.2.2.2 = some (.bipush 6, 2) := by decide +kernel
theorem pr_77_4 : pj_find 4 pj_m77.2.2.2.2.2.2 = some (.invokestatic 64, 3) := by decide +kernel
theorem pr_77_7 : pj_find 7 pj_m77.2.2.2.2.2.2 = some (.ifCond .ne 6, 3) := by decide +kernel
theorem pr_77_10 : pj_find 10 pj_m77.2.2.2.2.2.2 = some (.bipush (-2), 2) := by decide +kernel
theorem pr_77_12 : pj_find 12 pj_m77.2.2.2.2.2.2 = some (.ireturn, 1) := by decide +kernel
theorem pr_77_13 : pj_find 13 pj_m77.2.2.2.2.2.2 = some (.aload_n 0, 1) := by decide +kernel
theorem pr_77_14 : pj_find 14 pj_m77.2.2.2.2.2.2 = some (.invokevirtual 123, 3) := by decide +kernel
theorem pr_77_17 : pj_find 17 pj_m77.2.2.2.2.2.2 = some (.ifCond .ne 6, 3) := by decide +kernel
theorem pr_77_20 : pj_find 20 pj_m77.2.2.2.2.2.2 = some (.bipush (-5), 2) := by decide +kernel
theorem pr_77_22 : pj_find 22 pj_m77.2.2.2.2.2.2 = some (.ireturn, 1) := by decide +kernel
theorem pr_77_23 : pj_find 23 pj_m77.2.2.2.2.2.2 = some (.iload_n 1, 1) := by decide +kernel
theorem pr_77_24 : pj_find 24 pj_m77.2.2.2.2.2.2 = some (.tableswitch 91 0 5 #[40, 50, 59, 67, 75, 83], 40) := by decide +kernel
theorem pr_77_64 : pj_find 64 pj_m77.2.2.2.2.2.2 = some (.aload_n 0, 1) := by decide +kernel
theorem pr_77_65 : pj_find 65 pj_m77.2.2.2.2.2.2 = some (.getfield 16, 3) := by decide +kernel
theorem pr_77_68 : pj_find 68 pj_m77.2.2.2.2.2.2 = some (.bipush 6, 2) := by decide +kernel
theorem pr_77_70 : pj_find 70 pj_m77.2.2.2.2.2.2 = some (.invokevirtual 137, 3) := by decide +kernel
theorem pr_77_73 : pj_find 73 pj_m77.2.2.2.2.2.2 = some (.ireturn, 1) := by decide +kernel
theorem pr_77_74 : pj_find 74 pj_m77.2.2.2.2.2.2 = some (.aload_n 0, 1) := by decide +kernel
theorem pr_77_75 : pj_find 75 pj_m77.2.2.2.2.2.2 = some (.getfield 16, 3) := by decide +kernel
theorem pr_77_78 : pj_find 78 pj_m77.2.2.2.2.2.2 = some (.iconst 0, 1) := by decide +kernel
theorem pr_77_79 : pj_find 79 pj_m77.2.2.2.2.2.2 = some (.invokevirtual 137, 3) := by decide +kernel
theorem pr_77_82 : pj_find 82 pj_m77.2.2.2.2.2.2 = some (.ireturn, 1) := by decide +kernel
theorem pr_77_83 : pj_find 83 pj_m77.2.2.2.2.2.2 = some (.aload_n 0, 1) := by decide +kernel
theorem pr_77_84 : pj_find 84 pj_m77.2.2.2.2.2.2 = some (.getfield 16, 3) := by decide +kernel
theorem pr_77_87 : pj_find 87 pj_m77.2.2.2.2.2.2 = some (.getfield 134, 3) := by decide +kernel
theorem pr_77_90 : pj_find 90 pj_m77.2.2.2.2.2.2 = some (.ireturn, 1) := by decide +kernel
theorem pr_77_91 : pj_find 91 pj_m77.2.2.2.2.2.2 = some (.aload_n 0, 1) := by decide +kernel
theorem pr_77_92 : pj_find 92 pj_m77.2.2.2.2.2.2 = some (.getfield 16, 3) := by decide +kernel
theorem pr_77_95 : pj_find 95 pj_m77.2.2.2.2.2.2 = some (.getfield 140, 3) := by decide +kernel
theorem pr_77_98 : pj_find 98 pj_m77.2.2.2.2.2.2 = some (.ireturn, 1) := by decide +kernel
theorem pr_77_99 : pj_find 99 pj_m77.2.2.2.2.2.2 = some (.aload_n 0, 1) := by decide +kernel
theorem pr_77_100 : pj_find 100 pj_m77.2.2.2.2.2.2 = some (.getfield 16, 3) := by decide +kernel
theorem pr_77_103 : pj_find 103 pj_m77.2.2.2.2.2.2 = some (.getfield 143, 3) := by decide +kernel
theorem pr_77_106 : pj_find 106 pj_m77.2.2.2.2.2.2 = some (.ireturn, 1) := by decide +kernel
theorem pr_77_107 : pj_find 107 pj_m77.2.2.2.2.2.2 = some (.aload_n 0, 1) := by decide +kernel
theorem pr_77_108 : pj_find 108 pj_m77.2.2.2.2.2.2 = some (.getfield 35, 3) := by decide +kernel
theorem pr_77_111 : pj_find 111 pj_m77.2.2.2.2.2.2 = some (.getfield 146, 3) := by decide +kernel
theorem pr_77_114 : pj_find 114 pj_m77.2.2.2.2.2.2 = some (.ireturn, 1) := by decide +kernel
theorem pr_77_115 : pj_find 115 pj_m77.2.2.2.2.2.2 = some (.aload_n 0, 1) := by decide +kernel
theorem pr_77_116 : pj_find 116 pj_m77.2.2.2.2.2.2 = some (.getfield 35, 3) := by decide +kernel
theorem pr_77_119 : pj_find 119 pj_m77.2.2.2.2.2.2 = some (.getfield 149, 3) := by decide +kernel
theorem pr_77_122 : pj_find 122 pj_m77.2.2.2.2.2.2 = some (.ireturn, 1) := by decide +kernel
theorem pr_78_0 : pj_find 0 pj_m78.2.2.2.2.2.2 = some (.iload_n 1, 1) := by decide +kernel
theorem pr_78_1 : pj_find 1 pj_m78.2.2.2.2.2.2 = some (.invokestatic 80, 3) := by decide +kernel
theorem pr_78_4 : pj_find 4 pj_m78.2.2.2.2.2.2 = some (.ifCond .ne 5, 3) := by decide +kernel
theorem pr_78_7 : pj_find 7 pj_m78.2.2.2.2.2.2 = some (.iconst (-1), 1) := by decide +kernel
theorem pr_78_8 : pj_find 8 pj_m78.2.2.2.2.2.2 = some (.ireturn, 1) := by decide +kernel
theorem pr_78_9 : pj_find 9 pj_m78.2.2.2.2.2.2 = some (.iload_n 2, 1) := by decide +kernel
theorem pr_78_10 : pj_find 10 pj_m78.2.2.2.2.2.2 = some (.iconst 0, 1) := by decide +kernel
theorem pr_78_11 : pj_find 11 pj_m78.2.2.2.2.2.2 = some (.bipush 7, 2) := by decide +kernel
theorem pr_78_13 : pj_find 13 pj_m78.2.2.2.2.2.2 = some (.invokestatic 64, 3) := by decide +kernel
theorem pr_78_16 : pj_find 16 pj_m78.2.2.2.2.2.2 = some (.ifCond .ne 6, 3) := by decide +kernel
theorem pr_78_19 : pj_find 19 pj_m78.2.2.2.2.2.2 = some (.bipush (-2), 2) := by decide +kernel
theorem pr_78_21 : pj_find 21 pj_m78.2.2.2.2.2.2 = some (.ireturn, 1) := by decide +kernel
theorem pr_78_22 : pj_find 22 pj_m78.2.2.2.2.2.2 = some (.aload_n 0, 1) := by decide +kernel
theorem pr_78_23 : pj_find 23 pj_m78.2.2.2.2.2.2 = some (.getfield 10, 3) := by decide +kernel
theorem pr_78_26 : pj_find 26 pj_m78.2.2.2.2.2.2 = some (.iload_n 1, 1) := by decide +kernel
theorem pr_78_27 : pj_find 27 pj_m78.2.2.2.2.2.2 = some (.invokevirtual 84, 3) := by decide +kernel
theorem pr_78_30 : pj_find 30 pj_m78.2.2.2.2.2.2 = some (.istore_n 3, 1) := by decide +kernel
theorem pr_78_31 : pj_find 31 pj_m78.2.2.2.2.2.2 = some (.iload_n 2, 1) := by decide +kernel
theorem pr_78_32 : pj_find 32 pj_m78.2.2.2.2.2.2 = some (.iconst 4, 1) := by decide +kernel
theorem pr_78_33 : pj_find 33 pj_m78.2.2.2.2.2.2 = some (.if_icmp .ge 11, 3) := by decide +kernel
theorem pr_78_36 : pj_find 36 pj_m78.2.2.2.2.2.2 = some (.iload_n 3, 1) := by decide +kernel
theorem pr_78_37 : pj_find 37 pj_m78.2.2.2.2.2.2 = some (.iload_n 2, 1) := by decide +kernel
theorem pr_78_38 : pj_find 38 pj_m78.2.2.2.2.2.2 = some (.invokestatic 152, 3) := by decide +kernel
theorem pr_78_41 : pj_find 41 pj_m78.2.2.2.2.2.2 = some (.goto 13, 3) := by decide +kernel
theorem pr_78_44 : pj_find 44 pj_m78.2.2.2.2.2.2 = some (.iload_n 3, 1) := by decide +kernel
theorem pr_78_45 : pj_find 45 pj_m78.2.2.2.2.2.2 = some (.invokestatic 158, 3) := by decide +kernel
theorem pr_78_48 : pj_find 48 pj_m78.2.2.2.2.2.2 = some (.iload_n 2, 1) := by decide +kernel
theorem pr_78_49 : pj_find 49 pj_m78.2.2.2.2.2.2 = some (.iconst 4, 1) := by decide +kernel
theorem pr_78_50 : pj_find 50 pj_m78.2.2.2.2.2.2 = some (.isub, 1) := by decide +kernel
theorem pr_78_51 : pj_find 51 pj_m78.2.2.2.2.2.2 = some (.invokestatic 152, 3) := by decide +kernel
theorem pr_78_54 : pj_find 54 pj_m78.2.2.2.2.2.2 = some (.ireturn, 1) := by decide +kernel
theorem pr_79_0 : pj_find 0 pj_m79.2.2.2.2.2.2 = some (.iload_n 1, 1) := by decide +kernel
theorem pr_79_1 : pj_find 1 pj_m79.2.2.2.2.2.2 = some (.iconst 0, 1) := by decide +kernel
theorem pr_79_2 : pj_find 2 pj_m79.2.2.2.2.2.2 = some (.iconst 1, 1) := by decide +kernel
theorem pr_79_3 : pj_find 3 pj_m79.2.2.2.2.2.2 = some (.invokestatic 64, 3) := by decide +kernel
theorem pr_79_6 : pj_find 6 pj_m79.2.2.2.2.2.2 = some (.ifCond .eq 17, 3) := by decide +kernel
theorem pr_79_9 : pj_find 9 pj_m79.2.2.2.2.2.2 = some (.aload_n 0, 1) := by decide +kernel
theorem pr_79_10 : pj_find 10 pj_m79.2.2.2.2.2.2 = some (.getfield 10, 3) := by decide +kernel
theorem pr_79_13 : pj_find 13 pj_m79.2.2.2.2.2.2 = some (.invokestatic 161, 3) := by decide +kernel
theorem pr_79_16 : pj_find 16 pj_m79.2.2.2.2.2.2 = some (.iload_n 1, 1) := by decide +kernel
theorem pr_79_17 : pj_find 17 pj_m79.2.2.2.2.2.2 = some (.invokestatic 167, 3) := by decide +kernel
theorem pr_79_20 : pj_find 20 pj_m79.2.2.2.2.2.2 = some (.goto 5, 3) := by decide +kernel
theorem pr_79_23 : pj_find 23 pj_m79.2.2.2.2.2.2 = some (.bipush (-2), 2) := by decide +kernel
theorem pr_79_25 : pj_find 25 pj_m79.2.2.2.2.2.2 = some (.ireturn, 1) := by decide +kernel
theorem pr_80_0 : pj_find 0 pj_m80.2.2.2.2.2.2 = some (.iload_n 1, 1) := by decide +kernel
theorem pr_80_1 : pj_find 1 pj_m80.2.2.2.2.2.2 = some (.iconst 0, 1) := by decide +kernel
theorem pr_80_2 : pj_find 2 pj_m80.2.2.2.2.2.2 = some (.iconst 1, 1) := by decide +kernel
theorem pr_80_3 : pj_find 3 pj_m80.2.2.2.2.2.2 = some (.invokestatic 64, 3) := by decide +kernel
theorem pr_80_6 : pj_find 6 pj_m80.2.2.2.2.2.2 = some (.ifCond .eq 17, 3) := by decide +kernel
theorem pr_80_9 : pj_find 9 pj_m80.2.2.2.2.2.2 = some (.aload_n 0, 1) := by decide +kernel
theorem pr_80_10 : pj_find 10 pj_m80.2.2.2.2.2.2 = some (.getfield 10, 3) := by decide +kernel
theorem pr_80_13 : pj_find 13 pj_m80.2.2.2.2.2.2 = some (.invokestatic 170, 3) := by decide +kernel
theorem pr_80_16 : pj_find 16 pj_m80.2.2.2.2.2.2 = some (.iload_n 1, 1) := by decide +kernel
theorem pr_80_17 : pj_find 17 pj_m80.2.2.2.2.2.2 = some (.invokestatic 167, 3) := by decide +kernel
theorem pr_80_20 : pj_find 20 pj_m80.2.2.2.2.2.2 = some (.goto 5, 3) := by decide +kernel
theorem pr_80_23 : pj_find 23 pj_m80.2.2.2.2.2.2 = some (.bipush (-2), 2) := by decide +kernel
theorem pr_80_25 : pj_find 25 pj_m80.2.2.2.2.2.2 = some (.ireturn, 1) := by decide +kernel
theorem pr_81_0 : pj_find 0 pj_m81.2.2.2.2.2.2 = some (.iload_n 1, 1) := by decide +kernel
theorem pr_81_1 : pj_find 1 pj_m81.2.2.2.2.2.2 = some (.iconst 1, 1) := by decide +kernel
theorem pr_81_2 : pj_find 2 pj_m81.2.2.2.2.2.2 = some (.ldc 83, 2) := by decide +kernel
theorem pr_81_4 : pj_find 4 pj_m81.2.2.2.2.2.2 = some (.invokestatic 64, 3) := by decide +kernel
theorem pr_81_7 : pj_find 7 pj_m81.2.2.2.2.2.2 = some (.ifCond .eq 12, 3) := by decide +kernel
theorem pr_81_10 : pj_find 10 pj_m81.2.2.2.2.2.2 = some (.iload_n 2, 1) := by decide +kernel
theorem pr_81_11 : pj_find 11 pj_m81.2.2.2.2.2.2 = some (.iconst 0, 1) := by decide +kernel
theorem pr_81_12 : pj_find 12 pj_m81.2.2.2.2.2.2 = some (.iconst 1, 1) := by decide +kernel
theorem pr_81_13 : pj_find 13 pj_m81.2.2.2.2.2.2 = some (.invokestatic 64, 3) := by decide +kernel
theorem pr_81_16 : pj_find 16 pj_m81.2.2.2.2.2.2 = some (.ifCond .ne 6, 3) := by decide +kernel
theorem pr_81_19 : pj_find 19 pj_m81.2.2.2.2.2.2 = some (.bipush (-2), 2) := by decide +kernel
theorem pr_81_21 : pj_find 21 pj_m81.2.2.2.2.2.2 = some (.ireturn, 1) := by decide +kernel
theorem pr_81_22 : pj_find 22 pj_m81.2.2.2.2.2.2 = some (.aload_n 0, 1) := by decide +kernel
theorem pr_81_23 : pj_find 23 pj_m81.2.2.2.2.2.2 = some (.iload_n 1, 1) := by decide +kernel
theorem pr_81_24 : pj_find 24 pj_m81.2.2.2.2.2.2 = some (.invokevirtual 173, 3) := by decide +kernel
theorem pr_81_27 : pj_find 27 pj_m81.2.2.2.2.2.2 = some (.istore_n 3, 1) := by decide +kernel
theorem pr_81_28 : pj_find 28 pj_m81.2.2.2.2.2.2 = some (.iload_n 3, 1) := by decide +kernel
theorem pr_81_29 : pj_find 29 pj_m81.2.2.2.2.2.2 = some (.ifCond .ne 8, 3) := by decide +kernel
theorem pr_81_32 : pj_find 32 pj_m81.2.2.2.2.2.2 = some (.bipush (-6), 2) := by decide +kernel
theorem pr_81_34 : pj_find 34 pj_m81.2.2.2.2.2.2 = some (.goto 8, 3) := by decide +kernel
theorem pr_81_37 : pj_find 37 pj_m81.2.2.2.2.2.2 = some (.iload_n 3, 1) := by decide +kernel
theorem pr_81_38 : pj_find 38 pj_m81.2.2.2.2.2.2 = some (.iload_n 2, 1) := by decide +kernel
theorem pr_81_39 : pj_find 39 pj_m81.2.2.2.2.2.2 = some (.invokestatic 167, 3) := by decide +kernel
theorem pr_81_42 : pj_find 42 pj_m81.2.2.2.2.2.2 = some (.ireturn, 1) := by decide +kernel
theorem pr_82_0 : pj_find 0 pj_m82.2.2.2.2.2.2 = some (.aload_n 0, 1) := by decide +kernel
theorem pr_82_1 : pj_find 1 pj_m82.2.2.2.2.2.2 = some (.getfield 42, 3) := by decide +kernel
theorem pr_82_4 : pj_find 4 pj_m82.2.2.2.2.2.2 = some (.aload_n 0, 1) := by decide +kernel
theorem pr_82_5 : pj_find 5 pj_m82.2.2.2.2.2.2 = some (.getfield 10, 3) := by decide +kernel
theorem pr_82_8 : pj_find 8 pj_m82.2.2.2.2.2.2 = some (.invokevirtual 176, 3) := by decide +kernel
theorem pr_82_11 : pj_find 11 pj_m82.2.2.2.2.2.2 = some (.aload_n 0, 1) := by decide +kernel
theorem pr_82_12 : pj_find 12 pj_m82.2.2.2.2.2.2 = some (.getfield 42, 3) := by decide +kernel
theorem pr_82_15 : pj_find 15 pj_m82.2.2.2.2.2.2 = some (.getfield 179, 3) := by decide +kernel
theorem pr_82_18 : pj_find 18 pj_m82.2.2.2.2.2.2 = some (.ireturn, 1) := by decide +kernel
theorem pr_83_0 : pj_find 0 pj_m83.2.2.2.2.2.2 = some (.iload_n 1, 1) := by decide +kernel
theorem pr_83_1 : pj_find 1 pj_m83.2.2.2.2.2.2 = some (.iconst 0, 1) := by decide +kernel
theorem pr_83_2 : pj_find 2 pj_m83.2.2.2.2.2.2 = some (.iconst 1, 1) := by decide +kernel
theorem pr_83_3 : pj_find 3 pj_m83.2.2.2.2.2.2 = some (.invokestatic 64, 3) := by decide +kernel
theorem pr_83_6 : pj_find 6 pj_m83.2.2.2.2.2.2 = some (.ifCond .ne 6, 3) := by decide +kernel
theorem pr_83_9 : pj_find 9 pj_m83.2.2.2.2.2.2 = some (.bipush (-2), 2) := by decide +kernel
theorem pr_83_11 : pj_find 11 pj_m83.2.2.2.2.2.2 = some (.ireturn, 1) := by decide +kernel
theorem pr_83_12 : pj_find 12 pj_m83.2.2.2.2.2.2 = some (.aload_n 0, 1) := by decide +kernel
theorem pr_83_13 : pj_find 13 pj_m83.2.2.2.2.2.2 = some (.getfield 42, 3) := by decide +kernel
theorem pr_83_16 : pj_find 16 pj_m83.2.2.2.2.2.2 = some (.aload_n 0, 1) := by decide +kernel
theorem pr_83_17 : pj_find 17 pj_m83.2.2.2.2.2.2 = some (.getfield 10, 3) := by decide +kernel
theorem pr_83_20 : pj_find 20 pj_m83.2.2.2.2.2.2 = some (.invokevirtual 176, 3) := by decide +kernel
theorem pr_83_23 : pj_find 23 pj_m83.2.2.2.2.2.2 = some (.aload_n 0, 1) := by decide +kernel
theorem pr_83_24 : pj_find 24 pj_m83.2.2.2.2.2.2 = some (.getfield 42, 3) := by decide +kernel
theorem pr_83_27 : pj_find 27 pj_m83.2.2.2.2.2.2 = some (.getfield 182, 3) := by decide +kernel
theorem pr_83_30 : pj_find 30 pj_m83.2.2.2.2.2.2 = some (.bipush (-6), 2) := by decide +kernel
theorem pr_83_32 : pj_find 32 pj_m83.2.2.2.2.2.2 = some (.if_icmp .ne 6, 3) := by decide +kernel
theorem pr_83_35 : pj_find 35 pj_m83.2.2.2.2.2.2 = some (.bipush (-6), 2) := by decide +kernel
theorem pr_83_37 : pj_find 37 pj_m83.2.2.2.2.2.2 = some (.ireturn, 1) := by decide +kernel
theorem pr_83_38 : pj_find 38 pj_m83.2.2.2.2.2.2 = some (.iload_n 1, 1) := by decide +kernel
theorem pr_83_39 : pj_find 39 pj_m83.2.2.2.2.2.2 = some (.ifCond .ne 16, 3) := by decide +kernel
theorem pr_83_42 : pj_find 42 pj_m83.2.2.2.2.2.2 = some (.aload_n 0, 1) := by decide +kernel
theorem pr_83_43 : pj_find 43 pj_m83.2.2.2.2.2.2 = some (.getfield 42, 3) := by decide +kernel
theorem pr_83_46 : pj_find 46 pj_m83.2.2.2.2.2.2 = some (.getfield 182, 3) := by decide +kernel
theorem pr_83_49 : pj_find 49 pj_m83.2.2.2.2.2.2 = some (.invokestatic 185, 3) := by decide +kernel
theorem pr_83_52 : pj_find 52 pj_m83.2.2.2.2.2.2 = some (.goto 10, 3) := by decide +kernel
theorem pr_83_55 : pj_find 55 pj_m83.2.2.2.2.2.2 = some (.aload_n 0, 1) := by decide +kernel
theorem pr_83_56 : pj_find 56 pj_m83.2.2.2.2.2.2 = some (.getfield 42, 3) := by decide +kernel
theorem pr_83_59 : pj_find 59 pj_m83.2.2.2.2.2.2 = some (.getfield 182, 3) := by decide +kernel
theorem pr_83_62 : pj_find 62 pj_m83.2.2.2.2.2.2 = some (.ireturn, 1) := by decide +kernel
theorem pr_84_0 : pj_find 0 pj_m84.2.2.2.2.2.2 = some (.iload_n 1, 1) := by decide +kernel
theorem pr_84_1 : pj_find 1 pj_m84.2.2.2.2.2.2 = some (.invokestatic 60, 3) := by decide +kernel
theorem pr_84_4 : pj_find 4 pj_m84.2.2.2.2.2.2 = some (.ifCond .ne 5, 3) := by decide +kernel
theorem pr_84_7 : pj_find 7 pj_m84.2.2.2.2.2.2 = some (.iconst (-1), 1) := by decide +kernel
theorem pr_84_8 : pj_find 8 pj_m84.2.2.2.2.2.2 = some (.ireturn, 1) := by decide +kernel
theorem pr_84_9 : pj_find 9 pj_m84.2.2.2.2.2.2 = some (.aload_n 0, 1) := by decide +kernel
theorem pr_84_10 : pj_find 10 pj_m84.2.2.2.2.2.2 = some (.getfield 10, 3) := by decide +kernel
theorem pr_84_13 : pj_find 13 pj_m84.2.2.2.2.2.2 = some (.getfield 188, 3) := by decide +kernel
theorem pr_84_16 : pj_find 16 pj_m84.2.2.2.2.2.2 = some (.bipush 8, 2) := by decide +kernel
theorem pr_84_18 : pj_find 18 pj_m84.2.2.2.2.2.2 = some (.if_icmp .lt 6, 3) := by decide +kernel
theorem pr_84_21 : pj_find 21 pj_m84.2.2.2.2.2.2 = some (.bipush (-4), 2) := by decide +kernel
theorem pr_84_23 : pj_find 23 pj_m84.2.2.2.2.2.2 = some (.ireturn, 1) := by decide +kernel
theorem pr_84_24 : pj_find 24 pj_m84.2.2.2.2.2.2 = some (.aload_n 0, 1) := by decide +kernel
theorem pr_84_25 : pj_find 25 pj_m84.2.2.2.2.2.2 = some (.getfield 10, 3) := by decide +kernel
theorem pr_84_28 : pj_find 28 pj_m84.2.2.2.2.2.2 = some (.iload_n 1, 1) := by decide +kernel
theorem pr_84_29 : pj_find 29 pj_m84.2.2.2.2.2.2 = some (.iload_n 2, 1) := by decide +kernel
theorem pr_84_30 : pj_find 30 pj_m84.2.2.2.2.2.2 = some (.invokevirtual 191, 3) := by decide +kernel
theorem pr_84_33 : pj_find 33 pj_m84.2.2.2.2.2.2 = some (.aload_n 0, 1) := by decide +kernel
theorem pr_84_34 : pj_find 34 pj_m84.2.2.2.2.2.2 = some (.getfield 10, 3) := by decide +kernel
theorem pr_84_37 : pj_find 37 pj_m84.2.2.2.2.2.2 = some (.getfield 188, 3) := by decide +kernel
theorem pr_84_40 : pj_find 40 pj_m84.2.2.2.2.2.2 = some (.ireturn, 1) := by decide +kernel
theorem pr_85_0 : pj_find 0 pj_m85.2.2.2.2.2.2 = some (.aload_n 0, 1) := by decide +kernel
theorem pr_85_1 : pj_find 1 pj_m85.2.2.2.2.2.2 = some (.getfield 10, 3) := by decide +kernel
theorem pr_85_4 : pj_find 4 pj_m85.2.2.2.2.2.2 = some (.getfield 188, 3) := by decide +kernel
theorem pr_85_7 : pj_find 7 pj_m85.2.2.2.2.2.2 = some (.istore_n 1, 1) := by decide +kernel
theorem pr_85_8 : pj_find 8 pj_m85.2.2.2.2.2.2 = some (.aload_n 0, 1) := by decide +kernel
theorem pr_85_9 : pj_find 9 pj_m85.2.2.2.2.2.2 = some (.getfield 10, 3) := by decide +kernel
theorem pr_85_12 : pj_find 12 pj_m85.2.2.2.2.2.2 = some (.invokevirtual 194, 3) := by decide +kernel
theorem pr_85_15 : pj_find 15 pj_m85.2.2.2.2.2.2 = some (.iload_n 1, 1) := by decide +kernel
theorem pr_85_16 : pj_find 16 pj_m85.2.2.2.2.2.2 = some (.ireturn, 1) := by decide +kernel
theorem pr_86_0 : pj_find 0 pj_m86.2.2.2.2.2.2 = some (.aload_n 0, 1) := by decide +kernel
theorem pr_86_1 : pj_find 1 pj_m86.2.2.2.2.2.2 = some (.getfield 49, 3) := by decide +kernel
theorem pr_86_4 : pj_find 4 pj_m86.2.2.2.2.2.2 = some (.aload_n 0, 1) := by decide +kernel
theorem pr_86_5 : pj_find 5 pj_m86.2.2.2.2.2.2 = some (.getfield 10, 3) := by decide +kernel
theorem pr_86_8 : pj_find 8 pj_m86.2.2.2.2.2.2 = some (.invokevirtual 197, 3) := by decide +kernel
theorem pr_86_11 : pj_find 11 pj_m86.2.2.2.2.2.2 = some (.iload_n 1, 1) := by decide +kernel
theorem pr_86_12 : pj_find 12 pj_m86.2.2.2.2.2.2 = some (.iconst (-1), 1) := by decide +kernel
theorem pr_86_13 : pj_find 13 pj_m86.2.2.2.2.2.2 = some (.if_icmp .ne 13, 3) := by decide +kernel
theorem pr_86_16 : pj_find 16 pj_m86.2.2.2.2.2.2 = some (.aload_n 0, 1) := by decide +kernel
theorem pr_86_17 : pj_find 17 pj_m86.2.2.2.2.2.2 = some (.getfield 49, 3) := by decide +kernel
theorem pr_86_20 : pj_find 20 pj_m86.2.2.2.2.2.2 = some (.getfield 200, 3) := by decide +kernel
theorem pr_86_23 : pj_find 23 pj_m86.2.2.2.2.2.2 = some (.goto 11, 3) := by decide +kernel
theorem pr_86_26 : pj_find 26 pj_m86.2.2.2.2.2.2 = some (.aload_n 0, 1) := by decide +kernel
theorem pr_86_27 : pj_find 27 pj_m86.2.2.2.2.2.2 = some (.getfield 49, 3) := by decide +kernel
theorem pr_86_30 : pj_find 30 pj_m86.2.2.2.2.2.2 = some (.iload_n 1, 1) := by decide +kernel
theorem pr_86_31 : pj_find 31 pj_m86.2.2.2.2.2.2 = some (.invokevirtual 203, 3) := by decide +kernel
theorem pr_86_34 : pj_find 34 pj_m86.2.2.2.2.2.2 = some (.ireturn, 1) := by decide +kernel
theorem pr_87_0 : pj_find 0 pj_m87.2.2.2.2.2.2 = some (.iload_n 1, 1) := by decide +kernel
theorem pr_87_1 : pj_find 1 pj_m87.2.2.2.2.2.2 = some (.iconst 0, 1) := by decide +kernel
theorem pr_87_2 : pj_find 2 pj_m87.2.2.2.2.2.2 = some (.iconst 1, 1) := by decide +kernel
theorem pr_87_3 : pj_find 3 pj_m87.2.2.2.2.2.2 = some (.invokestatic 64, 3) := by decide +kernel
theorem pr_87_6 : pj_find 6 pj_m87.2.2.2.2.2.2 = some (.ifCond .ne 6, 3) := by decide +kernel
theorem pr_87_9 : pj_find 9 pj_m87.2.2.2.2.2.2 = some (.bipush (-2), 2) := by decide +kernel
theorem pr_87_11 : pj_find 11 pj_m87.2.2.2.2.2.2 = some (.ireturn, 1) := by decide +kernel
theorem pr_87_12 : pj_find 12 pj_m87.2.2.2.2.2.2 = some (.aload_n 0, 1) := by decide +kernel
theorem pr_87_13 : pj_find 13 pj_m87.2.2.2.2.2.2 = some (.getfield 49, 3) := by decide +kernel
theorem pr_87_16 : pj_find 16 pj_m87.2.2.2.2.2.2 = some (.aload_n 0, 1) := by decide +kernel
theorem pr_87_17 : pj_find 17 pj_m87.2.2.2.2.2.2 = some (.getfield 10, 3) := by decide +kernel
theorem pr_87_20 : pj_find 20 pj_m87.2.2.2.2.2.2 = some (.invokevirtual 197, 3) := by decide +kernel
theorem pr_87_23 : pj_find 23 pj_m87.2.2.2.2.2.2 = some (.aload_n 0, 1) := by decide +kernel
theorem pr_87_24 : pj_find 24 pj_m87.2.2.2.2.2.2 = some (.getfield 49, 3) := by decide +kernel
theorem pr_87_27 : pj_find 27 pj_m87.2.2.2.2.2.2 = some (.getfield 200, 3) := by decide +kernel
theorem pr_87_30 : pj_find 30 pj_m87.2.2.2.2.2.2 = some (.ifCond .ne 6, 3) := by decide +kernel
theorem pr_87_33 : pj_find 33 pj_m87.2.2.2.2.2.2 = some (.bipush (-6), 2) := by decide +kernel
theorem pr_87_35 : pj_find 35 pj_m87.2.2.2.2.2.2 = some (.ireturn, 1) := by decide +kernel
theorem pr_87_36 : pj_find 36 pj_m87.2.2.2.2.2.2 = some (.aload_n 0, 1) := by decide +kernel
theorem pr_87_37 : pj_find 37 pj_m87.2.2.2.2.2.2 = some (.getfield 49, 3) := by decide +kernel
theorem pr_87_40 : pj_find 40 pj_m87.2.2.2.2.2.2 = some (.invokevirtual 206, 3) := by decide +kernel
theorem pr_87_43 : pj_find 43 pj_m87.2.2.2.2.2.2 = some (.istore_n 2, 1) := by decide +kernel
theorem pr_87_44 : pj_find 44 pj_m87.2.2.2.2.2.2 = some (.iload_n 1, 1) := by decide +kernel
theorem pr_87_45 : pj_find 45 pj_m87.2.2.2.2.2.2 = some (.ifCond .ne 7, 3) := by decide +kernel
theorem pr_87_48 : pj_find 48 pj_m87.2.2.2.2.2.2 = some (.iload_n 2, 1) := by decide +kernel
theorem pr_87_49 : pj_find 49 pj_m87.2.2.2.2.2.2 = some (.goto 11, 3) := by decide +kernel
theorem pr_87_52 : pj_find 52 pj_m87.2.2.2.2.2.2 = some (.aload_n 0, 1) := by decide +kernel
theorem pr_87_53 : pj_find 53 pj_m87.2.2.2.2.2.2 = some (.getfield 49, 3) := by decide +kernel
theorem pr_87_56 : pj_find 56 pj_m87.2.2.2.2.2.2 = some (.iload_n 2, 1) := by decide +kernel
theorem pr_87_57 : pj_find 57 pj_m87.2.2.2.2.2.2 = some (.invokevirtual 209, 3) := by decide +kernel
theorem pr_87_60 : pj_find 60 pj_m87.2.2.2.2.2.2 = some (.ireturn, 1) := by decide +kernel
theorem pr_88_0 : pj_find 0 pj_m88.2.2.2.2.2.2 = some (.iload_n 1, 1) := by decide +kernel
theorem pr_88_1 : pj_find 1 pj_m88.2.2.2.2.2.2 = some (.iconst 0, 1) := by decide +kernel
theorem pr_88_2 : pj_find 2 pj_m88.2.2.2.2.2.2 = some (.ldc 212, 2) := by decide +kernel
theorem pr_88_4 : pj_find 4 pj_m88.2.2.2.2.2.2 = some (.invokestatic 64, 3) := by decide +kernel
theorem pr_88_7 : pj_find 7 pj_m88.2.2.2.2.2.2 = some (.ifCond .eq 12, 3) := by decide +kernel
theorem pr_88_10 : pj_find 10 pj_m88.2.2.2.2.2.2 = some (.iload_n 2, 1) := by decide +kernel
theorem pr_88_11 : pj_find 11 pj_m88.2.2.2.2.2.2 = some (.iconst 0, 1) := by decide +kernel
theorem pr_88_12 : pj_find 12 pj_m88.2.2.2.2.2.2 = some (.iconst 1, 1) := by decide +kernel
theorem pr_88_13 : pj_find 13 pj_m88.2.2.2.2.2.2 = some (.invokestatic 64, 3) := by decide +kernel
theorem pr_88_16 : pj_find 16 pj_m88.2.2.2.2.2.2 = some (.ifCond .ne 6, 3) := by decide +kernel
theorem pr_88_19 : pj_find 19 pj_m88.2.2.2.2.2.2 = some (.bipush (-2), 2) := by decide +kernel
theorem pr_88_21 : pj_find 21 pj_m88.2.2.2.2.2.2 = some (.ireturn, 1) := by decide +kernel
theorem pr_88_22 : pj_find 22 pj_m88.2.2.2.2.2.2 = some (.iload_n 1, 1) := by decide +kernel
theorem pr_88_23 : pj_find 23 pj_m88.2.2.2.2.2.2 = some (.invokestatic 213, 3) := by decide +kernel
theorem pr_88_26 : pj_find 26 pj_m88.2.2.2.2.2.2 = some (.istore_n 3, 1) := by decide +kernel
theorem pr_88_27 : pj_find 27 pj_m88.2.2.2.2.2.2 = some (.iload_n 2, 1) := by decide +kernel
theorem pr_88_28 : pj_find 28 pj_m88.2.2.2.2.2.2 = some (.ifCond .ne 15, 3) := by decide +kernel
theorem pr_88_31 : pj_find 31 pj_m88.2.2.2.2.2.2 = some (.iload_n 3, 1) := by decide +kernel
theorem pr_88_32 : pj_find 32 pj_m88.2.2.2.2.2.2 = some (.bipush (-6), 2) := by decide +kernel
theorem pr_88_34 : pj_find 34 pj_m88.2.2.2.2.2.2 = some (.if_icmp .ne 7, 3) := by decide +kernel
theorem pr_88_37 : pj_find 37 pj_m88.2.2.2.2.2.2 = some (.iconst 0, 1) := by decide +kernel
theorem pr_88_38 : pj_find 38 pj_m88.2.2.2.2.2.2 = some (.goto 4, 3) := by decide +kernel
theorem pr_88_41 : pj_find 41 pj_m88.2.2.2.2.2.2 = some (.iconst 1, 1) := by decide +kernel
theorem pr_88_42 : pj_find 42 pj_m88.2.2.2.2.2.2 = some (.ireturn, 1) := by decide +kernel
theorem pr_88_43 : pj_find 43 pj_m88.2.2.2.2.2.2 = some (.iload_n 3, 1) := by decide +kernel
theorem pr_88_44 : pj_find 44 pj_m88.2.2.2.2.2.2 = some (.ireturn, 1) := by decide +kernel
theorem pr_89_0 : pj_find 0 pj_m89.2.2.2.2.2.2 = some (.iload_n 1, 1) := by decide +kernel
theorem pr_89_1 : pj_find 1 pj_m89.2.2.2.2.2.2 = some (.iconst 0, 1) := by decide +kernel
theorem pr_89_2 : pj_find 2 pj_m89.2.2.2.2.2.2 = some (.bipush 10, 2) := by decide +kernel
theorem pr_89_4 : pj_find 4 pj_m89.2.2.2.2.2.2 = some (.invokestatic 64, 3) := by decide +kernel
theorem pr_89_7 : pj_find 7 pj_m89.2.2.2.2.2.2 = some (.ifCond .eq 32, 3) := by decide +kernel
theorem pr_89_10 : pj_find 10 pj_m89.2.2.2.2.2.2 = some (.iload_n 2, 1) := by decide +kernel
theorem pr_89_11 : pj_find 11 pj_m89.2.2.2.2.2.2 = some (.iconst 0, 1) := by decide +kernel
theorem pr_89_12 : pj_find 12 pj_m89.2.2.2.2.2.2 = some (.bipush 16, 2) := by decide +kernel
theorem pr_89_14 : pj_find 14 pj_m89.2.2.2.2.2.2 = some (.invokestatic 64, 3) := by decide +kernel
theorem pr_89_17 : pj_find 17 pj_m89.2.2.2.2.2.2 = some (.ifCond .eq 22, 3) := by decide +kernel
theorem pr_89_20 : pj_find 20 pj_m89.2.2.2.2.2.2 = some (.iload_n 3, 1) := by decide +kernel
theorem pr_89_21 : pj_find 21 pj_m89.2.2.2.2.2.2 = some (.iconst 0, 1) := by decide +kernel
theorem pr_89_22 : pj_find 22 pj_m89.2.2.2.2.2.2 = some (.iconst 1, 1) := by decide +kernel
theorem pr_89_23 : pj_find 23 pj_m89.2.2.2.2.2.2 = some (.invokestatic 64, 3) := by decide +kernel
theorem pr_89_26 : pj_find 26 pj_m89.2.2.2.2.2.2 = some (.ifCond .eq 13, 3) := by decide +kernel
theorem pr_89_29 : pj_find 29 pj_m89.2.2.2.2.2.2 = some (.iload 4, 2) := by decide +kernel
theorem pr_89_31 : pj_find 31 pj_m89.2.2.2.2.2.2 = some (.iconst 0, 1) := by decide +kernel
theorem pr_89_32 : pj_find 32 pj_m89.2.2.2.2.2.2 = some (.iconst 1, 1) := by decide +kernel
theorem pr_89_33 : pj_find 33 pj_m89.2.2.2.2.2.2 = some (.invokestatic 64, 3) := by decide +kernel
theorem pr_89_36 : pj_find 36 pj_m89.2.2.2.2.2.2 = some (.ifCond .ne 7, 3) := by decide +kernel
theorem pr_89_39 : pj_find 39 pj_m89.2.2.2.2.2.2 = some (.ldc2_w 218, 3) := by decide +kernel
theorem pr_89_42 : pj_find 42 pj_m89.2.2.2.2.2.2 = some (.lreturn, 1) := by decide +kernel
theorem pr_89_43 : pj_find 43 pj_m89.2.2.2.2.2.2 = some (.iload_n 3, 1) := by decide +kernel
theorem pr_89_44 : pj_find 44 pj_m89.2.2.2.2.2.2 = some (.ifCond .ne 15, 3) := by decide +kernel
theorem pr_89_47 : pj_find 47 pj_m89.2.2.2.2.2.2 = some (.aload_n 0, 1) := by decide +kernel
theorem pr_89_48 : pj_find 48 pj_m89.2.2.2.2.2.2 = some (.getfield 56, 3) := by decide +kernel
theorem pr_89_51 : pj_find 51 pj_m89.2.2.2.2.2.2 = some (.iload_n 1, 1) := by decide +kernel
theorem pr_89_52 : pj_find 52 pj_m89.2.2.2.2.2.2 = some (.iload_n 2, 1) := by decide +kernel
theorem pr_89_53 : pj_find 53 pj_m89.2.2.2.2.2.2 = some (.invokevirtual 220, 3) := by decide +kernel
theorem pr_89_56 : pj_find 56 pj_m89.2.2.2.2.2.2 = some (.goto 7, 3) := by decide +kernel
theorem pr_89_59 : pj_find 59 pj_m89.2.2.2.2.2.2 = some (.iload_n 1, 1) := by decide +kernel
theorem pr_89_60 : pj_find 60 pj_m89.2.2.2.2.2.2 = some (.invokestatic 224, 3) := by decide +kernel
theorem pr_89_63 : pj_find 63 pj_m89.2.2.2.2.2.2 = some (.lstore 5, 2) := by decide +kernel
theorem pr_89_65 : pj_find 65 pj_m89.2.2.2.2.2.2 = some (.lload 5, 2) := by decide +kernel
theorem pr_89_67 : pj_find 67 pj_m89.2.2.2.2.2.2 = some (.bipush 16, 2) := by decide +kernel
theorem pr_89_69 : pj_find 69 pj_m89.2.2.2.2.2.2 = some (.iload_n 1, 1) := by decide +kernel
theorem pr_89_70 : pj_find 70 pj_m89.2.2.2.2.2.2 = some (.invokestatic 228, 3) := by decide +kernel
theorem pr_89_73 : pj_find 73 pj_m89.2.2.2.2.2.2 = some (.iload 4, 2) := by decide +kernel
theorem pr_89_75 : pj_find 75 pj_m89.2.2.2.2.2.2 = some (.invokestatic 231, 3) := by decide +kernel
theorem pr_89_78 : pj_find 78 pj_m89.2.2.2.2.2.2 = some (.lreturn, 1) := by decide +kernel
theorem pr_90_0 : pj_find 0 pj_m90.2.2.2.2.2.2 = some (.iload_n 1, 1) := by decide +kernel
theorem pr_90_1 : pj_find 1 pj_m90.2.2.2.2.2.2 = some (.iconst 0, 1) := by decide +kernel
theorem pr_90_2 : pj_find 2 pj_m90.2.2.2.2.2.2 = some (.sipush 9999, 3) := by decide +kernel
theorem pr_90_5 : pj_find 5 pj_m90.2.2.2.2.2.2 = some (.invokestatic 64, 3) := by decide +kernel
theorem pr_90_8 : pj_find 8 pj_m90.2.2.2.2.2.2 = some (.ifCond .eq 22, 3) := by decide +kernel
theorem pr_90_11 : pj_find 11 pj_m90.2.2.2.2.2.2 = some (.iload_n 2, 1) := by decide +kernel
theorem pr_90_12 : pj_find 12 pj_m90.2.2.2.2.2.2 = some (.iconst 1, 1) := by decide +kernel
theorem pr_90_13 : pj_find 13 pj_m90.2.2.2.2.2.2 = some (.bipush 99, 2) := by decide +kernel
theorem pr_90_15 : pj_find 15 pj_m90.2.2.2.2.2.2 = some (.invokestatic 64, 3) := by decide +kernel
theorem pr_90_18 : pj_find 18 pj_m90.2.2.2.2.2.2 = some (.ifCond .eq 12, 3) := by decide +kernel
theorem pr_90_21 : pj_find 21 pj_m90.2.2.2.2.2.2 = some (.iload_n 3, 1) := by decide +kernel
theorem pr_90_22 : pj_find 22 pj_m90.2.2.2.2.2.2 = some (.iconst 0, 1) := by decide +kernel
theorem pr_90_23 : pj_find 23 pj_m90.2.2.2.2.2.2 = some (.iconst 2, 1) := by decide +kernel
theorem pr_90_24 : pj_find 24 pj_m90.2.2.2.2.2.2 = some (.invokestatic 64, 3) := by decide +kernel
theorem pr_90_27 : pj_find 27 pj_m90.2.2.2.2.2.2 = some (.ifCond .ne 6, 3) := by decide +kernel
theorem pr_90_30 : pj_find 30 pj_m90.2.2.2.2.2.2 = some (.bipush (-2), 2) := by decide +kernel
theorem pr_90_32 : pj_find 32 pj_m90.2.2.2.2.2.2 = some (.ireturn, 1) := by decide +kernel
theorem pr_90_33 : pj_find 33 pj_m90.2.2.2.2.2.2 = some (.aload_n 0, 1) := by decide +kernel
theorem pr_90_34 : pj_find 34 pj_m90.2.2.2.2.2.2 = some (.getfield 16, 3) := by decide +kernel
theorem pr_90_37 : pj_find 37 pj_m90.2.2.2.2.2.2 = some (.aload_n 0, 1) := by decide +kernel
theorem pr_90_38 : pj_find 38 pj_m90.2.2.2.2.2.2 = some (.getfield 10, 3) := by decide +kernel
theorem pr_90_41 : pj_find 41 pj_m90.2.2.2.2.2.2 = some (.invokevirtual 127, 3) := by decide +kernel
theorem pr_90_44 : pj_find 44 pj_m90.2.2.2.2.2.2 = some (.aload_n 0, 1) := by decide +kernel
theorem pr_90_45 : pj_find 45 pj_m90.2.2.2.2.2.2 = some (.getfield 16, 3) := by decide +kernel
theorem pr_90_48 : pj_find 48 pj_m90.2.2.2.2.2.2 = some (.iload_n 1, 1) := by decide +kernel
theorem pr_90_49 : pj_find 49 pj_m90.2.2.2.2.2.2 = some (.iload_n 2, 1) := by decide +kernel
theorem pr_90_50 : pj_find 50 pj_m90.2.2.2.2.2.2 = some (.invokestatic 235, 3) := by decide +kernel
theorem pr_90_53 : pj_find 53 pj_m90.2.2.2.2.2.2 = some (.iload_n 3, 1) := by decide +kernel
theorem pr_90_54 : pj_find 54 pj_m90.2.2.2.2.2.2 = some (.iconst 2, 1) := by decide +kernel
theorem pr_90_55 : pj_find 55 pj_m90.2.2.2.2.2.2 = some (.if_icmp .ne 11, 3) := by decide +kernel
theorem pr_90_58 : pj_find 58 pj_m90.2.2.2.2.2.2 = some (.aload_n 0, 1) := by decide +kernel
theorem pr_90_59 : pj_find 59 pj_m90.2.2.2.2.2.2 = some (.getfield 16, 3) := by decide +kernel
theorem pr_90_62 : pj_find 62 pj_m90.2.2.2.2.2.2 = some (.getfield 143, 3) := by decide +kernel
theorem pr_90_65 : pj_find 65 pj_m90.2.2.2.2.2.2 = some (.ireturn, 1) := by decide +kernel
theorem pr_90_66 : pj_find 66 pj_m90.2.2.2.2.2.2 = some (.aload_n 0, 1) := by decide +kernel
theorem pr_90_67 : pj_find 67 pj_m90.2.2.2.2.2.2 = some (.getfield 16, 3) := by decide +kernel
theorem pr_90_70 : pj_find 70 pj_m90.2.2.2.2.2.2 = some (.iload_n 3, 1) := by decide +kernel
theorem pr_90_71 : pj_find 71 pj_m90.2.2.2.2.2.2 = some (.ifCond .ne 8, 3) := by decide +kernel
theorem pr_90_74 : pj_find 74 pj_m90.2.2.2.2.2.2 = some (.bipush 6, 2) := by decide +kernel
theorem pr_90_76 : pj_find 76 pj_m90.2.2.2.2.2.2 = some (.goto 4, 3) := by decide +kernel
theorem pr_90_79 : pj_find 79 pj_m90.2.2.2.2.2.2 = some (.iconst 0, 1) := by decide +kernel
theorem pr_90_80 : pj_find 80 pj_m90.2.2.2.2.2.2 = some (.invokevirtual 137, 3) := by decide +kernel
theorem pr_90_83 : pj_find 83 pj_m90.2.2.2.2.2.2 = some (.ireturn, 1) := by decide +kernel
theorem pr_91_0 : pj_find 0 pj_m91.2.2.2.2.2.2 = some (.iload_n 1, 1) := by decide +kernel
theorem pr_91_1 : pj_find 1 pj_m91.2.2.2.2.2.2 = some (.iconst 0, 1) := by decide +kernel
theorem pr_91_2 : pj_find 2 pj_m91.2.2.2.2.2.2 = some (.iconst 1, 1) := by decide +kernel
theorem pr_91_3 : pj_find 3 pj_m91.2.2.2.2.2.2 = some (.invokestatic 64, 3) := by decide +kernel
theorem pr_91_6 : pj_find 6 pj_m91.2.2.2.2.2.2 = some (.ifCond .ne 6, 3) := by decide +kernel
theorem pr_91_9 : pj_find 9 pj_m91.2.2.2.2.2.2 = some (.bipush (-2), 2) := by decide +kernel
theorem pr_91_11 : pj_find 11 pj_m91.2.2.2.2.2.2 = some (.ireturn, 1) := by decide +kernel
theorem pr_91_12 : pj_find 12 pj_m91.2.2.2.2.2.2 = some (.iload_n 1, 1) := by decide +kernel
theorem pr_91_13 : pj_find 13 pj_m91.2.2.2.2.2.2 = some (.ifCond .ne 22, 3) := by decide +kernel
theorem pr_91_16 : pj_find 16 pj_m91.2.2.2.2.2.2 = some (.aload_n 0, 1) := by decide +kernel
theorem pr_91_17 : pj_find 17 pj_m91.2.2.2.2.2.2 = some (.getfield 19, 3) := by decide +kernel
theorem pr_91_20 : pj_find 20 pj_m91.2.2.2.2.2.2 = some (.aload_n 0, 1) := by decide +kernel
theorem pr_91_21 : pj_find 21 pj_m91.2.2.2.2.2.2 = some (.getfield 10, 3) := by decide +kernel
theorem pr_91_24 : pj_find 24 pj_m91.2.2.2.2.2.2 = some (.invokevirtual 127, 3) := by decide +kernel
theorem pr_91_27 : pj_find 27 pj_m91.2.2.2.2.2.2 = some (.aload_n 0, 1) := by decide +kernel
theorem pr_91_28 : pj_find 28 pj_m91.2.2.2.2.2.2 = some (.iconst 1, 1) := by decide +kernel
theorem pr_91_29 : pj_find 29 pj_m91.2.2.2.2.2.2 = some (.putfield 240, 3) := by decide +kernel
theorem pr_91_32 : pj_find 32 pj_m91.2.2.2.2.2.2 = some (.goto 19, 3) := by decide +kernel
theorem pr_91_35 : pj_find 35 pj_m91.2.2.2.2.2.2 = some (.aload_n 0, 1) := by decide +kernel
theorem pr_91_36 : pj_find 36 pj_m91.2.2.2.2.2.2 = some (.getfield 22, 3) := by decide +kernel
theorem pr_91_39 : pj_find 39 pj_m91.2.2.2.2.2.2 = some (.aload_n 0, 1) := by decide +kernel
theorem pr_91_40 : pj_find 40 pj_m91.2.2.2.2.2.2 = some (.getfield 10, 3) := by decide +kernel
theorem pr_91_43 : pj_find 43 pj_m91.2.2.2.2.2.2 = some (.invokevirtual 127, 3) := by decide +kernel
theorem pr_91_46 : pj_find 46 pj_m91.2.2.2.2.2.2 = some (.aload_n 0, 1) := by decide +kernel
theorem pr_91_47 : pj_find 47 pj_m91.2.2.2.2.2.2 = some (.iconst 1, 1) := by decide +kernel
theorem pr_91_48 : pj_find 48 pj_m91.2.2.2.2.2.2 = some (.putfield 244, 3) := by decide +kernel
theorem pr_91_51 : pj_find 51 pj_m91.2.2.2.2.2.2 = some (.iconst 1, 1) := by decide +kernel
theorem pr_91_52 : pj_find 52 pj_m91.2.2.2.2.2.2 = some (.ireturn, 1) := by decide +kernel
theorem pr_92_0 : pj_find 0 pj_m92.2.2.2.2.2.2 = some (.iload_n 1, 1) := by decide +kernel
theorem pr_92_1 : pj_find 1 pj_m92.2.2.2.2.2.2 = some (.iconst 0, 1) := by decide +kernel
theorem pr_92_2 : pj_find 2 pj_m92.2.2.2.2.2.2 = some (.iconst 1, 1) := by decide +kernel
theorem pr_92_3 : pj_find 3 pj_m92.2.2.2.2.2.2 = some (.invokestatic 64, 3) := by decide +kernel
theorem pr_92_6 : pj_find 6 pj_m92.2.2.2.2.2.2 = some (.ifCond .ne 6, 3) := by decide +kernel
theorem pr_92_9 : pj_find 9 pj_m92.2.2.2.2.2.2 = some (.bipush (-2), 2) := by decide +kernel
theorem pr_92_11 : pj_find 11 pj_m92.2.2.2.2.2.2 = some (.ireturn, 1) := by decide +kernel
theorem pr_92_12 : pj_find 12 pj_m92.2.2.2.2.2.2 = some (.iload_n 1, 1) := by decide +kernel
theorem pr_92_13 : pj_find 13 pj_m92.2.2.2.2.2.2 = some (.ifCond .ne 10, 3) := by decide +kernel
theorem pr_92_16 : pj_find 16 pj_m92.2.2.2.2.2.2 = some (.aload_n 0, 1) := by decide +kernel
theorem pr_92_17 : pj_find 17 pj_m92.2.2.2.2.2.2 = some (.getfield 240, 3) := by decide +kernel
theorem pr_92_20 : pj_find 20 pj_m92.2.2.2.2.2.2 = some (.goto 7, 3) := by decide +kernel
theorem pr_92_23 : pj_find 23 pj_m92.2.2.2.2.2.2 = some (.aload_n 0, 1) := by decide +kernel
theorem pr_92_24 : pj_find 24 pj_m92.2.2.2.2.2.2 = some (.getfield 244, 3) := by decide +kernel
theorem pr_92_27 : pj_find 27 pj_m92.2.2.2.2.2.2 = some (.istore_n 2, 1) := by decide +kernel
theorem pr_92_28 : pj_find 28 pj_m92.2.2.2.2.2.2 = some (.iload_n 2, 1) := by decide +kernel
theorem pr_92_29 : pj_find 29 pj_m92.2.2.2.2.2.2 = some (.ifCond .ne 6, 3) := by decide +kernel
theorem pr_92_32 : pj_find 32 pj_m92.2.2.2.2.2.2 = some (.bipush (-3), 2) := by decide +kernel
theorem pr_92_34 : pj_find 34 pj_m92.2.2.2.2.2.2 = some (.ireturn, 1) := by decide +kernel
theorem pr_92_35 : pj_find 35 pj_m92.2.2.2.2.2.2 = some (.aload_n 0, 1) := by decide +kernel
theorem pr_92_36 : pj_find 36 pj_m92.2.2.2.2.2.2 = some (.getfield 10, 3) := by decide +kernel
theorem pr_92_39 : pj_find 39 pj_m92.2.2.2.2.2.2 = some (.iload_n 1, 1) := by decide +kernel
theorem pr_92_40 : pj_find 40 pj_m92.2.2.2.2.2.2 = some (.ifCond .ne 10, 3) := by decide +kernel
theorem pr_92_43 : pj_find 43 pj_m92.2.2.2.2.2.2 = some (.aload_n 0, 1) := by decide +kernel
theorem pr_92_44 : pj_find 44 pj_m92.2.2.2.2.2.2 = some (.getfield 19, 3) := by decide +kernel
theorem pr_92_47 : pj_find 47 pj_m92.2.2.2.2.2.2 = some (.goto 7, 3) := by decide +kernel
theorem pr_92_50 : pj_find 50 pj_m92.2.2.2.2.2.2 = some (.aload_n 0, 1) := by decide +kernel
theorem pr_92_51 : pj_find 51 pj_m92.2.2.2.2.2.2 = some (.getfield 22, 3) := by decide +kernel
theorem pr_92_54 : pj_find 54 pj_m92.2.2.2.2.2.2 = some (.invokevirtual 127, 3) := by decide +kernel
theorem pr_92_57 : pj_find 57 pj_m92.2.2.2.2.2.2 = some (.iconst 1, 1) := by decide +kernel
theorem pr_92_58 : pj_find 58 pj_m92.2.2.2.2.2.2 = some (.ireturn, 1) := by decide +kernel
theorem pr_93_0 : pj_find 0 pj_m93.2.2.2.2.2.2 = some (.iload_n 1, 1) := by decide +kernel
theorem pr_93_1 : pj_find 1 pj_m93.2.2.2.2.2.2 = some (.bipush 10, 2) := by decide +kernel
theorem pr_93_3 : pj_find 3 pj_m93.2.2.2.2.2.2 = some (.bipush 25, 2) := by decide +kernel
theorem pr_93_5 : pj_find 5 pj_m93.2.2.2.2.2.2 = some (.invokestatic 64, 3) := by decide +kernel
theorem pr_93_8 : pj_find 8 pj_m93.2.2.2.2.2.2 = some (.ifCond .eq 15, 3) := by decide +kernel
theorem pr_93_11 : pj_find 11 pj_m93.2.2.2.2.2.2 = some (.aload_n 0, 1) := by decide +kernel
theorem pr_93_12 : pj_find 12 pj_m93.2.2.2.2.2.2 = some (.getfield 10, 3) := by decide +kernel
theorem pr_93_15 : pj_find 15 pj_m93.2.2.2.2.2.2 = some (.iload_n 1, 1) := by decide +kernel
theorem pr_93_16 : pj_find 16 pj_m93.2.2.2.2.2.2 = some (.bipush 10, 2) := by decide +kernel
theorem pr_93_18 : pj_find 18 pj_m93.2.2.2.2.2.2 = some (.isub, 1) := by decide +kernel
theorem pr_93_19 : pj_find 19 pj_m93.2.2.2.2.2.2 = some (.invokevirtual 68, 3) := by decide +kernel
theorem pr_93_22 : pj_find 22 pj_m93.2.2.2.2.2.2 = some (.ireturn, 1) := by decide +kernel
theorem pr_93_23 : pj_find 23 pj_m93.2.2.2.2.2.2 = some (.iload_n 1, 1) := by decide +kernel
theorem pr_93_24 : pj_find 24 pj_m93.2.2.2.2.2.2 = some (.bipush 30, 2) := by decide +kernel
theorem pr_93_26 : pj_find 26 pj_m93.2.2.2.2.2.2 = some (.bipush 37, 2) := by decide +kernel
theorem pr_93_28 : pj_find 28 pj_m93.2.2.2.2.2.2 = some (.invokestatic 64, 3) := by decide +kernel
theorem pr_93_31 : pj_find 31 pj_m93.2.2.2.2.2.2 = some (.ifCond .eq 15, 3) := by decide +kernel
theorem pr_93_34 : pj_find 34 pj_m93.2.2.2.2.2.2 = some (.aload_n 0, 1) := by decide +kernel
theorem pr_93_35 : pj_find 35 pj_m93.2.2.2.2.2.2 = some (.getfield 10, 3) := by decide +kernel
theorem pr_93_38 : pj_find 38 pj_m93.2.2.2.2.2.2 = some (.iload_n 1, 1) := by decide +kernel
theorem pr_93_39 : pj_find 39 pj_m93.2.2.2.2.2.2 = some (.bipush 30, 2) := by decide +kernel
theorem pr_93_41 : pj_find 41 pj_m93.2.2.2.2.2.2 = some (.isub, 1) := by decide +kernel
theorem pr_93_42 : pj_find 42 pj_m93.2.2.2.2.2.2 = some (.invokevirtual 84, 3) := by decide +kernel
theorem pr_93_45 : pj_find 45 pj_m93.2.2.2.2.2.2 = some (.ireturn, 1) := by decide +kernel
theorem pr_93_46 : pj_find 46 pj_m93.2.2.2.2.2.2 = some (.iload_n 1, 1) := by decide +kernel
theorem pr_93_47 : pj_find 47 pj_m93.2.2.2.2.2.2 = some (.bipush 41, 2) := by decide +kernel
theorem pr_93_49 : pj_find 49 pj_m93.2.2.2.2.2.2 = some (.bipush 45, 2) := by decide +kernel
theorem pr_93_51 : pj_find 51 pj_m93.2.2.2.2.2.2 = some (.invokestatic 64, 3) := by decide +kernel
theorem pr_93_54 : pj_find 54 pj_m93.2.2.2.2.2.2 = some (.ifCond .eq 15, 3) := by decide +kernel
theorem pr_93_57 : pj_find 57 pj_m93.2.2.2.2.2.2 = some (.aload_n 0, 1) := by decide +kernel
theorem pr_93_58 : pj_find 58 pj_m93.2.2.2.2.2.2 = some (.getfield 10, 3) := by decide +kernel
theorem pr_93_61 : pj_find 61 pj_m93.2.2.2.2.2.2 = some (.iload_n 1, 1) := by decide +kernel
theorem pr_93_62 : pj_find 62 pj_m93.2.2.2.2.2.2 = some (.bipush 40, 2) := by decide +kernel
theorem pr_93_64 : pj_find 64 pj_m93.2.2.2.2.2.2 = some (.isub, 1) := by decide +kernel
theorem pr_93_65 : pj_find 65 pj_m93.2.2.2.2.2.2 = some (.invokevirtual 93, 3) := by decide +kernel
theorem pr_93_68 : pj_find 68 pj_m93.2.2.2.2.2.2 = some (.ireturn, 1) := by decide +kernel
theorem pr_93_69 : pj_find 69 pj_m93.2.2.2.2.2.2 = some (.iload_n 1, 1) := by decide +kernel
theorem pr_93_70 : pj_find 70 pj_m93.2.2.2.2.2.2 = some (.tableswitch 62 0 3 #[30, 38, 46, 54], 30) := by decide +kernel
theorem pr_93_100 : pj_find 100 pj_m93.2.2.2.2.2.2 = some (.aload_n 0, 1) := by decide +kernel
theorem pr_93_101 : pj_find 101 pj_m93.2.2.2.2.2.2 = some (.getfield 28, 3) := by decide +kernel
theorem pr_93_104 : pj_find 104 pj_m93.2.2.2.2.2.2 = some (.invokevirtual 102, 3) := by decide +kernel
theorem pr_93_107 : pj_find 107 pj_m93.2.2.2.2.2.2 = some (.ireturn, 1) := by decide +kernel
theorem pr_93_108 : pj_find 108 pj_m93.2.2.2.2.2.2 = some (.aload_n 0, 1) := by decide +kernel
theorem pr_93_109 : pj_find 109 pj_m93.2.2.2.2.2.2 = some (.getfield 10, 3) := by decide +kernel
theorem pr_93_112 : pj_find 112 pj_m93.2.2.2.2.2.2 = some (.getfield 134, 3) := by decide +kernel
theorem pr_93_115 : pj_find 115 pj_m93.2.2.2.2.2.2 = some (.ireturn, 1) := by decide +kernel
theorem pr_93_116 : pj_find 116 pj_m93.2.2.2.2.2.2 = some (.aload_n 0, 1) := by decide +kernel
theorem pr_93_117 : pj_find 117 pj_m93.2.2.2.2.2.2 = some (.getfield 10, 3) := by decide +kernel
theorem pr_93_120 : pj_find 120 pj_m93.2.2.2.2.2.2 = some (.getfield 140, 3) := by decide +kernel
theorem pr_93_123 : pj_find 123 pj_m93.2.2.2.2.2.2 = some (.ireturn, 1) := by decide +kernel
theorem pr_93_124 : pj_find 124 pj_m93.2.2.2.2.2.2 = some (.aload_n 0, 1) := by decide +kernel
theorem pr_93_125 : pj_find 125 pj_m93.2.2.2.2.2.2 = some (.getfield 10, 3) := by decide +kernel
theorem pr_93_128 : pj_find 128 pj_m93.2.2.2.2.2.2 = some (.getfield 188, 3) := by decide +kernel
theorem pr_93_131 : pj_find 131 pj_m93.2.2.2.2.2.2 = some (.ireturn, 1) := by decide +kernel
theorem pr_93_132 : pj_find 132 pj_m93.2.2.2.2.2.2 = some (.bipush (-2), 2) := by decide +kernel
theorem pr_93_134 : pj_find 134 pj_m93.2.2.2.2.2.2 = some (.ireturn, 1) := by decide +kernel
theorem pr_94_0 : pj_find 0 pj_m94.2.2.2.2.2.2 = some (.iload_n 0, 1) := by decide +kernel
theorem pr_94_1 : pj_find 1 pj_m94.2.2.2.2.2.2 = some (.iload_n 1, 1) := by decide +kernel
theorem pr_94_2 : pj_find 2 pj_m94.2.2.2.2.2.2 = some (.if_icmp .lt 12, 3) := by decide +kernel
theorem pr_94_5 : pj_find 5 pj_m94.2.2.2.2.2.2 = some (.iload_n 0, 1) := by decide +kernel
theorem pr_94_6 : pj_find 6 pj_m94.2.2.2.2.2.2 = some (.iload_n 2, 1) := by decide +kernel
theorem pr_94_7 : pj_find 7 pj_m94.2.2.2.2.2.2 = some (.if_icmp .gt 7, 3) := by decide +kernel
theorem pr_94_10 : pj_find 10 pj_m94.2.2.2.2.2.2 = some (.iconst 1, 1) := by decide +kernel
theorem pr_94_11 : pj_find 11 pj_m94.2.2.2.2.2.2 = some (.goto 4, 3) := by decide +kernel
theorem pr_94_14 : pj_find 14 pj_m94.2.2.2.2.2.2 = some (.iconst 0, 1) := by decide +kernel
theorem pr_94_15 : pj_find 15 pj_m94.2.2.2.2.2.2 = some (.ireturn, 1) := by decide +kernel
theorem pr_95_0 : pj_find 0 pj_m95.2.2.2.2.2.2 = some (.iload_n 0, 1) := by decide +kernel
theorem pr_95_1 : pj_find 1 pj_m95.2.2.2.2.2.2 = some (.iconst 0, 1) := by decide +kernel
theorem pr_95_2 : pj_find 2 pj_m95.2.2.2.2.2.2 = some (.bipush 15, 2) := by decide +kernel
theorem pr_95_4 : pj_find 4 pj_m95.2.2.2.2.2.2 = some (.invokestatic 64, 3) := by decide +kernel
theorem pr_95_7 : pj_find 7 pj_m95.2.2.2.2.2.2 = some (.ireturn, 1) := by decide +kernel
theorem pr_96_0 : pj_find 0 pj_m96.2.2.2.2.2.2 = some (.iload_n 0, 1) := by decide +kernel
theorem pr_96_1 : pj_find 1 pj_m96.2.2.2.2.2.2 = some (.iconst 0, 1) := by decide +kernel
theorem pr_96_2 : pj_find 2 pj_m96.2.2.2.2.2.2 = some (.bipush 7, 2) := by decide +kernel
theorem pr_96_4 : pj_find 4 pj_m96.2.2.2.2.2.2 = some (.invokestatic 64, 3) := by decide +kernel
theorem pr_96_7 : pj_find 7 pj_m96.2.2.2.2.2.2 = some (.ireturn, 1) := by decide +kernel
theorem pr_97_0 : pj_find 0 pj_m97.2.2.2.2.2.2 = some (.iload_n 0, 1) := by decide +kernel
theorem pr_97_1 : pj_find 1 pj_m97.2.2.2.2.2.2 = some (.iconst 1, 1) := by decide +kernel
theorem pr_97_2 : pj_find 2 pj_m97.2.2.2.2.2.2 = some (.iconst 5, 1) := by decide +kernel
theorem pr_97_3 : pj_find 3 pj_m97.2.2.2.2.2.2 = some (.invokestatic 64, 3) := by decide +kernel
theorem pr_97_6 : pj_find 6 pj_m97.2.2.2.2.2.2 = some (.ireturn, 1) := by decide +kernel
theorem pr_98_0 : pj_find 0 pj_m98.2.2.2.2.2.2 = some (.iload_n 1, 1) := by decide +kernel
theorem pr_98_1 : pj_find 1 pj_m98.2.2.2.2.2.2 = some (.ifCond .ne 10, 3) := by decide +kernel
theorem pr_98_4 : pj_find 4 pj_m98.2.2.2.2.2.2 = some (.iload_n 0, 1) := by decide +kernel
theorem pr_98_5 : pj_find 5 pj_m98.2.2.2.2.2.2 = some (.invokestatic 247, 3) := by decide +kernel
theorem pr_98_8 : pj_find 8 pj_m98.2.2.2.2.2.2 = some (.goto 4, 3) := by decide +kernel
theorem pr_98_11 : pj_find 11 pj_m98.2.2.2.2.2.2 = some (.iload_n 0, 1) := by decide +kernel
theorem pr_98_12 : pj_find 12 pj_m98.2.2.2.2.2.2 = some (.ireturn, 1) := by decide +kernel
theorem pr_99_0 : pj_find 0 pj_m99.2.2.2.2.2.2 = some (.aload_n 0, 1) := by decide +kernel
theorem pr_99_1 : pj_find 1 pj_m99.2.2.2.2.2.2 = some (.getfield 28, 3) := by decide +kernel
theorem pr_99_4 : pj_find 4 pj_m99.2.2.2.2.2.2 = some (.invokevirtual 109, 3) := by decide +kernel
theorem pr_99_7 : pj_find 7 pj_m99.2.2.2.2.2.2 = some (.bipush (-6), 2) := by decide +kernel
theorem pr_99_9 : pj_find 9 pj_m99.2.2.2.2.2.2 = some (.if_icmp .eq 5, 3) := by decide +kernel
theorem pr_99_12 : pj_find 12 pj_m99.2.2.2.2.2.2 = some (.iconst 0, 1) := by decide +kernel
theorem pr_99_13 : pj_find 13 pj_m99.2.2.2.2.2.2 = some (.ireturn, 1) := by decide +kernel
theorem pr_99_14 : pj_find 14 pj_m99.2.2.2.2.2.2 = some (.aload_n 0, 1) := by decide +kernel
theorem pr_99_15 : pj_find 15 pj_m99.2.2.2.2.2.2 = some (.getfield 35, 3) := by decide +kernel
theorem pr_99_18 : pj_find 18 pj_m99.2.2.2.2.2.2 = some (.aload_n 0, 1) := by decide +kernel
theorem pr_99_19 : pj_find 19 pj_m99.2.2.2.2.2.2 = some (.getfield 28, 3) := by decide +kernel
theorem pr_99_22 : pj_find 22 pj_m99.2.2.2.2.2.2 = some (.aload_n 0, 1) := by decide +kernel
theorem pr_99_23 : pj_find 23 pj_m99.2.2.2.2.2.2 = some (.getfield 10, 3) := by decide +kernel
theorem pr_99_26 : pj_find 26 pj_m99.2.2.2.2.2.2 = some (.aload_n 0, 1) := by decide +kernel
theorem pr_99_27 : pj_find 27 pj_m99.2.2.2.2.2.2 = some (.getfield 16, 3) := by decide +kernel
theorem pr_99_30 : pj_find 30 pj_m99.2.2.2.2.2.2 = some (.invokevirtual 112, 3) := by decide +kernel
theorem pr_99_33 : pj_find 33 pj_m99.2.2.2.2.2.2 = some (.aload_n 0, 1) := by decide +kernel
theorem pr_99_34 : pj_find 34 pj_m99.2.2.2.2.2.2 = some (.getfield 35, 3) := by decide +kernel
theorem pr_99_37 : pj_find 37 pj_m99.2.2.2.2.2.2 = some (.getfield 116, 3) := by decide +kernel
theorem pr_99_40 : pj_find 40 pj_m99.2.2.2.2.2.2 = some (.bipush (-6), 2) := by decide +kernel
theorem pr_99_42 : pj_find 42 pj_m99.2.2.2.2.2.2 = some (.if_icmp .ne 7, 3) := by decide +kernel
theorem pr_99_45 : pj_find 45 pj_m99.2.2.2.2.2.2 = some (.iconst 1, 1) := by decide +kernel
theorem pr_99_46 : pj_find 46 pj_m99.2.2.2.2.2.2 = some (.goto 4, 3) := by decide +kernel
theorem pr_99_49 : pj_find 49 pj_m99.2.2.2.2.2.2 = some (.iconst 0, 1) := by decide +kernel
theorem pr_99_50 : pj_find 50 pj_m99.2.2.2.2.2.2 = some (.ireturn, 1) := by decide +kernel
theorem pr_100_0 : pj_find 0 pj_m100.2.2.2.2.2.2 = some (.iconst 0, 1) := by decide +kernel
theorem pr_100_1 : pj_find 1 pj_m100.2.2.2.2.2.2 = some (.istore_n 2, 1) := by decide +kernel
theorem pr_100_2 : pj_find 2 pj_m100.2.2.2.2.2.2 = some (.iconst 1, 1) := by decide +kernel
theorem pr_100_3 : pj_find 3 pj_m100.2.2.2.2.2.2 = some (.istore_n 3, 1) := by decide +kernel
theorem pr_100_4 : pj_find 4 pj_m100.2.2.2.2.2.2 = some (.iload_n 3, 1) := by decide +kernel
theorem pr_100_5 : pj_find 5 pj_m100.2.2.2.2.2.2 = some (.sipush 256, 3) := by decide +kernel
theorem pr_100_8 : pj_find 8 pj_m100.2.2.2.2.2.2 = some (.if_icmp .ge 53, 3) := by decide +kernel
theorem pr_100_11 : pj_find 11 pj_m100.2.2.2.2.2.2 = some (.iload_n 2, 1) := by decide +kernel
theorem pr_100_12 : pj_find 12 pj_m100.2.2.2.2.2.2 = some (.ifCond .eq 14, 3) := by decide +kernel
theorem pr_100_15 : pj_find 15 pj_m100.2.2.2.2.2.2 = some (.iload_n 3, 1) := by decide +kernel
theorem pr_100_16 : pj_find 16 pj_m100.2.2.2.2.2.2 = some (.invokestatic 247, 3) := by decide +kernel
theorem pr_100_19 : pj_find 19 pj_m100.2.2.2.2.2.2 = some (.iload_n 2, 1) := by decide +kernel
theorem pr_100_20 : pj_find 20 pj_m100.2.2.2.2.2.2 = some (.invokestatic 247, 3) := by decide +kernel
theorem pr_100_23 : pj_find 23 pj_m100.2.2.2.2.2.2 = some (.if_icmp .ge 7, 3) := by decide +kernel
theorem pr_100_26 : pj_find 26 pj_m100.2.2.2.2.2.2 = some (.iconst 1, 1) := by decide +kernel
theorem pr_100_27 : pj_find 27 pj_m100.2.2.2.2.2.2 = some (.goto 4, 3) := by decide +kernel
theorem pr_100_30 : pj_find 30 pj_m100.2.2.2.2.2.2 = some (.iconst 0, 1) := by decide +kernel
theorem pr_100_31 : pj_find 31 pj_m100.2.2.2.2.2.2 = some (.istore 4, 2) := by decide +kernel
theorem pr_100_33 : pj_find 33 pj_m100.2.2.2.2.2.2 = some (.iload 4, 2) := by decide +kernel
theorem pr_100_35 : pj_find 35 pj_m100.2.2.2.2.2.2 = some (.ifCond .eq 20, 3) := by decide +kernel
theorem pr_100_38 : pj_find 38 pj_m100.2.2.2.2.2.2 = some (.iload_n 1, 1) := by decide +kernel
theorem pr_100_39 : pj_find 39 pj_m100.2.2.2.2.2.2 = some (.aload_n 0, 1) := by decide +kernel
theorem pr_100_40 : pj_find 40 pj_m100.2.2.2.2.2.2 = some (.getfield 10, 3) := by decide +kernel
theorem pr_100_43 : pj_find 43 pj_m100.2.2.2.2.2.2 = some (.iload_n 3, 1) := by decide +kernel
theorem pr_100_44 : pj_find 44 pj_m100.2.2.2.2.2.2 = some (.invokevirtual 252, 3) := by decide +kernel
theorem pr_100_47 : pj_find 47 pj_m100.2.2.2.2.2.2 = some (.iconst (-1), 1) := by decide +kernel
theorem pr_100_48 : pj_find 48 pj_m100.2.2.2.2.2.2 = some (.ixor, 1) := by decide +kernel
theorem pr_100_49 : pj_find 49 pj_m100.2.2.2.2.2.2 = some (.iand, 1) := by decide +kernel
theorem pr_100_50 : pj_find 50 pj_m100.2.2.2.2.2.2 = some (.ifCond .ne 5, 3) := by decide +kernel
theorem pr_100_53 : pj_find 53 pj_m100.2.2.2.2.2.2 = some (.iload_n 3, 1) := by decide +kernel
theorem pr_100_54 : pj_find 54 pj_m100.2.2.2.2.2.2 = some (.istore_n 2, 1) := by decide +kernel
theorem pr_100_55 : pj_find 55 pj_m100.2.2.2.2.2.2 = some (.iinc 3 1, 3) := by decide +kernel
theorem pr_100_58 : pj_find 58 pj_m100.2.2.2.2.2.2 = some (.goto (-54), 3) := by decide +kernel
theorem pr_100_61 : pj_find 61 pj_m100.2.2.2.2.2.2 = some (.iload_n 2, 1) := by decide +kernel
theorem pr_100_62 : pj_find 62 pj_m100.2.2.2.2.2.2 = some (.ireturn, 1) := by decide +kernel
theorem pr_101_0 : pj_find 0 pj_m101.2.2.2.2.2.2 = some (.aload_n 0, 1) := by decide +kernel
theorem pr_101_1 : pj_find 1 pj_m101.2.2.2.2.2.2 = some (.invokespecial 1, 3) := by decide +kernel
theorem pr_101_4 : pj_find 4 pj_m101.2.2.2.2.2.2 = some (.aload_n 0, 1) := by decide +kernel
theorem pr_101_5 : pj_find 5 pj_m101.2.2.2.2.2.2 = some (.bipush 32, 2) := by decide +kernel
theorem pr_101_7 : pj_find 7 pj_m101.2.2.2.2.2.2 = some (.newarray .int, 2) := by decide +kernel
theorem pr_101_9 : pj_find 9 pj_m101.2.2.2.2.2.2 = some (.putfield 7, 3) := by decide +kernel
theorem pr_101_12 : pj_find 12 pj_m101.2.2.2.2.2.2 = some (.aload_n 0, 1) := by decide +kernel
theorem pr_101_13 : pj_find 13 pj_m101.2.2.2.2.2.2 = some (.bipush 32, 2) := by decide +kernel
theorem pr_101_15 : pj_find 15 pj_m101.2.2.2.2.2.2 = some (.newarray .int, 2) := by decide +kernel
theorem pr_101_17 : pj_find 17 pj_m101.2.2.2.2.2.2 = some (.putfield 13, 3) := by decide +kernel
theorem pr_101_20 : pj_find 20 pj_m101.2.2.2.2.2.2 = some (.aload_n 0, 1) := by decide +kernel
theorem pr_101_21 : pj_find 21 pj_m101.2.2.2.2.2.2 = some (.bipush 16, 2) := by decide +kernel
theorem pr_101_23 : pj_find 23 pj_m101.2.2.2.2.2.2 = some (.newarray .int, 2) := by decide +kernel
theorem pr_101_25 : pj_find 25 pj_m101.2.2.2.2.2.2 = some (.putfield 16, 3) := by decide +kernel
theorem pr_101_28 : pj_find 28 pj_m101.2.2.2.2.2.2 = some (.aload_n 0, 1) := by decide +kernel
theorem pr_101_29 : pj_find 29 pj_m101.2.2.2.2.2.2 = some (.bipush 60, 2) := by decide +kernel
theorem pr_101_31 : pj_find 31 pj_m101.2.2.2.2.2.2 = some (.newarray .int, 2) := by decide +kernel
theorem pr_101_33 : pj_find 33 pj_m101.2.2.2.2.2.2 = some (.putfield 19, 3) := by decide +kernel
theorem pr_101_36 : pj_find 36 pj_m101.2.2.2.2.2.2 = some (.aload_n 0, 1) := by decide +kernel
theorem pr_101_37 : pj_find 37 pj_m101.2.2.2.2.2.2 = some (.sipush 326, 3) := by decide +kernel
theorem pr_101_40 : pj_find 40 pj_m101.2.2.2.2.2.2 = some (.newarray .long, 2) := by decide +kernel
theorem pr_101_42 : pj_find 42 pj_m101.2.2.2.2.2.2 = some (.putfield 22, 3) := by decide +kernel
theorem pr_101_45 : pj_find 45 pj_m101.2.2.2.2.2.2 = some (.aload_n 0, 1) := by decide +kernel
theorem pr_101_46 : pj_find 46 pj_m101.2.2.2.2.2.2 = some (.bipush 6, 2) := by decide +kernel
theorem pr_101_48 : pj_find 48 pj_m101.2.2.2.2.2.2 = some (.newarray .int, 2) := by decide +kernel
theorem pr_101_50 : pj_find 50 pj_m101.2.2.2.2.2.2 = some (.putfield 26, 3) := by decide +kernel
theorem pr_101_53 : pj_find 53 pj_m101.2.2.2.2.2.2 = some (.aload_n 0, 1) := by decide +kernel
theorem pr_101_54 : pj_find 54 pj_m101.2.2.2.2.2.2 = some (.bipush 18, 2) := by decide +kernel
theorem pr_101_56 : pj_find 56 pj_m101.2.2.2.2.2.2 = some (.newarray .long, 2) := by decide +kernel
theorem pr_101_58 : pj_find 58 pj_m101.2.2.2.2.2.2 = some (.putfield 29, 3) := by decide +kernel
theorem pr_101_61 : pj_find 61 pj_m101.2.2.2.2.2.2 = some (.aload_n 0, 1) := by decide +kernel
theorem pr_101_62 : pj_find 62 pj_m101.2.2.2.2.2.2 = some (.bipush 100, 2) := by decide +kernel
theorem pr_101_64 : pj_find 64 pj_m101.2.2.2.2.2.2 = some (.newarray .int, 2) := by decide +kernel
theorem pr_101_66 : pj_find 66 pj_m101.2.2.2.2.2.2 = some (.putfield 32, 3) := by decide +kernel
theorem pr_101_69 : pj_find 69 pj_m101.2.2.2.2.2.2 = some (.aload_n 0, 1) := by decide +kernel
theorem pr_101_70 : pj_find 70 pj_m101.2.2.2.2.2.2 = some (.iconst 2, 1) := by decide +kernel
theorem pr_101_71 : pj_find 71 pj_m101.2.2.2.2.2.2 = some (.newarray .boolean, 2) := by decide +kernel
theorem pr_101_73 : pj_find 73 pj_m101.2.2.2.2.2.2 = some (.putfield 35, 3) := by decide +kernel
theorem pr_101_76 : pj_find 76 pj_m101.2.2.2.2.2.2 = some (.iconst 1, 1) := by decide +kernel
theorem pr_101_77 : pj_find 77 pj_m101.2.2.2.2.2.2 = some (.istore_n 1, 1) := by decide +kernel
theorem pr_101_78 : pj_find 78 pj_m101.2.2.2.2.2.2 = some (.iload_n 1, 1) := by decide +kernel
theorem pr_101_79 : pj_find 79 pj_m101.2.2.2.2.2.2 = some (.bipush 6, 2) := by decide +kernel
theorem pr_101_81 : pj_find 81 pj_m101.2.2.2.2.2.2 = some (.if_icmp .ge 20, 3) := by decide +kernel
theorem pr_101_84 : pj_find 84 pj_m101.2.2.2.2.2.2 = some (.aload_n 0, 1) := by decide +kernel
theorem pr_101_85 : pj_find 85 pj_m101.2.2.2.2.2.2 = some (.getfield 7, 3) := by decide +kernel
theorem pr_101_88 : pj_find 88 pj_m101.2.2.2.2.2.2 = some (.bipush 24, 2) := by decide +kernel
theorem pr_101_90 : pj_find 90 pj_m101.2.2.2.2.2.2 = some (.iload_n 1, 1) := by decide +kernel
theorem pr_101_91 : pj_find 91 pj_m101.2.2.2.2.2.2 = some (.iadd, 1) := by decide +kernel
theorem pr_101_92 : pj_find 92 pj_m101.2.2.2.2.2.2 = some (.bipush 50, 2) := by decide +kernel
theorem pr_101_94 : pj_find 94 pj_m101.2.2.2.2.2.2 = some (.iastore, 1) := by decide +kernel
theorem pr_101_95 : pj_find 95 pj_m101.2.2.2.2.2.2 = some (.iinc 1 1, 3) := by decide +kernel
theorem pr_101_98 : pj_find 98 pj_m101.2.2.2.2.2.2 = some (.goto (-20), 3) := by decide +kernel
theorem pr_101_101 : pj_find 101 pj_m101.2.2.2.2.2.2 = some (.return_, 1) := by decide +kernel
theorem pr_102_0 : pj_find 0 pj_m102.2.2.2.2.2.2 = some (.iload_n 0, 1) := by decide +kernel
theorem pr_102_1 : pj_find 1 pj_m102.2.2.2.2.2.2 = some (.iload_n 1, 1) := by decide +kernel
theorem pr_102_2 : pj_find 2 pj_m102.2.2.2.2.2.2 = some (.if_icmp .lt 12, 3) := by decide +kernel
theorem pr_102_5 : pj_find 5 pj_m102.2.2.2.2.2.2 = some (.iload_n 0, 1) := by decide +kernel
theorem pr_102_6 : pj_find 6 pj_m102.2.2.2.2.2.2 = some (.iload_n 2, 1) := by decide +kernel
theorem pr_102_7 : pj_find 7 pj_m102.2.2.2.2.2.2 = some (.if_icmp .gt 7, 3) := by decide +kernel
theorem pr_102_10 : pj_find 10 pj_m102.2.2.2.2.2.2 = some (.iconst 1, 1) := by decide +kernel
theorem pr_102_11 : pj_find 11 pj_m102.2.2.2.2.2.2 = some (.goto 4, 3) := by decide +kernel
theorem pr_102_14 : pj_find 14 pj_m102.2.2.2.2.2.2 = some (.iconst 0, 1) := by decide +kernel
theorem pr_102_15 : pj_find 15 pj_m102.2.2.2.2.2.2 = some (.ireturn, 1) := by decide +kernel
theorem pr_103_0 : pj_find 0 pj_m103.2.2.2.2.2.2 = some (.iload_n 0, 1) := by decide +kernel
theorem pr_103_1 : pj_find 1 pj_m103.2.2.2.2.2.2 = some (.iload_n 1, 1) := by decide +kernel
theorem pr_103_2 : pj_find 2 pj_m103.2.2.2.2.2.2 = some (.ishr, 1) := by decide +kernel
theorem pr_103_3 : pj_find 3 pj_m103.2.2.2.2.2.2 = some (.iconst 1, 1) := by decide +kernel
theorem pr_103_4 : pj_find 4 pj_m103.2.2.2.2.2.2 = some (.iand, 1) := by decide +kernel
theorem pr_103_5 : pj_find 5 pj_m103.2.2.2.2.2.2 = some (.iconst 1, 1) := by decide +kernel
theorem pr_103_6 : pj_find 6 pj_m103.2.2.2.2.2.2 = some (.if_icmp .ne 7, 3) := by decide +kernel
theorem pr_103_9 : pj_find 9 pj_m103.2.2.2.2.2.2 = some (.iconst 1, 1) := by decide +kernel
theorem pr_103_10 : pj_find 10 pj_m103.2.2.2.2.2.2 = some (.goto 4, 3) := by decide +kernel
theorem pr_103_13 : pj_find 13 pj_m103.2.2.2.2.2.2 = some (.iconst 0, 1) := by decide +kernel
theorem pr_103_14 : pj_find 14 pj_m103.2.2.2.2.2.2 = some (.ireturn, 1) := by decide +kernel
theorem pr_104_0 : pj_find 0 pj_m104.2.2.2.2.2.2 = some (.iconst 0, 1) := by decide +kernel
theorem pr_104_1 : pj_find 1 pj_m104.2.2.2.2.2.2 = some (.istore_n 1, 1) := by decide +kernel
theorem pr_104_2 : pj_find 2 pj_m104.2.2.2.2.2.2 = some (.iconst 0, 1) := by decide +kernel
theorem pr_104_3 : pj_find 3 pj_m104.2.2.2.2.2.2 = some (.istore_n 2, 1) := by decide +kernel
theorem pr_104_4 : pj_find 4 pj_m104.2.2.2.2.2.2 = some (.iload_n 2, 1) := by decide +kernel
theorem pr_104_5 : pj_find 5 pj_m104.2.2.2.2.2.2 = some (.bipush 16, 2) := by decide +kernel
theorem pr_104_7 : pj_find 7 pj_m104.2.2.2.2.2.2 = some (.if_icmp .ge 17, 3) := by decide +kernel
theorem pr_104_10 : pj_find 10 pj_m104.2.2.2.2.2.2 = some (.iload_n 1, 1) := by decide +kernel
theorem pr_104_11 : pj_find 11 pj_m104.2.2.2.2.2.2 = some (.iload_n 0, 1) := by decide +kernel
theorem pr_104_12 : pj_find 12 pj_m104.2.2.2.2.2.2 = some (.iload_n 2, 1) := by decide +kernel
theorem pr_104_13 : pj_find 13 pj_m104.2.2.2.2.2.2 = some (.ishr, 1) := by decide +kernel
theorem pr_104_14 : pj_find 14 pj_m104.2.2.2.2.2.2 = some (.iconst 1, 1) := by decide +kernel
theorem pr_104_15 : pj_find 15 pj_m104.2.2.2.2.2.2 = some (.iand, 1) := by decide +kernel
theorem pr_104_16 : pj_find 16 pj_m104.2.2.2.2.2.2 = some (.iadd, 1) := by decide +kernel
theorem pr_104_17 : pj_find 17 pj_m104.2.2.2.2.2.2 = some (.istore_n 1, 1) := by decide +kernel
theorem pr_104_18 : pj_find 18 pj_m104.2.2.2.2.2.2 = some (.iinc 2 1, 3) := by decide +kernel
theorem pr_104_21 : pj_find 21 pj_m104.2.2.2.2.2.2 = some (.goto (-17), 3) := by decide +kernel
theorem pr_104_24 : pj_find 24 pj_m104.2.2.2.2.2.2 = some (.iload_n 1, 1) := by decide +kernel
theorem pr_104_25 : pj_find 25 pj_m104.2.2.2.2.2.2 = some (.ireturn, 1) := by decide +kernel
theorem pr_105_0 : pj_find 0 pj_m105.2.2.2.2.2.2 = some (.iload_n 0, 1) := by decide +kernel
theorem pr_105_1 : pj_find 1 pj_m105.2.2.2.2.2.2 = some (.iconst 0, 1) := by decide +kernel
theorem pr_105_2 : pj_find 2 pj_m105.2.2.2.2.2.2 = some (.bipush 15, 2) := by decide +kernel
theorem pr_105_4 : pj_find 4 pj_m105.2.2.2.2.2.2 = some (.invokestatic 39, 3) := by decide +kernel
theorem pr_105_7 : pj_find 7 pj_m105.2.2.2.2.2.2 = some (.ireturn, 1) := by decide +kernel
theorem pr_106_0 : pj_find 0 pj_m106.2.2.2.2.2.2 = some (.iload_n 0, 1) := by decide +kernel
theorem pr_106_1 : pj_find 1 pj_m106.2.2.2.2.2.2 = some (.iconst 0, 1) := by decide +kernel
theorem pr_106_2 : pj_find 2 pj_m106.2.2.2.2.2.2 = some (.bipush 7, 2) := by decide +kernel
theorem pr_106_4 : pj_find 4 pj_m106.2.2.2.2.2.2 = some (.invokestatic 39, 3) := by decide +kernel
theorem pr_106_7 : pj_find 7 pj_m106.2.2.2.2.2.2 = some (.ireturn, 1) := by decide +kernel
theorem pr_107_0 : pj_find 0 pj_m107.2.2.2.2.2.2 = some (.iload_n 1, 1) := by decide +kernel
theorem pr_107_1 : pj_find 1 pj_m107.2.2.2.2.2.2 = some (.invokestatic 43, 3) := by decide +kernel
theorem pr_107_4 : pj_find 4 pj_m107.2.2.2.2.2.2 = some (.ifCond .ne 5, 3) := by decide +kernel
theorem pr_107_7 : pj_find 7 pj_m107.2.2.2.2.2.2 = some (.iconst (-1), 1) := by decide +kernel
theorem pr_107_8 : pj_find 8 pj_m107.2.2.2.2.2.2 = some (.ireturn, 1) := by decide +kernel
theorem pr_107_9 : pj_find 9 pj_m107.2.2.2.2.2.2 = some (.iload_n 2, 1) := by decide +kernel
theorem pr_107_10 : pj_find 10 pj_m107.2.2.2.2.2.2 = some (.iconst 0, 1) := by decide +kernel
theorem pr_107_11 : pj_find 11 pj_m107.2.2.2.2.2.2 = some (.bipush 6, 2) := by decide +kernel
theorem pr_107_13 : pj_find 13 pj_m107.2.2.2.2.2.2 = some (.invokestatic 39, 3) := by decide +kernel
theorem pr_107_16 : pj_find 16 pj_m107.2.2.2.2.2.2 = some (.ifCond .eq 20, 3) := by decide +kernel
theorem pr_107_19 : pj_find 19 pj_m107.2.2.2.2.2.2 = some (.iload_n 3, 1) := by decide +kernel
theorem pr_107_20 : pj_find 20 pj_m107.2.2.2.2.2.2 = some (.iconst 0, 1) := by decide +kernel
theorem pr_107_21 : pj_find 21 pj_m107.2.2.2.2.2.2 = some (.iload_n 2, 1) := by decide +kernel
theorem pr_107_22 : pj_find 22 pj_m107.2.2.2.2.2.2 = some (.ifCond .ne 7, 3) := by decide +kernel
theorem pr_107_25 : pj_find 25 pj_m107.2.2.2.2.2.2 = some (.iconst 0, 1) := by decide +kernel
theorem pr_107_26 : pj_find 26 pj_m107.2.2.2.2.2.2 = some (.goto 4, 3) := by decide +kernel
theorem pr_107_29 : pj_find 29 pj_m107.2.2.2.2.2.2 = some (.iconst 1, 1) := by decide +kernel
theorem pr_107_30 : pj_find 30 pj_m107.2.2.2.2.2.2 = some (.invokestatic 39, 3) := by decide +kernel
theorem pr_107_33 : pj_find 33 pj_m107.2.2.2.2.2.2 = some (.ifCond .ne 6, 3) := by decide +kernel
theorem pr_107_36 : pj_find 36 pj_m107.2.2.2.2.2.2 = some (.bipush (-2), 2) := by decide +kernel
theorem pr_107_38 : pj_find 38 pj_m107.2.2.2.2.2.2 = some (.ireturn, 1) := by decide +kernel
theorem pr_107_39 : pj_find 39 pj_m107.2.2.2.2.2.2 = some (.aload_n 0, 1) := by decide +kernel
theorem pr_107_40 : pj_find 40 pj_m107.2.2.2.2.2.2 = some (.getfield 7, 3) := by decide +kernel
theorem pr_107_43 : pj_find 43 pj_m107.2.2.2.2.2.2 = some (.iload_n 1, 1) := by decide +kernel
theorem pr_107_44 : pj_find 44 pj_m107.2.2.2.2.2.2 = some (.iaload, 1) := by decide +kernel
theorem pr_107_45 : pj_find 45 pj_m107.2.2.2.2.2.2 = some (.istore 4, 2) := by decide +kernel
theorem pr_107_47 : pj_find 47 pj_m107.2.2.2.2.2.2 = some (.aload_n 0, 1) := by decide +kernel
theorem pr_107_48 : pj_find 48 pj_m107.2.2.2.2.2.2 = some (.getfield 7, 3) := by decide +kernel
theorem pr_107_51 : pj_find 51 pj_m107.2.2.2.2.2.2 = some (.iload_n 1, 1) := by decide +kernel
theorem pr_107_52 : pj_find 52 pj_m107.2.2.2.2.2.2 = some (.iload_n 2, 1) := by decide +kernel
theorem pr_107_53 : pj_find 53 pj_m107.2.2.2.2.2.2 = some (.iastore, 1) := by decide +kernel
theorem pr_107_54 : pj_find 54 pj_m107.2.2.2.2.2.2 = some (.aload_n 0, 1) := by decide +kernel
theorem pr_107_55 : pj_find 55 pj_m107.2.2.2.2.2.2 = some (.getfield 7, 3) := by decide +kernel
theorem pr_107_58 : pj_find 58 pj_m107.2.2.2.2.2.2 = some (.bipush 30, 2) := by decide +kernel
theorem pr_107_60 : pj_find 60 pj_m107.2.2.2.2.2.2 = some (.dup2, 1) := by decide +kernel
theorem pr_107_61 : pj_find 61 pj_m107.2.2.2.2.2.2 = some (.iaload, 1) := by decide +kernel
theorem pr_107_62 : pj_find 62 pj_m107.2.2.2.2.2.2 = some (.iconst 1, 1) := by decide +kernel
theorem pr_107_63 : pj_find 63 pj_m107.2.2.2.2.2.2 = some (.iload_n 1, 1) := by decide +kernel
theorem pr_107_64 : pj_find 64 pj_m107.2.2.2.2.2.2 = some (.ishl, 1) := by decide +kernel
theorem pr_107_65 : pj_find 65 pj_m107.2.2.2.2.2.2 = some (.iconst (-1), 1) := by decide +kernel
theorem pr_107_66 : pj_find 66 pj_m107.2.2.2.2.2.2 = some (.ixor, 1) := by decide +kernel
theorem pr_107_67 : pj_find 67 pj_m107.2.2.2.2.2.2 = some (.iand, 1) := by decide +kernel
theorem pr_107_68 : pj_find 68 pj_m107.2.2.2.2.2.2 = some (.iastore, 1) := by decide +kernel
theorem pr_107_69 : pj_find 69 pj_m107.2.2.2.2.2.2 = some (.aload_n 0, 1) := by decide +kernel
theorem pr_107_70 : pj_find 70 pj_m107.2.2.2.2.2.2 = some (.getfield 7, 3) := by decide +kernel
theorem pr_107_73 : pj_find 73 pj_m107.2.2.2.2.2.2 = some (.bipush 30, 2) := by decide +kernel
theorem pr_107_75 : pj_find 75 pj_m107.2.2.2.2.2.2 = some (.dup2, 1) := by decide +kernel
theorem pr_107_76 : pj_find 76 pj_m107.2.2.2.2.2.2 = some (.iaload, 1) := by decide +kernel
theorem pr_107_77 : pj_find 77 pj_m107.2.2.2.2.2.2 = some (.iload_n 3, 1) := by decide +kernel
theorem pr_107_78 : pj_find 78 pj_m107.2.2.2.2.2.2 = some (.iload_n 1, 1) := by decide +kernel
theorem pr_107_79 : pj_find 79 pj_m107.2.2.2.2.2.2 = some (.ishl, 1) := by decide +kernel
theorem pr_107_80 : pj_find 80 pj_m107.2.2.2.2.2.2 = some (.ior, 1) := by decide +kernel
theorem pr_107_81 : pj_find 81 pj_m107.2.2.2.2.2.2 = some (.iastore, 1) := by decide +kernel
theorem pr_107_82 : pj_find 82 pj_m107.2.2.2.2.2.2 = some (.iload 4, 2) := by decide +kernel
theorem pr_107_84 : pj_find 84 pj_m107.2.2.2.2.2.2 = some (.ireturn, 1) := by decide +kernel
theorem pr_108_0 : pj_find 0 pj_m108.2.2.2.2.2.2 = some (.iload_n 1, 1) := by decide +kernel
theorem pr_108_1 : pj_find 1 pj_m108.2.2.2.2.2.2 = some (.invokestatic 47, 3) := by decide +kernel
theorem pr_108_4 : pj_find 4 pj_m108.2.2.2.2.2.2 = some (.ifCond .ne 5, 3) := by decide +kernel
theorem pr_108_7 : pj_find 7 pj_m108.2.2.2.2.2.2 = some (.iconst (-1), 1) := by decide +kernel
theorem pr_108_8 : pj_find 8 pj_m108.2.2.2.2.2.2 = some (.ireturn, 1) := by decide +kernel
theorem pr_108_9 : pj_find 9 pj_m108.2.2.2.2.2.2 = some (.iload_n 2, 1) := by decide +kernel
theorem pr_108_10 : pj_find 10 pj_m108.2.2.2.2.2.2 = some (.iconst 0, 1) := by decide +kernel
theorem pr_108_11 : pj_find 11 pj_m108.2.2.2.2.2.2 = some (.ldc 50, 2) := by decide +kernel
theorem pr_108_13 : pj_find 13 pj_m108.2.2.2.2.2.2 = some (.invokestatic 39, 3) := by decide +kernel
theorem pr_108_16 : pj_find 16 pj_m108.2.2.2.2.2.2 = some (.ifCond .ne 6, 3) := by decide +kernel
theorem pr_108_19 : pj_find 19 pj_m108.2.2.2.2.2.2 = some (.bipush (-2), 2) := by decide +kernel
theorem pr_108_21 : pj_find 21 pj_m108.2.2.2.2.2.2 = some (.ireturn, 1) := by decide +kernel
theorem pr_108_22 : pj_find 22 pj_m108.2.2.2.2.2.2 = some (.aload_n 0, 1) := by decide +kernel
theorem pr_108_23 : pj_find 23 pj_m108.2.2.2.2.2.2 = some (.getfield 7, 3) := by decide +kernel
theorem pr_108_26 : pj_find 26 pj_m108.2.2.2.2.2.2 = some (.bipush 16, 2) := by decide +kernel
theorem pr_108_28 : pj_find 28 pj_m108.2.2.2.2.2.2 = some (.iload_n 1, 1) := by decide +kernel
theorem pr_108_29 : pj_find 29 pj_m108.2.2.2.2.2.2 = some (.iadd, 1) := by decide +kernel
theorem pr_108_30 : pj_find 30 pj_m108.2.2.2.2.2.2 = some (.iaload, 1) := by decide +kernel
theorem pr_108_31 : pj_find 31 pj_m108.2.2.2.2.2.2 = some (.istore_n 3, 1) := by decide +kernel
theorem pr_108_32 : pj_find 32 pj_m108.2.2.2.2.2.2 = some (.aload_n 0, 1) := by decide +kernel
theorem pr_108_33 : pj_find 33 pj_m108.2.2.2.2.2.2 = some (.getfield 7, 3) := by decide +kernel
theorem pr_108_36 : pj_find 36 pj_m108.2.2.2.2.2.2 = some (.bipush 16, 2) := by decide +kernel
theorem pr_108_38 : pj_find 38 pj_m108.2.2.2.2.2.2 = some (.iload_n 1, 1) := by decide +kernel
theorem pr_108_39 : pj_find 39 pj_m108.2.2.2.2.2.2 = some (.iadd, 1) := by decide +kernel
theorem pr_108_40 : pj_find 40 pj_m108.2.2.2.2.2.2 = some (.iload_n 2, 1) := by decide +kernel
theorem pr_108_41 : pj_find 41 pj_m108.2.2.2.2.2.2 = some (.iastore, 1) := by decide +kernel
theorem pr_108_42 : pj_find 42 pj_m108.2.2.2.2.2.2 = some (.iload_n 3, 1) := by decide +kernel
theorem pr_108_43 : pj_find 43 pj_m108.2.2.2.2.2.2 = some (.ireturn, 1) := by decide +kernel
theorem pr_109_0 : pj_find 0 pj_m109.2.2.2.2.2.2 = some (.iload_n 1, 1) := by decide +kernel
theorem pr_109_1 : pj_find 1 pj_m109.2.2.2.2.2.2 = some (.iconst 1, 1) := by decide +kernel
theorem pr_109_2 : pj_find 2 pj_m109.2.2.2.2.2.2 = some (.iconst 5, 1) := by decide +kernel
theorem pr_109_3 : pj_find 3 pj_m109.2.2.2.2.2.2 = some (.invokestatic 39, 3) := by decide +kernel
theorem pr_109_6 : pj_find 6 pj_m109.2.2.2.2.2.2 = some (.ifCond .ne 5, 3) := by decide +kernel
theorem pr_109_9 : pj_find 9 pj_m109.2.2.2.2.2.2 = some (.iconst (-1), 1) := by decide +kernel
theorem pr_109_10 : pj_find 10 pj_m109.2.2.2.2.2.2 = some (.ireturn, 1) := by decide +kernel
theorem pr_109_11 : pj_find 11 pj_m109.2.2.2.2.2.2 = some (.iload_n 2, 1) := by decide +kernel
theorem pr_109_12 : pj_find 12 pj_m109.2.2.2.2.2.2 = some (.iconst 0, 1) := by decide +kernel
theorem pr_109_13 : pj_find 13 pj_m109.2.2.2.2.2.2 = some (.sipush 999, 3) := by decide +kernel
theorem pr_109_16 : pj_find 16 pj_m109.2.2.2.2.2.2 = some (.invokestatic 39, 3) := by decide +kernel
theorem pr_109_19 : pj_find 19 pj_m109.2.2.2.2.2.2 = some (.ifCond .ne 6, 3) := by decide +kernel
theorem pr_109_22 : pj_find 22 pj_m109.2.2.2.2.2.2 = some (.bipush (-2), 2) := by decide +kernel
theorem pr_109_24 : pj_find 24 pj_m109.2.2.2.2.2.2 = some (.ireturn, 1) := by decide +kernel
theorem pr_109_25 : pj_find 25 pj_m109.2.2.2.2.2.2 = some (.aload_n 0, 1) := by decide +kernel
theorem pr_109_26 : pj_find 26 pj_m109.2.2.2.2.2.2 = some (.getfield 7, 3) := by decide +kernel
theorem pr_109_29 : pj_find 29 pj_m109.2.2.2.2.2.2 = some (.bipush 24, 2) := by decide +kernel
theorem pr_109_31 : pj_find 31 pj_m109.2.2.2.2.2.2 = some (.iload_n 1, 1) := by decide +kernel
theorem pr_109_32 : pj_find 32 pj_m109.2.2.2.2.2.2 = some (.iadd, 1) := by decide +kernel
theorem pr_109_33 : pj_find 33 pj_m109.2.2.2.2.2.2 = some (.iaload, 1) := by decide +kernel
theorem pr_109_34 : pj_find 34 pj_m109.2.2.2.2.2.2 = some (.istore_n 3, 1) := by decide +kernel
theorem pr_109_35 : pj_find 35 pj_m109.2.2.2.2.2.2 = some (.aload_n 0, 1) := by decide +kernel
theorem pr_109_36 : pj_find 36 pj_m109.2.2.2.2.2.2 = some (.getfield 7, 3) := by decide +kernel
theorem pr_109_39 : pj_find 39 pj_m109.2.2.2.2.2.2 = some (.bipush 24, 2) := by decide +kernel
theorem pr_109_41 : pj_find 41 pj_m109.2.2.2.2.2.2 = some (.iload_n 1, 1) := by decide +kernel
theorem pr_109_42 : pj_find 42 pj_m109.2.2.2.2.2.2 = some (.iadd, 1) := by decide +kernel
theorem pr_109_43 : pj_find 43 pj_m109.2.2.2.2.2.2 = some (.iload_n 2, 1) := by decide +kernel
theorem pr_109_44 : pj_find 44 pj_m109.2.2.2.2.2.2 = some (.iastore, 1) := by decide +kernel
theorem pr_109_45 : pj_find 45 pj_m109.2.2.2.2.2.2 = some (.iload_n 3, 1) := by decide +kernel
theorem pr_109_46 : pj_find 46 pj_m109.2.2.2.2.2.2 = some (.ireturn, 1) := by decide +kernel
theorem pr_110_0 : pj_find 0 pj_m110.2.2.2.2.2.2 = some (.iload_n 1, 1) := by decide +kernel
theorem pr_110_1 : pj_find 1 pj_m110.2.2.2.2.2.2 = some (.bipush 33, 2) := by decide +kernel
theorem pr_110_3 : pj_find 3 pj_m110.2.2.2.2.2.2 = some (.bipush 126, 2) := by decide +kernel
theorem pr_110_5 : pj_find 5 pj_m110.2.2.2.2.2.2 = some (.invokestatic 39, 3) := by decide +kernel
theorem pr_110_8 : pj_find 8 pj_m110.2.2.2.2.2.2 = some (.ifCond .ne 6, 3) := by decide +kernel
theorem pr_110_11 : pj_find 11 pj_m110.2.2.2.2.2.2 = some (.bipush (-2), 2) := by decide +kernel
theorem pr_110_13 : pj_find 13 pj_m110.2.2.2.2.2.2 = some (.ireturn, 1) := by decide +kernel
theorem pr_110_14 : pj_find 14 pj_m110.2.2.2.2.2.2 = some (.aload_n 0, 1) := by decide +kernel
theorem pr_110_15 : pj_find 15 pj_m110.2.2.2.2.2.2 = some (.getfield 51, 3) := by decide +kernel
theorem pr_110_18 : pj_find 18 pj_m110.2.2.2.2.2.2 = some (.bipush 60, 2) := by decide +kernel
theorem pr_110_20 : pj_find 20 pj_m110.2.2.2.2.2.2 = some (.if_icmp .ne 6, 3) := by decide +kernel
theorem pr_110_23 : pj_find 23 pj_m110.2.2.2.2.2.2 = some (.bipush (-4), 2) := by decide +kernel
theorem pr_110_25 : pj_find 25 pj_m110.2.2.2.2.2.2 = some (.ireturn, 1) := by decide +kernel
theorem pr_110_26 : pj_find 26 pj_m110.2.2.2.2.2.2 = some (.aload_n 0, 1) := by decide +kernel
theorem pr_110_27 : pj_find 27 pj_m110.2.2.2.2.2.2 = some (.getfield 19, 3) := by decide +kernel
theorem pr_110_30 : pj_find 30 pj_m110.2.2.2.2.2.2 = some (.aload_n 0, 1) := by decide +kernel
theorem pr_110_31 : pj_find 31 pj_m110.2.2.2.2.2.2 = some (.getfield 51, 3) := by decide +kernel
theorem pr_110_34 : pj_find 34 pj_m110.2.2.2.2.2.2 = some (.iload_n 1, 1) := by decide +kernel
theorem pr_110_35 : pj_find 35 pj_m110.2.2.2.2.2.2 = some (.iastore, 1) := by decide +kernel
theorem pr_110_36 : pj_find 36 pj_m110.2.2.2.2.2.2 = some (.aload_n 0, 1) := by decide +kernel
theorem pr_110_37 : pj_find 37 pj_m110.2.2.2.2.2.2 = some (.dup, 1) := by decide +kernel
theorem pr_110_38 : pj_find 38 pj_m110.2.2.2.2.2.2 = some (.getfield 51, 3) := by decide +kernel
theorem pr_110_41 : pj_find 41 pj_m110.2.2.2.2.2.2 = some (.iconst 1, 1) := by decide +kernel
theorem pr_110_42 : pj_find 42 pj_m110.2.2.2.2.2.2 = some (.iadd, 1) := by decide +kernel
theorem pr_110_43 : pj_find 43 pj_m110.2.2.2.2.2.2 = some (.putfield 51, 3) := by decide +kernel
theorem pr_110_46 : pj_find 46 pj_m110.2.2.2.2.2.2 = some (.aload_n 0, 1) := by decide +kernel
theorem pr_110_47 : pj_find 47 pj_m110.2.2.2.2.2.2 = some (.getfield 51, 3) := by decide +kernel
theorem pr_110_50 : pj_find 50 pj_m110.2.2.2.2.2.2 = some (.ireturn, 1) := by decide +kernel
theorem pr_111_0 : pj_find 0 pj_m111.2.2.2.2.2.2 = some (.aload_n 0, 1) := by decide +kernel
theorem pr_111_1 : pj_find 1 pj_m111.2.2.2.2.2.2 = some (.getfield 51, 3) := by decide +kernel
theorem pr_111_4 : pj_find 4 pj_m111.2.2.2.2.2.2 = some (.istore_n 1, 1) := by decide +kernel
theorem pr_111_5 : pj_find 5 pj_m111.2.2.2.2.2.2 = some (.aload_n 0, 1) := by decide +kernel
theorem pr_111_6 : pj_find 6 pj_m111.2.2.2.2.2.2 = some (.iconst 0, 1) := by decide +kernel
theorem pr_111_7 : pj_find 7 pj_m111.2.2.2.2.2.2 = some (.putfield 51, 3) := by decide +kernel
theorem pr_111_10 : pj_find 10 pj_m111.2.2.2.2.2.2 = some (.iload_n 1, 1) := by decide +kernel
theorem pr_111_11 : pj_find 11 pj_m111.2.2.2.2.2.2 = some (.ireturn, 1) := by decide +kernel
theorem pr_112_0 : pj_find 0 pj_m112.2.2.2.2.2.2 = some (.iload_n 0, 1) := by decide +kernel
theorem pr_112_1 : pj_find 1 pj_m112.2.2.2.2.2.2 = some (.tableswitch 116 0 2 #[27, 70, 98], 27) := by decide +kernel
theorem pr_112_28 : pj_find 28 pj_m112.2.2.2.2.2.2 = some (.iload_n 1, 1) := by decide +kernel
theorem pr_112_29 : pj_find 29 pj_m112.2.2.2.2.2.2 = some (.bipush 65, 2) := by decide +kernel
theorem pr_112_31 : pj_find 31 pj_m112.2.2.2.2.2.2 = some (.bipush 72, 2) := by decide +kernel
theorem pr_112_33 : pj_find 33 pj_m112.2.2.2.2.2.2 = some (.invokestatic 39, 3) := by decide +kernel
theorem pr_112_36 : pj_find 36 pj_m112.2.2.2.2.2.2 = some (.ifCond .eq 7, 3) := by decide +kernel
theorem pr_112_39 : pj_find 39 pj_m112.2.2.2.2.2.2 = some (.iconst 1, 1) := by decide +kernel
theorem pr_112_40 : pj_find 40 pj_m112.2.2.2.2.2.2 = some (.goto 30, 3) := by decide +kernel
theorem pr_112_43 : pj_find 43 pj_m112.2.2.2.2.2.2 = some (.iload_n 1, 1) := by decide +kernel
theorem pr_112_44 : pj_find 44 pj_m112.2.2.2.2.2.2 = some (.bipush 97, 2) := by decide +kernel
theorem pr_112_46 : pj_find 46 pj_m112.2.2.2.2.2.2 = some (.bipush 112, 2) := by decide +kernel
theorem pr_112_48 : pj_find 48 pj_m112.2.2.2.2.2.2 = some (.invokestatic 39, 3) := by decide +kernel
theorem pr_112_51 : pj_find 51 pj_m112.2.2.2.2.2.2 = some (.ifCond .eq 7, 3) := by decide +kernel
theorem pr_112_54 : pj_find 54 pj_m112.2.2.2.2.2.2 = some (.iconst 3, 1) := by decide +kernel
theorem pr_112_55 : pj_find 55 pj_m112.2.2.2.2.2.2 = some (.goto 15, 3) := by decide +kernel
theorem pr_112_58 : pj_find 58 pj_m112.2.2.2.2.2.2 = some (.iload_n 1, 1) := by decide +kernel
theorem pr_112_59 : pj_find 59 pj_m112.2.2.2.2.2.2 = some (.bipush 46, 2) := by decide +kernel
theorem pr_112_61 : pj_find 61 pj_m112.2.2.2.2.2.2 = some (.if_icmp .ne 7, 3) := by decide +kernel
theorem pr_112_64 : pj_find 64 pj_m112.2.2.2.2.2.2 = some (.iconst 0, 1) := by decide +kernel
theorem pr_112_65 : pj_find 65 pj_m112.2.2.2.2.2.2 = some (.goto 5, 3) := by decide +kernel
theorem pr_112_68 : pj_find 68 pj_m112.2.2.2.2.2.2 = some (.bipush (-6), 2) := by decide +kernel
theorem pr_112_70 : pj_find 70 pj_m112.2.2.2.2.2.2 = some (.ireturn, 1) := by decide +kernel
theorem pr_112_71 : pj_find 71 pj_m112.2.2.2.2.2.2 = some (.iload_n 1, 1) := by decide +kernel
theorem pr_112_72 : pj_find 72 pj_m112.2.2.2.2.2.2 = some (.bipush 48, 2) := by decide +kernel
theorem pr_112_74 : pj_find 74 pj_m112.2.2.2.2.2.2 = some (.bipush 51, 2) := by decide +kernel
theorem pr_112_76 : pj_find 76 pj_m112.2.2.2.2.2.2 = some (.invokestatic 39, 3) := by decide +kernel
theorem pr_112_79 : pj_find 79 pj_m112.2.2.2.2.2.2 = some (.ifCond .eq 7, 3) := by decide +kernel
theorem pr_112_82 : pj_find 82 pj_m112.2.2.2.2.2.2 = some (.iconst 2, 1) := by decide +kernel
theorem pr_112_83 : pj_find 83 pj_m112.2.2.2.2.2.2 = some (.goto 15, 3) := by decide +kernel
theorem pr_112_86 : pj_find 86 pj_m112.2.2.2.2.2.2 = some (.iload_n 1, 1) := by decide +kernel
theorem pr_112_87 : pj_find 87 pj_m112.2.2.2.2.2.2 = some (.bipush 126, 2) := by decide +kernel
theorem pr_112_89 : pj_find 89 pj_m112.2.2.2.2.2.2 = some (.if_icmp .ne 7, 3) := by decide +kernel
theorem pr_112_92 : pj_find 92 pj_m112.2.2.2.2.2.2 = some (.iconst 0, 1) := by decide +kernel
theorem pr_112_93 : pj_find 93 pj_m112.2.2.2.2.2.2 = some (.goto 5, 3) := by decide +kernel
theorem pr_112_96 : pj_find 96 pj_m112.2.2.2.2.2.2 = some (.bipush (-6), 2) := by decide +kernel
theorem pr_112_98 : pj_find 98 pj_m112.2.2.2.2.2.2 = some (.ireturn, 1) := by decide +kernel
theorem pr_112_99 : pj_find 99 pj_m112.2.2.2.2.2.2 = some (.iload_n 1, 1) := by decide +kernel
theorem pr_112_100 : pj_find 100 pj_m112.2.2.2.2.2.2 = some (.bipush 49, 2) := by decide +kernel
theorem pr_112_102 : pj_find 102 pj_m112.2.2.2.2.2.2 = some (.bipush 53, 2) := by decide +kernel
theorem pr_112_104 : pj_find 104 pj_m112.2.2.2.2.2.2 = some (.invokestatic 39, 3) := by decide +kernel
theorem pr_112_107 : pj_find 107 pj_m112.2.2.2.2.2.2 = some (.ifCond .eq 7, 3) := by decide +kernel
theorem pr_112_110 : pj_find 110 pj_m112.2.2.2.2.2.2 = some (.iconst 0, 1) := by decide +kernel
theorem pr_112_111 : pj_find 111 pj_m112.2.2.2.2.2.2 = some (.goto 5, 3) := by decide +kernel
theorem pr_112_114 : pj_find 114 pj_m112.2.2.2.2.2.2 = some (.bipush (-6), 2) := by decide +kernel
theorem pr_112_116 : pj_find 116 pj_m112.2.2.2.2.2.2 = some (.ireturn, 1) := by decide +kernel
theorem pr_112_117 : pj_find 117 pj_m112.2.2.2.2.2.2 = some (.iload_n 1, 1) := by decide +kernel
theorem pr_112_118 : pj_find 118 pj_m112.2.2.2.2.2.2 = some (.bipush 45, 2) := by decide +kernel
theorem pr_112_120 : pj_find 120 pj_m112.2.2.2.2.2.2 = some (.if_icmp .ne 7, 3) := by decide +kernel
theorem pr_112_123 : pj_find 123 pj_m112.2.2.2.2.2.2 = some (.iconst 0, 1) := by decide +kernel
theorem pr_112_124 : pj_find 124 pj_m112.2.2.2.2.2.2 = some (.goto 5, 3) := by decide +kernel
theorem pr_112_127 : pj_find 127 pj_m112.2.2.2.2.2.2 = some (.bipush (-6), 2) := by decide +kernel
theorem pr_112_129 : pj_find 129 pj_m112.2.2.2.2.2.2 = some (.ireturn, 1) := by decide +kernel
theorem pr_113_0 : pj_find 0 pj_m113.2.2.2.2.2.2 = some (.iconst 0, 1) := by decide +kernel
theorem pr_113_1 : pj_find 1 pj_m113.2.2.2.2.2.2 = some (.istore_n 1, 1) := by decide +kernel
theorem pr_113_2 : pj_find 2 pj_m113.2.2.2.2.2.2 = some (.iconst 0, 1) := by decide +kernel
theorem pr_113_3 : pj_find 3 pj_m113.2.2.2.2.2.2 = some (.istore_n 2, 1) := by decide +kernel
theorem pr_113_4 : pj_find 4 pj_m113.2.2.2.2.2.2 = some (.iload_n 2, 1) := by decide +kernel
theorem pr_113_5 : pj_find 5 pj_m113.2.2.2.2.2.2 = some (.aload_n 0, 1) := by decide +kernel
theorem pr_113_6 : pj_find 6 pj_m113.2.2.2.2.2.2 = some (.getfield 51, 3) := by decide +kernel
theorem pr_113_9 : pj_find 9 pj_m113.2.2.2.2.2.2 = some (.if_icmp .ge 26, 3) := by decide +kernel
theorem pr_113_12 : pj_find 12 pj_m113.2.2.2.2.2.2 = some (.iload_n 1, 1) := by decide +kernel
theorem pr_113_13 : pj_find 13 pj_m113.2.2.2.2.2.2 = some (.aload_n 0, 1) := by decide +kernel
theorem pr_113_14 : pj_find 14 pj_m113.2.2.2.2.2.2 = some (.getfield 19, 3) := by decide +kernel
theorem pr_113_17 : pj_find 17 pj_m113.2.2.2.2.2.2 = some (.iload_n 2, 1) := by decide +kernel
theorem pr_113_18 : pj_find 18 pj_m113.2.2.2.2.2.2 = some (.iaload, 1) := by decide +kernel
theorem pr_113_19 : pj_find 19 pj_m113.2.2.2.2.2.2 = some (.invokestatic 55, 3) := by decide +kernel
theorem pr_113_22 : pj_find 22 pj_m113.2.2.2.2.2.2 = some (.istore_n 1, 1) := by decide +kernel
theorem pr_113_23 : pj_find 23 pj_m113.2.2.2.2.2.2 = some (.iload_n 1, 1) := by decide +kernel
theorem pr_113_24 : pj_find 24 pj_m113.2.2.2.2.2.2 = some (.ifCond .ge 5, 3) := by decide +kernel
theorem pr_113_27 : pj_find 27 pj_m113.2.2.2.2.2.2 = some (.iload_n 2, 1) := by decide +kernel
theorem pr_113_28 : pj_find 28 pj_m113.2.2.2.2.2.2 = some (.ireturn, 1) := by decide +kernel
theorem pr_113_29 : pj_find 29 pj_m113.2.2.2.2.2.2 = some (.iinc 2 1, 3) := by decide +kernel
theorem pr_113_32 : pj_find 32 pj_m113.2.2.2.2.2.2 = some (.goto (-28), 3) := by decide +kernel
theorem pr_113_35 : pj_find 35 pj_m113.2.2.2.2.2.2 = some (.iload_n 1, 1) := by decide +kernel
theorem pr_113_36 : pj_find 36 pj_m113.2.2.2.2.2.2 = some (.ifCond .ne 8, 3) := by decide +kernel
theorem pr_113_39 : pj_find 39 pj_m113.2.2.2.2.2.2 = some (.bipush (-6), 2) := by decide +kernel
theorem pr_113_41 : pj_find 41 pj_m113.2.2.2.2.2.2 = some (.goto 7, 3) := by decide +kernel
theorem pr_113_44 : pj_find 44 pj_m113.2.2.2.2.2.2 = some (.aload_n 0, 1) := by decide +kernel
theorem pr_113_45 : pj_find 45 pj_m113.2.2.2.2.2.2 = some (.getfield 51, 3) := by decide +kernel
theorem pr_113_48 : pj_find 48 pj_m113.2.2.2.2.2.2 = some (.ireturn, 1) := by decide +kernel
theorem pr_114_0 : pj_find 0 pj_m114.2.2.2.2.2.2 = some (.aload_n 0, 1) := by decide +kernel
theorem pr_114_1 : pj_find 1 pj_m114.2.2.2.2.2.2 = some (.invokevirtual 59, 3) := by decide +kernel
theorem pr_114_4 : pj_find 4 pj_m114.2.2.2.2.2.2 = some (.ireturn, 1) := by decide +kernel
theorem pr_115_0 : pj_find 0 pj_m115.2.2.2.2.2.2 = some (.iconst 0, 1) := by decide +kernel
theorem pr_115_1 : pj_find 1 pj_m115.2.2.2.2.2.2 = some (.istore_n 1, 1) := by decide +kernel
theorem pr_115_2 : pj_find 2 pj_m115.2.2.2.2.2.2 = some (.iconst 0, 1) := by decide +kernel
theorem pr_115_3 : pj_find 3 pj_m115.2.2.2.2.2.2 = some (.istore_n 2, 1) := by decide +kernel
theorem pr_115_4 : pj_find 4 pj_m115.2.2.2.2.2.2 = some (.iload_n 2, 1) := by decide +kernel
theorem pr_115_5 : pj_find 5 pj_m115.2.2.2.2.2.2 = some (.bipush 16, 2) := by decide +kernel
theorem pr_115_7 : pj_find 7 pj_m115.2.2.2.2.2.2 = some (.if_icmp .ge 37, 3) := by decide +kernel
theorem pr_115_10 : pj_find 10 pj_m115.2.2.2.2.2.2 = some (.iload_n 1, 1) := by decide +kernel
theorem pr_115_11 : pj_find 11 pj_m115.2.2.2.2.2.2 = some (.iload_n 0, 1) := by decide +kernel
theorem pr_115_12 : pj_find 12 pj_m115.2.2.2.2.2.2 = some (.iload_n 2, 1) := by decide +kernel
theorem pr_115_13 : pj_find 13 pj_m115.2.2.2.2.2.2 = some (.invokestatic 63, 3) := by decide +kernel
theorem pr_115_16 : pj_find 16 pj_m115.2.2.2.2.2.2 = some (.ifCond .eq 19, 3) := by decide +kernel
theorem pr_115_19 : pj_find 19 pj_m115.2.2.2.2.2.2 = some (.iconst 1, 1) := by decide +kernel
theorem pr_115_20 : pj_find 20 pj_m115.2.2.2.2.2.2 = some (.iconst 4, 1) := by decide +kernel
theorem pr_115_21 : pj_find 21 pj_m115.2.2.2.2.2.2 = some (.iload_n 2, 1) := by decide +kernel
theorem pr_115_22 : pj_find 22 pj_m115.2.2.2.2.2.2 = some (.iconst 4, 1) := by decide +kernel
theorem pr_115_23 : pj_find 23 pj_m115.2.2.2.2.2.2 = some (.irem, 1) := by decide +kernel
theorem pr_115_24 : pj_find 24 pj_m115.2.2.2.2.2.2 = some (.imul, 1) := by decide +kernel
theorem pr_115_25 : pj_find 25 pj_m115.2.2.2.2.2.2 = some (.iconst 3, 1) := by decide +kernel
theorem pr_115_26 : pj_find 26 pj_m115.2.2.2.2.2.2 = some (.iadd, 1) := by decide +kernel
theorem pr_115_27 : pj_find 27 pj_m115.2.2.2.2.2.2 = some (.iload_n 2, 1) := by decide +kernel
theorem pr_115_28 : pj_find 28 pj_m115.2.2.2.2.2.2 = some (.iconst 4, 1) := by decide +kernel
theorem pr_115_29 : pj_find 29 pj_m115.2.2.2.2.2.2 = some (.idiv, 1) := by decide +kernel
theorem pr_115_30 : pj_find 30 pj_m115.2.2.2.2.2.2 = some (.isub, 1) := by decide +kernel
theorem pr_115_31 : pj_find 31 pj_m115.2.2.2.2.2.2 = some (.ishl, 1) := by decide +kernel
theorem pr_115_32 : pj_find 32 pj_m115.2.2.2.2.2.2 = some (.goto 4, 3) := by decide +kernel
theorem pr_115_35 : pj_find 35 pj_m115.2.2.2.2.2.2 = some (.iconst 0, 1) := by decide +kernel
theorem pr_115_36 : pj_find 36 pj_m115.2.2.2.2.2.2 = some (.ior, 1) := by decide +kernel
theorem pr_115_37 : pj_find 37 pj_m115.2.2.2.2.2.2 = some (.istore_n 1, 1) := by decide +kernel
theorem pr_115_38 : pj_find 38 pj_m115.2.2.2.2.2.2 = some (.iinc 2 1, 3) := by decide +kernel
theorem pr_115_41 : pj_find 41 pj_m115.2.2.2.2.2.2 = some (.goto (-37), 3) := by decide +kernel
theorem pr_115_44 : pj_find 44 pj_m115.2.2.2.2.2.2 = some (.iload_n 1, 1) := by decide +kernel
theorem pr_115_45 : pj_find 45 pj_m115.2.2.2.2.2.2 = some (.ireturn, 1) := by decide +kernel
theorem pr_116_0 : pj_find 0 pj_m116.2.2.2.2.2.2 = some (.iconst 0, 1) := by decide +kernel
theorem pr_116_1 : pj_find 1 pj_m116.2.2.2.2.2.2 = some (.istore_n 1, 1) := by decide +kernel
theorem pr_116_2 : pj_find 2 pj_m116.2.2.2.2.2.2 = some (.iconst 0, 1) := by decide +kernel
theorem pr_116_3 : pj_find 3 pj_m116.2.2.2.2.2.2 = some (.istore_n 2, 1) := by decide +kernel
theorem pr_116_4 : pj_find 4 pj_m116.2.2.2.2.2.2 = some (.iload_n 2, 1) := by decide +kernel
theorem pr_116_5 : pj_find 5 pj_m116.2.2.2.2.2.2 = some (.bipush 16, 2) := by decide +kernel
theorem pr_116_7 : pj_find 7 pj_m116.2.2.2.2.2.2 = some (.if_icmp .ge 37, 3) := by decide +kernel
theorem pr_116_10 : pj_find 10 pj_m116.2.2.2.2.2.2 = some (.iload_n 1, 1) := by decide +kernel
theorem pr_116_11 : pj_find 11 pj_m116.2.2.2.2.2.2 = some (.iload_n 0, 1) := by decide +kernel
theorem pr_116_12 : pj_find 12 pj_m116.2.2.2.2.2.2 = some (.iload_n 2, 1) := by decide +kernel
theorem pr_116_13 : pj_find 13 pj_m116.2.2.2.2.2.2 = some (.invokestatic 63, 3) := by decide +kernel
theorem pr_116_16 : pj_find 16 pj_m116.2.2.2.2.2.2 = some (.ifCond .eq 19, 3) := by decide +kernel
theorem pr_116_19 : pj_find 19 pj_m116.2.2.2.2.2.2 = some (.iconst 1, 1) := by decide +kernel
theorem pr_116_20 : pj_find 20 pj_m116.2.2.2.2.2.2 = some (.iload_n 2, 1) := by decide +kernel
theorem pr_116_21 : pj_find 21 pj_m116.2.2.2.2.2.2 = some (.iconst 4, 1) := by decide +kernel
theorem pr_116_22 : pj_find 22 pj_m116.2.2.2.2.2.2 = some (.idiv, 1) := by decide +kernel
theorem pr_116_23 : pj_find 23 pj_m116.2.2.2.2.2.2 = some (.iconst 4, 1) := by decide +kernel
theorem pr_116_24 : pj_find 24 pj_m116.2.2.2.2.2.2 = some (.imul, 1) := by decide +kernel
theorem pr_116_25 : pj_find 25 pj_m116.2.2.2.2.2.2 = some (.iconst 3, 1) := by decide +kernel
theorem pr_116_26 : pj_find 26 pj_m116.2.2.2.2.2.2 = some (.iadd, 1) := by decide +kernel
theorem pr_116_27 : pj_find 27 pj_m116.2.2.2.2.2.2 = some (.iload_n 2, 1) := by decide +kernel
theorem pr_116_28 : pj_find 28 pj_m116.2.2.2.2.2.2 = some (.iconst 4, 1) := by decide +kernel
theorem pr_116_29 : pj_find 29 pj_m116.2.2.2.2.2.2 = some (.irem, 1) := by decide +kernel
theorem pr_116_30 : pj_find 30 pj_m116.2.2.2.2.2.2 = some (.isub, 1) := by decide +kernel
theorem pr_116_31 : pj_find 31 pj_m116.2.2.2.2.2.2 = some (.ishl, 1) := by decide +kernel
theorem pr_116_32 : pj_find 32 pj_m116.2.2.2.2.2.2 = some (.goto 4, 3) := by decide +kernel
theorem pr_116_35 : pj_find 35 pj_m116.2.2.2.2.2.2 = some (.iconst 0, 1) := by decide +kernel
theorem pr_116_36 : pj_find 36 pj_m116.2.2.2.2.2.2 = some (.ior, 1) := by decide +kernel
theorem pr_116_37 : pj_find 37 pj_m116.2.2.2.2.2.2 = some (.istore_n 1, 1) := by decide +kernel
theorem pr_116_38 : pj_find 38 pj_m116.2.2.2.2.2.2 = some (.iinc 2 1, 3) := by decide +kernel
theorem pr_116_41 : pj_find 41 pj_m116.2.2.2.2.2.2 = some (.goto (-37), 3) := by decide +kernel
theorem pr_116_44 : pj_find 44 pj_m116.2.2.2.2.2.2 = some (.iload_n 1, 1) := by decide +kernel
theorem pr_116_45 : pj_find 45 pj_m116.2.2.2.2.2.2 = some (.ireturn, 1) := by decide +kernel
theorem pr_117_0 : pj_find 0 pj_m117.2.2.2.2.2.2 = some (.iload_n 0, 1) := by decide +kernel
theorem pr_117_1 : pj_find 1 pj_m117.2.2.2.2.2.2 = some (.istore_n 2, 1) := by decide +kernel
theorem pr_117_2 : pj_find 2 pj_m117.2.2.2.2.2.2 = some (.iconst 0, 1) := by decide +kernel
theorem pr_117_3 : pj_find 3 pj_m117.2.2.2.2.2.2 = some (.istore_n 3, 1) := by decide +kernel
theorem pr_117_4 : pj_find 4 pj_m117.2.2.2.2.2.2 = some (.iload_n 3, 1) := by decide +kernel
theorem pr_117_5 : pj_find 5 pj_m117.2.2.2.2.2.2 = some (.iload_n 1, 1) := by decide +kernel
theorem pr_117_6 : pj_find 6 pj_m117.2.2.2.2.2.2 = some (.if_icmp .ge 14, 3) := by decide +kernel
theorem pr_117_9 : pj_find 9 pj_m117.2.2.2.2.2.2 = some (.iload_n 2, 1) := by decide +kernel
theorem pr_117_10 : pj_find 10 pj_m117.2.2.2.2.2.2 = some (.invokestatic 67, 3) := by decide +kernel
theorem pr_117_13 : pj_find 13 pj_m117.2.2.2.2.2.2 = some (.istore_n 2, 1) := by decide +kernel
theorem pr_117_14 : pj_find 14 pj_m117.2.2.2.2.2.2 = some (.iinc 3 1, 3) := by decide +kernel
theorem pr_117_17 : pj_find 17 pj_m117.2.2.2.2.2.2 = some (.goto (-13), 3) := by decide +kernel
theorem pr_117_20 : pj_find 20 pj_m117.2.2.2.2.2.2 = some (.iload_n 2, 1) := by decide +kernel
theorem pr_117_21 : pj_find 21 pj_m117.2.2.2.2.2.2 = some (.ireturn, 1) := by decide +kernel
theorem pr_118_0 : pj_find 0 pj_m118.2.2.2.2.2.2 = some (.iload_n 1, 1) := by decide +kernel
theorem pr_118_1 : pj_find 1 pj_m118.2.2.2.2.2.2 = some (.invokestatic 47, 3) := by decide +kernel
theorem pr_118_4 : pj_find 4 pj_m118.2.2.2.2.2.2 = some (.ifCond .ne 5, 3) := by decide +kernel
theorem pr_118_7 : pj_find 7 pj_m118.2.2.2.2.2.2 = some (.iconst (-1), 1) := by decide +kernel
theorem pr_118_8 : pj_find 8 pj_m118.2.2.2.2.2.2 = some (.ireturn, 1) := by decide +kernel
theorem pr_118_9 : pj_find 9 pj_m118.2.2.2.2.2.2 = some (.iload_n 2, 1) := by decide +kernel
theorem pr_118_10 : pj_find 10 pj_m118.2.2.2.2.2.2 = some (.iconst 0, 1) := by decide +kernel
theorem pr_118_11 : pj_find 11 pj_m118.2.2.2.2.2.2 = some (.bipush 7, 2) := by decide +kernel
theorem pr_118_13 : pj_find 13 pj_m118.2.2.2.2.2.2 = some (.invokestatic 39, 3) := by decide +kernel
theorem pr_118_16 : pj_find 16 pj_m118.2.2.2.2.2.2 = some (.ifCond .ne 6, 3) := by decide +kernel
theorem pr_118_19 : pj_find 19 pj_m118.2.2.2.2.2.2 = some (.bipush (-2), 2) := by decide +kernel
theorem pr_118_21 : pj_find 21 pj_m118.2.2.2.2.2.2 = some (.ireturn, 1) := by decide +kernel
theorem pr_118_22 : pj_find 22 pj_m118.2.2.2.2.2.2 = some (.iload_n 2, 1) := by decide +kernel
theorem pr_118_23 : pj_find 23 pj_m118.2.2.2.2.2.2 = some (.iconst 3, 1) := by decide +kernel
theorem pr_118_24 : pj_find 24 pj_m118.2.2.2.2.2.2 = some (.if_icmp .le 18, 3) := by decide +kernel
theorem pr_118_27 : pj_find 27 pj_m118.2.2.2.2.2.2 = some (.aload_n 0, 1) := by decide +kernel
theorem pr_118_28 : pj_find 28 pj_m118.2.2.2.2.2.2 = some (.getfield 7, 3) := by decide +kernel
theorem pr_118_31 : pj_find 31 pj_m118.2.2.2.2.2.2 = some (.bipush 16, 2) := by decide +kernel
theorem pr_118_33 : pj_find 33 pj_m118.2.2.2.2.2.2 = some (.iload_n 1, 1) := by decide +kernel
theorem pr_118_34 : pj_find 34 pj_m118.2.2.2.2.2.2 = some (.iadd, 1) := by decide +kernel
theorem pr_118_35 : pj_find 35 pj_m118.2.2.2.2.2.2 = some (.iaload, 1) := by decide +kernel
theorem pr_118_36 : pj_find 36 pj_m118.2.2.2.2.2.2 = some (.invokestatic 71, 3) := by decide +kernel
theorem pr_118_39 : pj_find 39 pj_m118.2.2.2.2.2.2 = some (.goto 12, 3) := by decide +kernel
theorem pr_118_42 : pj_find 42 pj_m118.2.2.2.2.2.2 = some (.aload_n 0, 1) := by decide +kernel
theorem pr_118_43 : pj_find 43 pj_m118.2.2.2.2.2.2 = some (.getfield 7, 3) := by decide +kernel
theorem pr_118_46 : pj_find 46 pj_m118.2.2.2.2.2.2 = some (.bipush 16, 2) := by decide +kernel
theorem pr_118_48 : pj_find 48 pj_m118.2.2.2.2.2.2 = some (.iload_n 1, 1) := by decide +kernel
theorem pr_118_49 : pj_find 49 pj_m118.2.2.2.2.2.2 = some (.iadd, 1) := by decide +kernel
theorem pr_118_50 : pj_find 50 pj_m118.2.2.2.2.2.2 = some (.iaload, 1) := by decide +kernel
theorem pr_118_51 : pj_find 51 pj_m118.2.2.2.2.2.2 = some (.iload_n 2, 1) := by decide +kernel
theorem pr_118_52 : pj_find 52 pj_m118.2.2.2.2.2.2 = some (.iconst 4, 1) := by decide +kernel
theorem pr_118_53 : pj_find 53 pj_m118.2.2.2.2.2.2 = some (.irem, 1) := by decide +kernel
theorem pr_118_54 : pj_find 54 pj_m118.2.2.2.2.2.2 = some (.invokestatic 74, 3) := by decide +kernel
theorem pr_118_57 : pj_find 57 pj_m118.2.2.2.2.2.2 = some (.ireturn, 1) := by decide +kernel
theorem pr_119_0 : pj_find 0 pj_m119.2.2.2.2.2.2 = some (.iconst 0, 1) := by decide +kernel
theorem pr_119_1 : pj_find 1 pj_m119.2.2.2.2.2.2 = some (.istore_n 1, 1) := by decide +kernel
theorem pr_119_2 : pj_find 2 pj_m119.2.2.2.2.2.2 = some (.iload_n 1, 1) := by decide +kernel
theorem pr_119_3 : pj_find 3 pj_m119.2.2.2.2.2.2 = some (.bipush 32, 2) := by decide +kernel
theorem pr_119_5 : pj_find 5 pj_m119.2.2.2.2.2.2 = some (.if_icmp .ge 21, 3) := by decide +kernel
theorem pr_119_8 : pj_find 8 pj_m119.2.2.2.2.2.2 = some (.aload_n 0, 1) := by decide +kernel
theorem pr_119_9 : pj_find 9 pj_m119.2.2.2.2.2.2 = some (.getfield 13, 3) := by decide +kernel
theorem pr_119_12 : pj_find 12 pj_m119.2.2.2.2.2.2 = some (.iload_n 1, 1) := by decide +kernel
theorem pr_119_13 : pj_find 13 pj_m119.2.2.2.2.2.2 = some (.aload_n 0, 1) := by decide +kernel
theorem pr_119_14 : pj_find 14 pj_m119.2.2.2.2.2.2 = some (.getfield 7, 3) := by decide +kernel
theorem pr_119_17 : pj_find 17 pj_m119.2.2.2.2.2.2 = some (.iload_n 1, 1) := by decide +kernel
theorem pr_119_18 : pj_find 18 pj_m119.2.2.2.2.2.2 = some (.iaload, 1) := by decide +kernel
theorem pr_119_19 : pj_find 19 pj_m119.2.2.2.2.2.2 = some (.iastore, 1) := by decide +kernel
theorem pr_119_20 : pj_find 20 pj_m119.2.2.2.2.2.2 = some (.iinc 1 1, 3) := by decide +kernel
theorem pr_119_23 : pj_find 23 pj_m119.2.2.2.2.2.2 = some (.goto (-21), 3) := by decide +kernel
theorem pr_119_26 : pj_find 26 pj_m119.2.2.2.2.2.2 = some (.aload_n 0, 1) := by decide +kernel
theorem pr_119_27 : pj_find 27 pj_m119.2.2.2.2.2.2 = some (.iconst 0, 1) := by decide +kernel
theorem pr_119_28 : pj_find 28 pj_m119.2.2.2.2.2.2 = some (.putfield 77, 3) := by decide +kernel
theorem pr_119_31 : pj_find 31 pj_m119.2.2.2.2.2.2 = some (.aload_n 0, 1) := by decide +kernel
theorem pr_119_32 : pj_find 32 pj_m119.2.2.2.2.2.2 = some (.bipush (-6), 2) := by decide +kernel
theorem pr_119_34 : pj_find 34 pj_m119.2.2.2.2.2.2 = some (.putfield 80, 3) := by decide +kernel
theorem pr_119_37 : pj_find 37 pj_m119.2.2.2.2.2.2 = some (.aload_n 0, 1) := by decide +kernel
theorem pr_119_38 : pj_find 38 pj_m119.2.2.2.2.2.2 = some (.bipush (-6), 2) := by decide +kernel
theorem pr_119_40 : pj_find 40 pj_m119.2.2.2.2.2.2 = some (.putfield 83, 3) := by decide +kernel
theorem pr_119_43 : pj_find 43 pj_m119.2.2.2.2.2.2 = some (.return_, 1) := by decide +kernel
theorem pr_120_0 : pj_find 0 pj_m120.2.2.2.2.2.2 = some (.iconst 0, 1) := by decide +kernel
theorem pr_120_1 : pj_find 1 pj_m120.2.2.2.2.2.2 = some (.istore_n 2, 1) := by decide +kernel
theorem pr_120_2 : pj_find 2 pj_m120.2.2.2.2.2.2 = some (.iconst 0, 1) := by decide +kernel
theorem pr_120_3 : pj_find 3 pj_m120.2.2.2.2.2.2 = some (.istore_n 3, 1) := by decide +kernel
theorem pr_120_4 : pj_find 4 pj_m120.2.2.2.2.2.2 = some (.iload_n 3, 1) := by decide +kernel
theorem pr_120_5 : pj_find 5 pj_m120.2.2.2.2.2.2 = some (.bipush 16, 2) := by decide +kernel
theorem pr_120_7 : pj_find 7 pj_m120.2.2.2.2.2.2 = some (.if_icmp .ge 29, 3) := by decide +kernel
theorem pr_120_10 : pj_find 10 pj_m120.2.2.2.2.2.2 = some (.iload_n 2, 1) := by decide +kernel
theorem pr_120_11 : pj_find 11 pj_m120.2.2.2.2.2.2 = some (.aload_n 0, 1) := by decide +kernel
theorem pr_120_12 : pj_find 12 pj_m120.2.2.2.2.2.2 = some (.getfield 13, 3) := by decide +kernel
theorem pr_120_15 : pj_find 15 pj_m120.2.2.2.2.2.2 = some (.iload_n 3, 1) := by decide +kernel
theorem pr_120_16 : pj_find 16 pj_m120.2.2.2.2.2.2 = some (.iaload, 1) := by decide +kernel
theorem pr_120_17 : pj_find 17 pj_m120.2.2.2.2.2.2 = some (.iload_n 1, 1) := by decide +kernel
theorem pr_120_18 : pj_find 18 pj_m120.2.2.2.2.2.2 = some (.if_icmp .ne 9, 3) := by decide +kernel
theorem pr_120_21 : pj_find 21 pj_m120.2.2.2.2.2.2 = some (.iconst 1, 1) := by decide +kernel
theorem pr_120_22 : pj_find 22 pj_m120.2.2.2.2.2.2 = some (.iload_n 3, 1) := by decide +kernel
theorem pr_120_23 : pj_find 23 pj_m120.2.2.2.2.2.2 = some (.ishl, 1) := by decide +kernel
theorem pr_120_24 : pj_find 24 pj_m120.2.2.2.2.2.2 = some (.goto 4, 3) := by decide +kernel
theorem pr_120_27 : pj_find 27 pj_m120.2.2.2.2.2.2 = some (.iconst 0, 1) := by decide +kernel
theorem pr_120_28 : pj_find 28 pj_m120.2.2.2.2.2.2 = some (.ior, 1) := by decide +kernel
theorem pr_120_29 : pj_find 29 pj_m120.2.2.2.2.2.2 = some (.istore_n 2, 1) := by decide +kernel
theorem pr_120_30 : pj_find 30 pj_m120.2.2.2.2.2.2 = some (.iinc 3 1, 3) := by decide +kernel
theorem pr_120_33 : pj_find 33 pj_m120.2.2.2.2.2.2 = some (.goto (-29), 3) := by decide +kernel
theorem pr_120_36 : pj_find 36 pj_m120.2.2.2.2.2.2 = some (.iload_n 2, 1) := by decide +kernel
theorem pr_120_37 : pj_find 37 pj_m120.2.2.2.2.2.2 = some (.ireturn, 1) := by decide +kernel
theorem pr_121_0 : pj_find 0 pj_m121.2.2.2.2.2.2 = some (.aload_n 0, 1) := by decide +kernel
theorem pr_121_1 : pj_find 1 pj_m121.2.2.2.2.2.2 = some (.getfield 13, 3) := by decide +kernel
theorem pr_121_4 : pj_find 4 pj_m121.2.2.2.2.2.2 = some (.bipush 16, 2) := by decide +kernel
theorem pr_121_6 : pj_find 6 pj_m121.2.2.2.2.2.2 = some (.iload_n 1, 1) := by decide +kernel
theorem pr_121_7 : pj_find 7 pj_m121.2.2.2.2.2.2 = some (.iadd, 1) := by decide +kernel
theorem pr_121_8 : pj_find 8 pj_m121.2.2.2.2.2.2 = some (.iaload, 1) := by decide +kernel
theorem pr_121_9 : pj_find 9 pj_m121.2.2.2.2.2.2 = some (.iload_n 2, 1) := by decide +kernel
theorem pr_121_10 : pj_find 10 pj_m121.2.2.2.2.2.2 = some (.invokestatic 74, 3) := by decide +kernel
theorem pr_121_13 : pj_find 13 pj_m121.2.2.2.2.2.2 = some (.istore 4, 2) := by decide +kernel
theorem pr_121_15 : pj_find 15 pj_m121.2.2.2.2.2.2 = some (.iload 4, 2) := by decide +kernel
theorem pr_121_17 : pj_find 17 pj_m121.2.2.2.2.2.2 = some (.ifCond .ne 5, 3) := by decide +kernel
theorem pr_121_20 : pj_find 20 pj_m121.2.2.2.2.2.2 = some (.iconst 1, 1) := by decide +kernel
theorem pr_121_21 : pj_find 21 pj_m121.2.2.2.2.2.2 = some (.ireturn, 1) := by decide +kernel
theorem pr_121_22 : pj_find 22 pj_m121.2.2.2.2.2.2 = some (.aload_n 0, 1) := by decide +kernel
theorem pr_121_23 : pj_find 23 pj_m121.2.2.2.2.2.2 = some (.getfield 13, 3) := by decide +kernel
theorem pr_121_26 : pj_find 26 pj_m121.2.2.2.2.2.2 = some (.bipush 24, 2) := by decide +kernel
theorem pr_121_28 : pj_find 28 pj_m121.2.2.2.2.2.2 = some (.iload_n 3, 1) := by decide +kernel
theorem pr_121_29 : pj_find 29 pj_m121.2.2.2.2.2.2 = some (.iadd, 1) := by decide +kernel
theorem pr_121_30 : pj_find 30 pj_m121.2.2.2.2.2.2 = some (.iaload, 1) := by decide +kernel
theorem pr_121_31 : pj_find 31 pj_m121.2.2.2.2.2.2 = some (.iload 4, 2) := by decide +kernel
theorem pr_121_33 : pj_find 33 pj_m121.2.2.2.2.2.2 = some (.invokestatic 86, 3) := by decide +kernel
theorem pr_121_36 : pj_find 36 pj_m121.2.2.2.2.2.2 = some (.if_icmp .ge 5, 3) := by decide +kernel
theorem pr_121_39 : pj_find 39 pj_m121.2.2.2.2.2.2 = some (.iconst 2, 1) := by decide +kernel
theorem pr_121_40 : pj_find 40 pj_m121.2.2.2.2.2.2 = some (.ireturn, 1) := by decide +kernel
theorem pr_121_41 : pj_find 41 pj_m121.2.2.2.2.2.2 = some (.iconst 0, 1) := by decide +kernel
theorem pr_121_42 : pj_find 42 pj_m121.2.2.2.2.2.2 = some (.istore 5, 2) := by decide +kernel
theorem pr_121_44 : pj_find 44 pj_m121.2.2.2.2.2.2 = some (.iload 5, 2) := by decide +kernel
theorem pr_121_46 : pj_find 46 pj_m121.2.2.2.2.2.2 = some (.bipush 16, 2) := by decide +kernel
theorem pr_121_48 : pj_find 48 pj_m121.2.2.2.2.2.2 = some (.if_icmp .ge 58, 3) := by decide +kernel
theorem pr_121_51 : pj_find 51 pj_m121.2.2.2.2.2.2 = some (.iload 4, 2) := by decide +kernel
theorem pr_121_53 : pj_find 53 pj_m121.2.2.2.2.2.2 = some (.iload 5, 2) := by decide +kernel
theorem pr_121_55 : pj_find 55 pj_m121.2.2.2.2.2.2 = some (.invokestatic 63, 3) := by decide +kernel
theorem pr_121_58 : pj_find 58 pj_m121.2.2.2.2.2.2 = some (.ifCond .eq 42, 3) := by decide +kernel
theorem pr_121_61 : pj_find 61 pj_m121.2.2.2.2.2.2 = some (.aload_n 0, 1) := by decide +kernel
theorem pr_121_62 : pj_find 62 pj_m121.2.2.2.2.2.2 = some (.getfield 13, 3) := by decide +kernel
theorem pr_121_65 : pj_find 65 pj_m121.2.2.2.2.2.2 = some (.iload 5, 2) := by decide +kernel
theorem pr_121_67 : pj_find 67 pj_m121.2.2.2.2.2.2 = some (.aload_n 0, 1) := by decide +kernel
theorem pr_121_68 : pj_find 68 pj_m121.2.2.2.2.2.2 = some (.getfield 13, 3) := by decide +kernel
theorem pr_121_71 : pj_find 71 pj_m121.2.2.2.2.2.2 = some (.bipush 30, 2) := by decide +kernel
theorem pr_121_73 : pj_find 73 pj_m121.2.2.2.2.2.2 = some (.iaload, 1) := by decide +kernel
theorem pr_121_74 : pj_find 74 pj_m121.2.2.2.2.2.2 = some (.iload 5, 2) := by decide +kernel
theorem pr_121_76 : pj_find 76 pj_m121.2.2.2.2.2.2 = some (.invokestatic 63, 3) := by decide +kernel
theorem pr_121_79 : pj_find 79 pj_m121.2.2.2.2.2.2 = some (.ifCond .eq 19, 3) := by decide +kernel
theorem pr_121_82 : pj_find 82 pj_m121.2.2.2.2.2.2 = some (.aload_n 0, 1) := by decide +kernel
theorem pr_121_83 : pj_find 83 pj_m121.2.2.2.2.2.2 = some (.getfield 13, 3) := by decide +kernel
theorem pr_121_86 : pj_find 86 pj_m121.2.2.2.2.2.2 = some (.iload 5, 2) := by decide +kernel
theorem pr_121_88 : pj_find 88 pj_m121.2.2.2.2.2.2 = some (.iaload, 1) := by decide +kernel
theorem pr_121_89 : pj_find 89 pj_m121.2.2.2.2.2.2 = some (.iload_n 3, 1) := by decide +kernel
theorem pr_121_90 : pj_find 90 pj_m121.2.2.2.2.2.2 = some (.if_icmp .eq 8, 3) := by decide +kernel
theorem pr_121_93 : pj_find 93 pj_m121.2.2.2.2.2.2 = some (.bipush 6, 2) := by decide +kernel
theorem pr_121_95 : pj_find 95 pj_m121.2.2.2.2.2.2 = some (.goto 4, 3) := by decide +kernel
theorem pr_121_98 : pj_find 98 pj_m121.2.2.2.2.2.2 = some (.iload_n 3, 1) := by decide +kernel
theorem pr_121_99 : pj_find 99 pj_m121.2.2.2.2.2.2 = some (.iastore, 1) := by decide +kernel
theorem pr_121_100 : pj_find 100 pj_m121.2.2.2.2.2.2 = some (.iinc 5 1, 3) := by decide +kernel
theorem pr_121_103 : pj_find 103 pj_m121.2.2.2.2.2.2 = some (.goto (-59), 3) := by decide +kernel
theorem pr_121_106 : pj_find 106 pj_m121.2.2.2.2.2.2 = some (.aload_n 0, 1) := by decide +kernel
theorem pr_121_107 : pj_find 107 pj_m121.2.2.2.2.2.2 = some (.getfield 13, 3) := by decide +kernel
theorem pr_121_110 : pj_find 110 pj_m121.2.2.2.2.2.2 = some (.bipush 30, 2) := by decide +kernel
theorem pr_121_112 : pj_find 112 pj_m121.2.2.2.2.2.2 = some (.dup2, 1) := by decide +kernel
theorem pr_121_113 : pj_find 113 pj_m121.2.2.2.2.2.2 = some (.iaload, 1) := by decide +kernel
theorem pr_121_114 : pj_find 114 pj_m121.2.2.2.2.2.2 = some (.iload 4, 2) := by decide +kernel
theorem pr_121_116 : pj_find 116 pj_m121.2.2.2.2.2.2 = some (.ior, 1) := by decide +kernel
theorem pr_121_117 : pj_find 117 pj_m121.2.2.2.2.2.2 = some (.iastore, 1) := by decide +kernel
theorem pr_121_118 : pj_find 118 pj_m121.2.2.2.2.2.2 = some (.aload_n 0, 1) := by decide +kernel
theorem pr_121_119 : pj_find 119 pj_m121.2.2.2.2.2.2 = some (.getfield 13, 3) := by decide +kernel
theorem pr_121_122 : pj_find 122 pj_m121.2.2.2.2.2.2 = some (.bipush 24, 2) := by decide +kernel
theorem pr_121_124 : pj_find 124 pj_m121.2.2.2.2.2.2 = some (.iload_n 3, 1) := by decide +kernel
theorem pr_121_125 : pj_find 125 pj_m121.2.2.2.2.2.2 = some (.iadd, 1) := by decide +kernel
theorem pr_121_126 : pj_find 126 pj_m121.2.2.2.2.2.2 = some (.dup2, 1) := by decide +kernel
theorem pr_121_127 : pj_find 127 pj_m121.2.2.2.2.2.2 = some (.iaload, 1) := by decide +kernel
theorem pr_121_128 : pj_find 128 pj_m121.2.2.2.2.2.2 = some (.iload 4, 2) := by decide +kernel
theorem pr_121_130 : pj_find 130 pj_m121.2.2.2.2.2.2 = some (.invokestatic 86, 3) := by decide +kernel
theorem pr_121_133 : pj_find 133 pj_m121.2.2.2.2.2.2 = some (.isub, 1) := by decide +kernel
theorem pr_121_134 : pj_find 134 pj_m121.2.2.2.2.2.2 = some (.iastore, 1) := by decide +kernel
theorem pr_121_135 : pj_find 135 pj_m121.2.2.2.2.2.2 = some (.aload_n 0, 1) := by decide +kernel
theorem pr_121_136 : pj_find 136 pj_m121.2.2.2.2.2.2 = some (.dup, 1) := by decide +kernel
theorem pr_121_137 : pj_find 137 pj_m121.2.2.2.2.2.2 = some (.getfield 77, 3) := by decide +kernel
theorem pr_121_140 : pj_find 140 pj_m121.2.2.2.2.2.2 = some (.iload 4, 2) := by decide +kernel
theorem pr_121_142 : pj_find 142 pj_m121.2.2.2.2.2.2 = some (.invokestatic 86, 3) := by decide +kernel
theorem pr_121_145 : pj_find 145 pj_m121.2.2.2.2.2.2 = some (.iadd, 1) := by decide +kernel
theorem pr_121_146 : pj_find 146 pj_m121.2.2.2.2.2.2 = some (.putfield 77, 3) := by decide +kernel
theorem pr_121_149 : pj_find 149 pj_m121.2.2.2.2.2.2 = some (.iconst 0, 1) := by decide +kernel
theorem pr_121_150 : pj_find 150 pj_m121.2.2.2.2.2.2 = some (.ireturn, 1) := by decide +kernel
theorem pr_122_0 : pj_find 0 pj_m122.2.2.2.2.2.2 = some (.aload_n 0, 1) := by decide +kernel
theorem pr_122_1 : pj_find 1 pj_m122.2.2.2.2.2.2 = some (.getfield 13, 3) := by decide +kernel
theorem pr_122_4 : pj_find 4 pj_m122.2.2.2.2.2.2 = some (.bipush 16, 2) := by decide +kernel
theorem pr_122_6 : pj_find 6 pj_m122.2.2.2.2.2.2 = some (.iload_n 1, 1) := by decide +kernel
theorem pr_122_7 : pj_find 7 pj_m122.2.2.2.2.2.2 = some (.iadd, 1) := by decide +kernel
theorem pr_122_8 : pj_find 8 pj_m122.2.2.2.2.2.2 = some (.iaload, 1) := by decide +kernel
theorem pr_122_9 : pj_find 9 pj_m122.2.2.2.2.2.2 = some (.invokestatic 71, 3) := by decide +kernel
theorem pr_122_12 : pj_find 12 pj_m122.2.2.2.2.2.2 = some (.istore_n 2, 1) := by decide +kernel
theorem pr_122_13 : pj_find 13 pj_m122.2.2.2.2.2.2 = some (.iload_n 2, 1) := by decide +kernel
theorem pr_122_14 : pj_find 14 pj_m122.2.2.2.2.2.2 = some (.aload_n 0, 1) := by decide +kernel
theorem pr_122_15 : pj_find 15 pj_m122.2.2.2.2.2.2 = some (.getfield 13, 3) := by decide +kernel
theorem pr_122_18 : pj_find 18 pj_m122.2.2.2.2.2.2 = some (.bipush 16, 2) := by decide +kernel
theorem pr_122_20 : pj_find 20 pj_m122.2.2.2.2.2.2 = some (.iload_n 1, 1) := by decide +kernel
theorem pr_122_21 : pj_find 21 pj_m122.2.2.2.2.2.2 = some (.iadd, 1) := by decide +kernel
theorem pr_122_22 : pj_find 22 pj_m122.2.2.2.2.2.2 = some (.iaload, 1) := by decide +kernel
theorem pr_122_23 : pj_find 23 pj_m122.2.2.2.2.2.2 = some (.if_icmp .ne 5, 3) := by decide +kernel
theorem pr_122_26 : pj_find 26 pj_m122.2.2.2.2.2.2 = some (.iconst 3, 1) := by decide +kernel
theorem pr_122_27 : pj_find 27 pj_m122.2.2.2.2.2.2 = some (.ireturn, 1) := by decide +kernel
theorem pr_122_28 : pj_find 28 pj_m122.2.2.2.2.2.2 = some (.aload_n 0, 1) := by decide +kernel
theorem pr_122_29 : pj_find 29 pj_m122.2.2.2.2.2.2 = some (.getfield 13, 3) := by decide +kernel
theorem pr_122_32 : pj_find 32 pj_m122.2.2.2.2.2.2 = some (.bipush 16, 2) := by decide +kernel
theorem pr_122_34 : pj_find 34 pj_m122.2.2.2.2.2.2 = some (.iload_n 1, 1) := by decide +kernel
theorem pr_122_35 : pj_find 35 pj_m122.2.2.2.2.2.2 = some (.iadd, 1) := by decide +kernel
theorem pr_122_36 : pj_find 36 pj_m122.2.2.2.2.2.2 = some (.iload_n 2, 1) := by decide +kernel
theorem pr_122_37 : pj_find 37 pj_m122.2.2.2.2.2.2 = some (.iastore, 1) := by decide +kernel
theorem pr_122_38 : pj_find 38 pj_m122.2.2.2.2.2.2 = some (.iconst 0, 1) := by decide +kernel
theorem pr_122_39 : pj_find 39 pj_m122.2.2.2.2.2.2 = some (.ireturn, 1) := by decide +kernel
theorem pr_123_0 : pj_find 0 pj_m123.2.2.2.2.2.2 = some (.aload_n 0, 1) := by decide +kernel
theorem pr_123_1 : pj_find 1 pj_m123.2.2.2.2.2.2 = some (.getfield 13, 3) := by decide +kernel
theorem pr_123_4 : pj_find 4 pj_m123.2.2.2.2.2.2 = some (.iload_n 1, 1) := by decide +kernel
theorem pr_123_5 : pj_find 5 pj_m123.2.2.2.2.2.2 = some (.iaload, 1) := by decide +kernel
theorem pr_123_6 : pj_find 6 pj_m123.2.2.2.2.2.2 = some (.ifCond .ne 5, 3) := by decide +kernel
theorem pr_123_9 : pj_find 9 pj_m123.2.2.2.2.2.2 = some (.iconst 4, 1) := by decide +kernel
theorem pr_123_10 : pj_find 10 pj_m123.2.2.2.2.2.2 = some (.ireturn, 1) := by decide +kernel
theorem pr_123_11 : pj_find 11 pj_m123.2.2.2.2.2.2 = some (.aload_n 0, 1) := by decide +kernel
theorem pr_123_12 : pj_find 12 pj_m123.2.2.2.2.2.2 = some (.getfield 13, 3) := by decide +kernel
theorem pr_123_15 : pj_find 15 pj_m123.2.2.2.2.2.2 = some (.iload_n 1, 1) := by decide +kernel
theorem pr_123_16 : pj_find 16 pj_m123.2.2.2.2.2.2 = some (.iconst 0, 1) := by decide +kernel
theorem pr_123_17 : pj_find 17 pj_m123.2.2.2.2.2.2 = some (.iastore, 1) := by decide +kernel
theorem pr_123_18 : pj_find 18 pj_m123.2.2.2.2.2.2 = some (.aload_n 0, 1) := by decide +kernel
theorem pr_123_19 : pj_find 19 pj_m123.2.2.2.2.2.2 = some (.getfield 13, 3) := by decide +kernel
theorem pr_123_22 : pj_find 22 pj_m123.2.2.2.2.2.2 = some (.bipush 30, 2) := by decide +kernel
theorem pr_123_24 : pj_find 24 pj_m123.2.2.2.2.2.2 = some (.dup2, 1) := by decide +kernel
theorem pr_123_25 : pj_find 25 pj_m123.2.2.2.2.2.2 = some (.iaload, 1) := by decide +kernel
theorem pr_123_26 : pj_find 26 pj_m123.2.2.2.2.2.2 = some (.iconst 1, 1) := by decide +kernel
theorem pr_123_27 : pj_find 27 pj_m123.2.2.2.2.2.2 = some (.iload_n 1, 1) := by decide +kernel
theorem pr_123_28 : pj_find 28 pj_m123.2.2.2.2.2.2 = some (.ishl, 1) := by decide +kernel
theorem pr_123_29 : pj_find 29 pj_m123.2.2.2.2.2.2 = some (.iconst (-1), 1) := by decide +kernel
theorem pr_123_30 : pj_find 30 pj_m123.2.2.2.2.2.2 = some (.ixor, 1) := by decide +kernel
theorem pr_123_31 : pj_find 31 pj_m123.2.2.2.2.2.2 = some (.iand, 1) := by decide +kernel
theorem pr_123_32 : pj_find 32 pj_m123.2.2.2.2.2.2 = some (.iastore, 1) := by decide +kernel
theorem pr_123_33 : pj_find 33 pj_m123.2.2.2.2.2.2 = some (.iconst 0, 1) := by decide +kernel
theorem pr_123_34 : pj_find 34 pj_m123.2.2.2.2.2.2 = some (.ireturn, 1) := by decide +kernel
theorem pr_124_0 : pj_find 0 pj_m124.2.2.2.2.2.2 = some (.aload_n 0, 1) := by decide +kernel
theorem pr_124_1 : pj_find 1 pj_m124.2.2.2.2.2.2 = some (.getfield 13, 3) := by decide +kernel
theorem pr_124_4 : pj_find 4 pj_m124.2.2.2.2.2.2 = some (.bipush 31, 2) := by decide +kernel
theorem pr_124_6 : pj_find 6 pj_m124.2.2.2.2.2.2 = some (.iaload, 1) := by decide +kernel
theorem pr_124_7 : pj_find 7 pj_m124.2.2.2.2.2.2 = some (.bipush 99, 2) := by decide +kernel
theorem pr_124_9 : pj_find 9 pj_m124.2.2.2.2.2.2 = some (.if_icmp .ne 5, 3) := by decide +kernel
theorem pr_124_12 : pj_find 12 pj_m124.2.2.2.2.2.2 = some (.iconst 5, 1) := by decide +kernel
theorem pr_124_13 : pj_find 13 pj_m124.2.2.2.2.2.2 = some (.ireturn, 1) := by decide +kernel
theorem pr_124_14 : pj_find 14 pj_m124.2.2.2.2.2.2 = some (.aload_n 0, 1) := by decide +kernel
theorem pr_124_15 : pj_find 15 pj_m124.2.2.2.2.2.2 = some (.getfield 13, 3) := by decide +kernel
theorem pr_124_18 : pj_find 18 pj_m124.2.2.2.2.2.2 = some (.bipush 31, 2) := by decide +kernel
theorem pr_124_20 : pj_find 20 pj_m124.2.2.2.2.2.2 = some (.dup2, 1) := by decide +kernel
theorem pr_124_21 : pj_find 21 pj_m124.2.2.2.2.2.2 = some (.iaload, 1) := by decide +kernel
theorem pr_124_22 : pj_find 22 pj_m124.2.2.2.2.2.2 = some (.iconst 1, 1) := by decide +kernel
theorem pr_124_23 : pj_find 23 pj_m124.2.2.2.2.2.2 = some (.iadd, 1) := by decide +kernel
theorem pr_124_24 : pj_find 24 pj_m124.2.2.2.2.2.2 = some (.iastore, 1) := by decide +kernel
theorem pr_124_25 : pj_find 25 pj_m124.2.2.2.2.2.2 = some (.aload_n 0, 1) := by decide +kernel
theorem pr_124_26 : pj_find 26 pj_m124.2.2.2.2.2.2 = some (.getfield 13, 3) := by decide +kernel
theorem pr_124_29 : pj_find 29 pj_m124.2.2.2.2.2.2 = some (.bipush 30, 2) := by decide +kernel
theorem pr_124_31 : pj_find 31 pj_m124.2.2.2.2.2.2 = some (.iconst 0, 1) := by decide +kernel
theorem pr_124_32 : pj_find 32 pj_m124.2.2.2.2.2.2 = some (.iastore, 1) := by decide +kernel
theorem pr_124_33 : pj_find 33 pj_m124.2.2.2.2.2.2 = some (.iconst 0, 1) := by decide +kernel
theorem pr_124_34 : pj_find 34 pj_m124.2.2.2.2.2.2 = some (.ireturn, 1) := by decide +kernel
theorem pr_125_0 : pj_find 0 pj_m125.2.2.2.2.2.2 = some (.aload_n 0, 1) := by decide +kernel
theorem pr_125_1 : pj_find 1 pj_m125.2.2.2.2.2.2 = some (.getfield 19, 3) := by decide +kernel
theorem pr_125_4 : pj_find 4 pj_m125.2.2.2.2.2.2 = some (.iload_n 1, 1) := by decide +kernel
theorem pr_125_5 : pj_find 5 pj_m125.2.2.2.2.2.2 = some (.iaload, 1) := by decide +kernel
theorem pr_125_6 : pj_find 6 pj_m125.2.2.2.2.2.2 = some (.istore_n 2, 1) := by decide +kernel
theorem pr_125_7 : pj_find 7 pj_m125.2.2.2.2.2.2 = some (.iload_n 2, 1) := by decide +kernel
theorem pr_125_8 : pj_find 8 pj_m125.2.2.2.2.2.2 = some (.bipush 97, 2) := by decide +kernel
theorem pr_125_10 : pj_find 10 pj_m125.2.2.2.2.2.2 = some (.bipush 112, 2) := by decide +kernel
theorem pr_125_12 : pj_find 12 pj_m125.2.2.2.2.2.2 = some (.invokestatic 39, 3) := by decide +kernel
theorem pr_125_15 : pj_find 15 pj_m125.2.2.2.2.2.2 = some (.ifCond .eq 12, 3) := by decide +kernel
theorem pr_125_18 : pj_find 18 pj_m125.2.2.2.2.2.2 = some (.aload_n 0, 1) := by decide +kernel
theorem pr_125_19 : pj_find 19 pj_m125.2.2.2.2.2.2 = some (.iload_n 2, 1) := by decide +kernel
theorem pr_125_20 : pj_find 20 pj_m125.2.2.2.2.2.2 = some (.bipush 97, 2) := by decide +kernel
theorem pr_125_22 : pj_find 22 pj_m125.2.2.2.2.2.2 = some (.isub, 1) := by decide +kernel
theorem pr_125_23 : pj_find 23 pj_m125.2.2.2.2.2.2 = some (.invokevirtual 89, 3) := by decide +kernel
theorem pr_125_26 : pj_find 26 pj_m125.2.2.2.2.2.2 = some (.ireturn, 1) := by decide +kernel
theorem pr_125_27 : pj_find 27 pj_m125.2.2.2.2.2.2 = some (.aload_n 0, 1) := by decide +kernel
theorem pr_125_28 : pj_find 28 pj_m125.2.2.2.2.2.2 = some (.getfield 19, 3) := by decide +kernel
theorem pr_125_31 : pj_find 31 pj_m125.2.2.2.2.2.2 = some (.iload_n 1, 1) := by decide +kernel
theorem pr_125_32 : pj_find 32 pj_m125.2.2.2.2.2.2 = some (.iconst 1, 1) := by decide +kernel
theorem pr_125_33 : pj_find 33 pj_m125.2.2.2.2.2.2 = some (.iadd, 1) := by decide +kernel
theorem pr_125_34 : pj_find 34 pj_m125.2.2.2.2.2.2 = some (.iaload, 1) := by decide +kernel
theorem pr_125_35 : pj_find 35 pj_m125.2.2.2.2.2.2 = some (.bipush 126, 2) := by decide +kernel
theorem pr_125_37 : pj_find 37 pj_m125.2.2.2.2.2.2 = some (.if_icmp .ne 14, 3) := by decide +kernel
theorem pr_125_40 : pj_find 40 pj_m125.2.2.2.2.2.2 = some (.aload_n 0, 1) := by decide +kernel
theorem pr_125_41 : pj_find 41 pj_m125.2.2.2.2.2.2 = some (.iload_n 2, 1) := by decide +kernel
theorem pr_125_42 : pj_find 42 pj_m125.2.2.2.2.2.2 = some (.bipush 65, 2) := by decide +kernel
theorem pr_125_44 : pj_find 44 pj_m125.2.2.2.2.2.2 = some (.isub, 1) := by decide +kernel
theorem pr_125_45 : pj_find 45 pj_m125.2.2.2.2.2.2 = some (.invokevirtual 92, 3) := by decide +kernel
theorem pr_125_48 : pj_find 48 pj_m125.2.2.2.2.2.2 = some (.goto 33, 3) := by decide +kernel
theorem pr_125_51 : pj_find 51 pj_m125.2.2.2.2.2.2 = some (.aload_n 0, 1) := by decide +kernel
theorem pr_125_52 : pj_find 52 pj_m125.2.2.2.2.2.2 = some (.iload_n 2, 1) := by decide +kernel
theorem pr_125_53 : pj_find 53 pj_m125.2.2.2.2.2.2 = some (.bipush 65, 2) := by decide +kernel
theorem pr_125_55 : pj_find 55 pj_m125.2.2.2.2.2.2 = some (.isub, 1) := by decide +kernel
theorem pr_125_56 : pj_find 56 pj_m125.2.2.2.2.2.2 = some (.aload_n 0, 1) := by decide +kernel
theorem pr_125_57 : pj_find 57 pj_m125.2.2.2.2.2.2 = some (.getfield 19, 3) := by decide +kernel
theorem pr_125_60 : pj_find 60 pj_m125.2.2.2.2.2.2 = some (.iload_n 1, 1) := by decide +kernel
theorem pr_125_61 : pj_find 61 pj_m125.2.2.2.2.2.2 = some (.iconst 1, 1) := by decide +kernel
theorem pr_125_62 : pj_find 62 pj_m125.2.2.2.2.2.2 = some (.iadd, 1) := by decide +kernel
theorem pr_125_63 : pj_find 63 pj_m125.2.2.2.2.2.2 = some (.iaload, 1) := by decide +kernel
theorem pr_125_64 : pj_find 64 pj_m125.2.2.2.2.2.2 = some (.bipush 48, 2) := by decide +kernel
theorem pr_125_66 : pj_find 66 pj_m125.2.2.2.2.2.2 = some (.isub, 1) := by decide +kernel
theorem pr_125_67 : pj_find 67 pj_m125.2.2.2.2.2.2 = some (.aload_n 0, 1) := by decide +kernel
theorem pr_125_68 : pj_find 68 pj_m125.2.2.2.2.2.2 = some (.getfield 19, 3) := by decide +kernel
theorem pr_125_71 : pj_find 71 pj_m125.2.2.2.2.2.2 = some (.iload_n 1, 1) := by decide +kernel
theorem pr_125_72 : pj_find 72 pj_m125.2.2.2.2.2.2 = some (.iconst 2, 1) := by decide +kernel
theorem pr_125_73 : pj_find 73 pj_m125.2.2.2.2.2.2 = some (.iadd, 1) := by decide +kernel
theorem pr_125_74 : pj_find 74 pj_m125.2.2.2.2.2.2 = some (.iaload, 1) := by decide +kernel
theorem pr_125_75 : pj_find 75 pj_m125.2.2.2.2.2.2 = some (.bipush 48, 2) := by decide +kernel
theorem pr_125_77 : pj_find 77 pj_m125.2.2.2.2.2.2 = some (.isub, 1) := by decide +kernel
theorem pr_125_78 : pj_find 78 pj_m125.2.2.2.2.2.2 = some (.invokevirtual 95, 3) := by decide +kernel
theorem pr_125_81 : pj_find 81 pj_m125.2.2.2.2.2.2 = some (.ireturn, 1) := by decide +kernel
theorem pr_126_0 : pj_find 0 pj_m126.2.2.2.2.2.2 = some (.aload_n 0, 1) := by decide +kernel
theorem pr_126_1 : pj_find 1 pj_m126.2.2.2.2.2.2 = some (.invokevirtual 99, 3) := by decide +kernel
theorem pr_126_4 : pj_find 4 pj_m126.2.2.2.2.2.2 = some (.aload_n 0, 1) := by decide +kernel
theorem pr_126_5 : pj_find 5 pj_m126.2.2.2.2.2.2 = some (.iconst 0, 1) := by decide +kernel
theorem pr_126_6 : pj_find 6 pj_m126.2.2.2.2.2.2 = some (.putfield 102, 3) := by decide +kernel
theorem pr_126_9 : pj_find 9 pj_m126.2.2.2.2.2.2 = some (.iconst 0, 1) := by decide +kernel
theorem pr_126_10 : pj_find 10 pj_m126.2.2.2.2.2.2 = some (.istore_n 1, 1) := by decide +kernel
theorem pr_126_11 : pj_find 11 pj_m126.2.2.2.2.2.2 = some (.iload_n 1, 1) := by decide +kernel
theorem pr_126_12 : pj_find 12 pj_m126.2.2.2.2.2.2 = some (.aload_n 0, 1) := by decide +kernel
theorem pr_126_13 : pj_find 13 pj_m126.2.2.2.2.2.2 = some (.getfield 51, 3) := by decide +kernel
theorem pr_126_16 : pj_find 16 pj_m126.2.2.2.2.2.2 = some (.if_icmp .ge 173, 3) := by decide +kernel
theorem pr_126_19 : pj_find 19 pj_m126.2.2.2.2.2.2 = some (.aload_n 0, 1) := by decide +kernel
theorem pr_126_20 : pj_find 20 pj_m126.2.2.2.2.2.2 = some (.bipush 6, 2) := by decide +kernel
theorem pr_126_22 : pj_find 22 pj_m126.2.2.2.2.2.2 = some (.invokevirtual 105, 3) := by decide +kernel
theorem pr_126_25 : pj_find 25 pj_m126.2.2.2.2.2.2 = some (.istore_n 2, 1) := by decide +kernel
theorem pr_126_26 : pj_find 26 pj_m126.2.2.2.2.2.2 = some (.aload_n 0, 1) := by decide +kernel
theorem pr_126_27 : pj_find 27 pj_m126.2.2.2.2.2.2 = some (.getfield 19, 3) := by decide +kernel
theorem pr_126_30 : pj_find 30 pj_m126.2.2.2.2.2.2 = some (.iload_n 1, 1) := by decide +kernel
theorem pr_126_31 : pj_find 31 pj_m126.2.2.2.2.2.2 = some (.iaload, 1) := by decide +kernel
theorem pr_126_32 : pj_find 32 pj_m126.2.2.2.2.2.2 = some (.bipush 46, 2) := by decide +kernel
theorem pr_126_34 : pj_find 34 pj_m126.2.2.2.2.2.2 = some (.if_icmp .ne 7, 3) := by decide +kernel
theorem pr_126_37 : pj_find 37 pj_m126.2.2.2.2.2.2 = some (.iconst 1, 1) := by decide +kernel
theorem pr_126_38 : pj_find 38 pj_m126.2.2.2.2.2.2 = some (.goto 4, 3) := by decide +kernel
theorem pr_126_41 : pj_find 41 pj_m126.2.2.2.2.2.2 = some (.iconst 0, 1) := by decide +kernel
theorem pr_126_42 : pj_find 42 pj_m126.2.2.2.2.2.2 = some (.istore_n 3, 1) := by decide +kernel
theorem pr_126_43 : pj_find 43 pj_m126.2.2.2.2.2.2 = some (.aload_n 0, 1) := by decide +kernel
theorem pr_126_44 : pj_find 44 pj_m126.2.2.2.2.2.2 = some (.iload_n 3, 1) := by decide +kernel
theorem pr_126_45 : pj_find 45 pj_m126.2.2.2.2.2.2 = some (.ifCond .eq 10, 3) := by decide +kernel
theorem pr_126_48 : pj_find 48 pj_m126.2.2.2.2.2.2 = some (.aload_n 0, 1) := by decide +kernel
theorem pr_126_49 : pj_find 49 pj_m126.2.2.2.2.2.2 = some (.invokevirtual 108, 3) := by decide +kernel
theorem pr_126_52 : pj_find 52 pj_m126.2.2.2.2.2.2 = some (.goto 8, 3) := by decide +kernel
theorem pr_126_55 : pj_find 55 pj_m126.2.2.2.2.2.2 = some (.aload_n 0, 1) := by decide +kernel
theorem pr_126_56 : pj_find 56 pj_m126.2.2.2.2.2.2 = some (.iload_n 1, 1) := by decide +kernel
theorem pr_126_57 : pj_find 57 pj_m126.2.2.2.2.2.2 = some (.invokevirtual 111, 3) := by decide +kernel
theorem pr_126_60 : pj_find 60 pj_m126.2.2.2.2.2.2 = some (.putfield 114, 3) := by decide +kernel
theorem pr_126_63 : pj_find 63 pj_m126.2.2.2.2.2.2 = some (.iload_n 1, 1) := by decide +kernel
theorem pr_126_64 : pj_find 64 pj_m126.2.2.2.2.2.2 = some (.iload_n 3, 1) := by decide +kernel
theorem pr_126_65 : pj_find 65 pj_m126.2.2.2.2.2.2 = some (.ifCond .eq 7, 3) := by decide +kernel
theorem pr_126_68 : pj_find 68 pj_m126.2.2.2.2.2.2 = some (.iconst 1, 1) := by decide +kernel
theorem pr_126_69 : pj_find 69 pj_m126.2.2.2.2.2.2 = some (.goto 34, 3) := by decide +kernel
theorem pr_126_72 : pj_find 72 pj_m126.2.2.2.2.2.2 = some (.aload_n 0, 1) := by decide +kernel
theorem pr_126_73 : pj_find 73 pj_m126.2.2.2.2.2.2 = some (.getfield 19, 3) := by decide +kernel
theorem pr_126_76 : pj_find 76 pj_m126.2.2.2.2.2.2 = some (.iload_n 1, 1) := by decide +kernel
theorem pr_126_77 : pj_find 77 pj_m126.2.2.2.2.2.2 = some (.iconst 1, 1) := by decide +kernel
theorem pr_126_78 : pj_find 78 pj_m126.2.2.2.2.2.2 = some (.iadd, 1) := by decide +kernel
theorem pr_126_79 : pj_find 79 pj_m126.2.2.2.2.2.2 = some (.iaload, 1) := by decide +kernel
theorem pr_126_80 : pj_find 80 pj_m126.2.2.2.2.2.2 = some (.bipush 126, 2) := by decide +kernel
theorem pr_126_82 : pj_find 82 pj_m126.2.2.2.2.2.2 = some (.if_icmp .eq 16, 3) := by decide +kernel
theorem pr_126_85 : pj_find 85 pj_m126.2.2.2.2.2.2 = some (.aload_n 0, 1) := by decide +kernel
theorem pr_126_86 : pj_find 86 pj_m126.2.2.2.2.2.2 = some (.getfield 19, 3) := by decide +kernel
theorem pr_126_89 : pj_find 89 pj_m126.2.2.2.2.2.2 = some (.iload_n 1, 1) := by decide +kernel
theorem pr_126_90 : pj_find 90 pj_m126.2.2.2.2.2.2 = some (.iconst 1, 1) := by decide +kernel
theorem pr_126_91 : pj_find 91 pj_m126.2.2.2.2.2.2 = some (.iadd, 1) := by decide +kernel
theorem pr_126_92 : pj_find 92 pj_m126.2.2.2.2.2.2 = some (.iaload, 1) := by decide +kernel
theorem pr_126_93 : pj_find 93 pj_m126.2.2.2.2.2.2 = some (.bipush 45, 2) := by decide +kernel
theorem pr_126_95 : pj_find 95 pj_m126.2.2.2.2.2.2 = some (.if_icmp .ne 7, 3) := by decide +kernel
theorem pr_126_98 : pj_find 98 pj_m126.2.2.2.2.2.2 = some (.iconst 2, 1) := by decide +kernel
theorem pr_126_99 : pj_find 99 pj_m126.2.2.2.2.2.2 = some (.goto 4, 3) := by decide +kernel
theorem pr_126_102 : pj_find 102 pj_m126.2.2.2.2.2.2 = some (.iconst 3, 1) := by decide +kernel
theorem pr_126_103 : pj_find 103 pj_m126.2.2.2.2.2.2 = some (.iadd, 1) := by decide +kernel
theorem pr_126_104 : pj_find 104 pj_m126.2.2.2.2.2.2 = some (.istore_n 1, 1) := by decide +kernel
theorem pr_126_105 : pj_find 105 pj_m126.2.2.2.2.2.2 = some (.aload_n 0, 1) := by decide +kernel
theorem pr_126_106 : pj_find 106 pj_m126.2.2.2.2.2.2 = some (.getfield 114, 3) := by decide +kernel
theorem pr_126_109 : pj_find 109 pj_m126.2.2.2.2.2.2 = some (.ifCond .le 8, 3) := by decide +kernel
theorem pr_126_112 : pj_find 112 pj_m126.2.2.2.2.2.2 = some (.aload_n 0, 1) := by decide +kernel
theorem pr_126_113 : pj_find 113 pj_m126.2.2.2.2.2.2 = some (.getfield 102, 3) := by decide +kernel
theorem pr_126_116 : pj_find 116 pj_m126.2.2.2.2.2.2 = some (.ireturn, 1) := by decide +kernel
theorem pr_126_117 : pj_find 117 pj_m126.2.2.2.2.2.2 = some (.aload_n 0, 1) := by decide +kernel
theorem pr_126_118 : pj_find 118 pj_m126.2.2.2.2.2.2 = some (.bipush 6, 2) := by decide +kernel
theorem pr_126_120 : pj_find 120 pj_m126.2.2.2.2.2.2 = some (.invokevirtual 105, 3) := by decide +kernel
theorem pr_126_123 : pj_find 123 pj_m126.2.2.2.2.2.2 = some (.iload_n 2, 1) := by decide +kernel
theorem pr_126_124 : pj_find 124 pj_m126.2.2.2.2.2.2 = some (.iconst (-1), 1) := by decide +kernel
theorem pr_126_125 : pj_find 125 pj_m126.2.2.2.2.2.2 = some (.ixor, 1) := by decide +kernel
theorem pr_126_126 : pj_find 126 pj_m126.2.2.2.2.2.2 = some (.iand, 1) := by decide +kernel
theorem pr_126_127 : pj_find 127 pj_m126.2.2.2.2.2.2 = some (.istore 4, 2) := by decide +kernel
theorem pr_126_129 : pj_find 129 pj_m126.2.2.2.2.2.2 = some (.iconst 0, 1) := by decide +kernel
theorem pr_126_130 : pj_find 130 pj_m126.2.2.2.2.2.2 = some (.istore 5, 2) := by decide +kernel
theorem pr_126_132 : pj_find 132 pj_m126.2.2.2.2.2.2 = some (.iload 5, 2) := by decide +kernel
theorem pr_126_134 : pj_find 134 pj_m126.2.2.2.2.2.2 = some (.bipush 16, 2) := by decide +kernel
theorem pr_126_136 : pj_find 136 pj_m126.2.2.2.2.2.2 = some (.if_icmp .ge 40, 3) := by decide +kernel
theorem pr_126_139 : pj_find 139 pj_m126.2.2.2.2.2.2 = some (.aload_n 0, 1) := by decide +kernel
theorem pr_126_140 : pj_find 140 pj_m126.2.2.2.2.2.2 = some (.getfield 80, 3) := by decide +kernel
theorem pr_126_143 : pj_find 143 pj_m126.2.2.2.2.2.2 = some (.ifCond .ge 33, 3) := by decide +kernel
theorem pr_126_146 : pj_find 146 pj_m126.2.2.2.2.2.2 = some (.iload 4, 2) := by decide +kernel
theorem pr_126_148 : pj_find 148 pj_m126.2.2.2.2.2.2 = some (.iload 5, 2) := by decide +kernel
theorem pr_126_150 : pj_find 150 pj_m126.2.2.2.2.2.2 = some (.invokestatic 63, 3) := by decide +kernel
theorem pr_126_153 : pj_find 153 pj_m126.2.2.2.2.2.2 = some (.ifCond .eq 17, 3) := by decide +kernel
theorem pr_126_156 : pj_find 156 pj_m126.2.2.2.2.2.2 = some (.aload_n 0, 1) := by decide +kernel
theorem pr_126_157 : pj_find 157 pj_m126.2.2.2.2.2.2 = some (.aload_n 0, 1) := by decide +kernel
theorem pr_126_158 : pj_find 158 pj_m126.2.2.2.2.2.2 = some (.getfield 102, 3) := by decide +kernel
theorem pr_126_161 : pj_find 161 pj_m126.2.2.2.2.2.2 = some (.putfield 80, 3) := by decide +kernel
theorem pr_126_164 : pj_find 164 pj_m126.2.2.2.2.2.2 = some (.aload_n 0, 1) := by decide +kernel
theorem pr_126_165 : pj_find 165 pj_m126.2.2.2.2.2.2 = some (.iload 5, 2) := by decide +kernel
theorem pr_126_167 : pj_find 167 pj_m126.2.2.2.2.2.2 = some (.putfield 83, 3) := by decide +kernel
theorem pr_126_170 : pj_find 170 pj_m126.2.2.2.2.2.2 = some (.iinc 5 1, 3) := by decide +kernel
theorem pr_126_173 : pj_find 173 pj_m126.2.2.2.2.2.2 = some (.goto (-41), 3) := by decide +kernel
theorem pr_126_176 : pj_find 176 pj_m126.2.2.2.2.2.2 = some (.aload_n 0, 1) := by decide +kernel
theorem pr_126_177 : pj_find 177 pj_m126.2.2.2.2.2.2 = some (.dup, 1) := by decide +kernel
theorem pr_126_178 : pj_find 178 pj_m126.2.2.2.2.2.2 = some (.getfield 102, 3) := by decide +kernel
theorem pr_126_181 : pj_find 181 pj_m126.2.2.2.2.2.2 = some (.iconst 1, 1) := by decide +kernel
theorem pr_126_182 : pj_find 182 pj_m126.2.2.2.2.2.2 = some (.iadd, 1) := by decide +kernel
theorem pr_126_183 : pj_find 183 pj_m126.2.2.2.2.2.2 = some (.putfield 102, 3) := by decide +kernel
theorem pr_126_186 : pj_find 186 pj_m126.2.2.2.2.2.2 = some (.goto (-175), 3) := by decide +kernel
theorem pr_126_189 : pj_find 189 pj_m126.2.2.2.2.2.2 = some (.bipush (-6), 2) := by decide +kernel
theorem pr_126_191 : pj_find 191 pj_m126.2.2.2.2.2.2 = some (.ireturn, 1) := by decide +kernel
theorem pr_127_0 : pj_find 0 pj_m127.2.2.2.2.2.2 = some (.iload_n 1, 1) := by decide +kernel
theorem pr_127_1 : pj_find 1 pj_m127.2.2.2.2.2.2 = some (.iconst 0, 1) := by decide +kernel
theorem pr_127_2 : pj_find 2 pj_m127.2.2.2.2.2.2 = some (.iconst 1, 1) := by decide +kernel
theorem pr_127_3 : pj_find 3 pj_m127.2.2.2.2.2.2 = some (.invokestatic 39, 3) := by decide +kernel
theorem pr_127_6 : pj_find 6 pj_m127.2.2.2.2.2.2 = some (.ifCond .ne 6, 3) := by decide +kernel
theorem pr_127_9 : pj_find 9 pj_m127.2.2.2.2.2.2 = some (.bipush (-2), 2) := by decide +kernel
theorem pr_127_11 : pj_find 11 pj_m127.2.2.2.2.2.2 = some (.ireturn, 1) := by decide +kernel
theorem pr_127_12 : pj_find 12 pj_m127.2.2.2.2.2.2 = some (.aload_n 0, 1) := by decide +kernel
theorem pr_127_13 : pj_find 13 pj_m127.2.2.2.2.2.2 = some (.invokevirtual 59, 3) := by decide +kernel
theorem pr_127_16 : pj_find 16 pj_m127.2.2.2.2.2.2 = some (.ifCond .lt 6, 3) := by decide +kernel
theorem pr_127_19 : pj_find 19 pj_m127.2.2.2.2.2.2 = some (.bipush (-5), 2) := by decide +kernel
theorem pr_127_21 : pj_find 21 pj_m127.2.2.2.2.2.2 = some (.ireturn, 1) := by decide +kernel
theorem pr_127_22 : pj_find 22 pj_m127.2.2.2.2.2.2 = some (.aload_n 0, 1) := by decide +kernel
theorem pr_127_23 : pj_find 23 pj_m127.2.2.2.2.2.2 = some (.invokevirtual 117, 3) := by decide +kernel
theorem pr_127_26 : pj_find 26 pj_m127.2.2.2.2.2.2 = some (.istore_n 2, 1) := by decide +kernel
theorem pr_127_27 : pj_find 27 pj_m127.2.2.2.2.2.2 = some (.iload_n 2, 1) := by decide +kernel
theorem pr_127_28 : pj_find 28 pj_m127.2.2.2.2.2.2 = some (.ifCond .lt 7, 3) := by decide +kernel
theorem pr_127_31 : pj_find 31 pj_m127.2.2.2.2.2.2 = some (.iload_n 1, 1) := by decide +kernel
theorem pr_127_32 : pj_find 32 pj_m127.2.2.2.2.2.2 = some (.ifCond .ne 7, 3) := by decide +kernel
theorem pr_127_35 : pj_find 35 pj_m127.2.2.2.2.2.2 = some (.iload_n 2, 1) := by decide +kernel
theorem pr_127_36 : pj_find 36 pj_m127.2.2.2.2.2.2 = some (.goto 7, 3) := by decide +kernel
theorem pr_127_39 : pj_find 39 pj_m127.2.2.2.2.2.2 = some (.aload_n 0, 1) := by decide +kernel
theorem pr_127_40 : pj_find 40 pj_m127.2.2.2.2.2.2 = some (.getfield 114, 3) := by decide +kernel
theorem pr_127_43 : pj_find 43 pj_m127.2.2.2.2.2.2 = some (.ireturn, 1) := by decide +kernel
theorem pr_128_0 : pj_find 0 pj_m128.2.2.2.2.2.2 = some (.aload_n 0, 1) := by decide +kernel
theorem pr_128_1 : pj_find 1 pj_m128.2.2.2.2.2.2 = some (.invokevirtual 59, 3) := by decide +kernel
theorem pr_128_4 : pj_find 4 pj_m128.2.2.2.2.2.2 = some (.ifCond .ge 10, 3) := by decide +kernel
theorem pr_128_7 : pj_find 7 pj_m128.2.2.2.2.2.2 = some (.aload_n 0, 1) := by decide +kernel
theorem pr_128_8 : pj_find 8 pj_m128.2.2.2.2.2.2 = some (.invokevirtual 117, 3) := by decide +kernel
theorem pr_128_11 : pj_find 11 pj_m128.2.2.2.2.2.2 = some (.ifCond .lt 8, 3) := by decide +kernel
theorem pr_128_14 : pj_find 14 pj_m128.2.2.2.2.2.2 = some (.bipush (-5), 2) := by decide +kernel
theorem pr_128_16 : pj_find 16 pj_m128.2.2.2.2.2.2 = some (.goto 4, 3) := by decide +kernel
theorem pr_128_19 : pj_find 19 pj_m128.2.2.2.2.2.2 = some (.iconst 0, 1) := by decide +kernel
theorem pr_128_20 : pj_find 20 pj_m128.2.2.2.2.2.2 = some (.ireturn, 1) := by decide +kernel
theorem pr_129_0 : pj_find 0 pj_m129.2.2.2.2.2.2 = some (.aload_n 0, 1) := by decide +kernel
theorem pr_129_1 : pj_find 1 pj_m129.2.2.2.2.2.2 = some (.invokevirtual 120, 3) := by decide +kernel
theorem pr_129_4 : pj_find 4 pj_m129.2.2.2.2.2.2 = some (.ifCond .ge 6, 3) := by decide +kernel
theorem pr_129_7 : pj_find 7 pj_m129.2.2.2.2.2.2 = some (.bipush (-5), 2) := by decide +kernel
theorem pr_129_9 : pj_find 9 pj_m129.2.2.2.2.2.2 = some (.ireturn, 1) := by decide +kernel
theorem pr_129_10 : pj_find 10 pj_m129.2.2.2.2.2.2 = some (.iconst 0, 1) := by decide +kernel
theorem pr_129_11 : pj_find 11 pj_m129.2.2.2.2.2.2 = some (.istore_n 1, 1) := by decide +kernel
theorem pr_129_12 : pj_find 12 pj_m129.2.2.2.2.2.2 = some (.iload_n 1, 1) := by decide +kernel
theorem pr_129_13 : pj_find 13 pj_m129.2.2.2.2.2.2 = some (.bipush 32, 2) := by decide +kernel
theorem pr_129_15 : pj_find 15 pj_m129.2.2.2.2.2.2 = some (.if_icmp .ge 21, 3) := by decide +kernel
theorem pr_129_18 : pj_find 18 pj_m129.2.2.2.2.2.2 = some (.aload_n 0, 1) := by decide +kernel
theorem pr_129_19 : pj_find 19 pj_m129.2.2.2.2.2.2 = some (.getfield 7, 3) := by decide +kernel
theorem pr_129_22 : pj_find 22 pj_m129.2.2.2.2.2.2 = some (.iload_n 1, 1) := by decide +kernel
theorem pr_129_23 : pj_find 23 pj_m129.2.2.2.2.2.2 = some (.aload_n 0, 1) := by decide +kernel
theorem pr_129_24 : pj_find 24 pj_m129.2.2.2.2.2.2 = some (.getfield 13, 3) := by decide +kernel
theorem pr_129_27 : pj_find 27 pj_m129.2.2.2.2.2.2 = some (.iload_n 1, 1) := by decide +kernel
theorem pr_129_28 : pj_find 28 pj_m129.2.2.2.2.2.2 = some (.iaload, 1) := by decide +kernel
theorem pr_129_29 : pj_find 29 pj_m129.2.2.2.2.2.2 = some (.iastore, 1) := by decide +kernel
theorem pr_129_30 : pj_find 30 pj_m129.2.2.2.2.2.2 = some (.iinc 1 1, 3) := by decide +kernel
theorem pr_129_33 : pj_find 33 pj_m129.2.2.2.2.2.2 = some (.goto (-21), 3) := by decide +kernel
theorem pr_129_36 : pj_find 36 pj_m129.2.2.2.2.2.2 = some (.aload_n 0, 1) := by decide +kernel
theorem pr_129_37 : pj_find 37 pj_m129.2.2.2.2.2.2 = some (.iconst 0, 1) := by decide +kernel
theorem pr_129_38 : pj_find 38 pj_m129.2.2.2.2.2.2 = some (.putfield 51, 3) := by decide +kernel
theorem pr_129_41 : pj_find 41 pj_m129.2.2.2.2.2.2 = some (.aload_n 0, 1) := by decide +kernel
theorem pr_129_42 : pj_find 42 pj_m129.2.2.2.2.2.2 = some (.getfield 102, 3) := by decide +kernel
theorem pr_129_45 : pj_find 45 pj_m129.2.2.2.2.2.2 = some (.ireturn, 1) := by decide +kernel
theorem pr_130_0 : pj_find 0 pj_m130.2.2.2.2.2.2 = some (.iload_n 1, 1) := by decide +kernel
theorem pr_130_1 : pj_find 1 pj_m130.2.2.2.2.2.2 = some (.invokestatic 43, 3) := by decide +kernel
theorem pr_130_4 : pj_find 4 pj_m130.2.2.2.2.2.2 = some (.ifCond .ne 5, 3) := by decide +kernel
theorem pr_130_7 : pj_find 7 pj_m130.2.2.2.2.2.2 = some (.iconst (-1), 1) := by decide +kernel
theorem pr_130_8 : pj_find 8 pj_m130.2.2.2.2.2.2 = some (.ireturn, 1) := by decide +kernel
theorem pr_130_9 : pj_find 9 pj_m130.2.2.2.2.2.2 = some (.iload_n 2, 1) := by decide +kernel
theorem pr_130_10 : pj_find 10 pj_m130.2.2.2.2.2.2 = some (.iconst 0, 1) := by decide +kernel
theorem pr_130_11 : pj_find 11 pj_m130.2.2.2.2.2.2 = some (.iconst 1, 1) := by decide +kernel
theorem pr_130_12 : pj_find 12 pj_m130.2.2.2.2.2.2 = some (.invokestatic 39, 3) := by decide +kernel
theorem pr_130_15 : pj_find 15 pj_m130.2.2.2.2.2.2 = some (.ifCond .ne 6, 3) := by decide +kernel
theorem pr_130_18 : pj_find 18 pj_m130.2.2.2.2.2.2 = some (.bipush (-2), 2) := by decide +kernel
theorem pr_130_20 : pj_find 20 pj_m130.2.2.2.2.2.2 = some (.ireturn, 1) := by decide +kernel
theorem pr_130_21 : pj_find 21 pj_m130.2.2.2.2.2.2 = some (.aload_n 0, 1) := by decide +kernel
theorem pr_130_22 : pj_find 22 pj_m130.2.2.2.2.2.2 = some (.invokevirtual 120, 3) := by decide +kernel
theorem pr_130_25 : pj_find 25 pj_m130.2.2.2.2.2.2 = some (.ifCond .ge 8, 3) := by decide +kernel
theorem pr_130_28 : pj_find 28 pj_m130.2.2.2.2.2.2 = some (.bipush (-5), 2) := by decide +kernel
theorem pr_130_30 : pj_find 30 pj_m130.2.2.2.2.2.2 = some (.goto 27, 3) := by decide +kernel
theorem pr_130_33 : pj_find 33 pj_m130.2.2.2.2.2.2 = some (.iload_n 2, 1) := by decide +kernel
theorem pr_130_34 : pj_find 34 pj_m130.2.2.2.2.2.2 = some (.ifCond .ne 12, 3) := by decide +kernel
theorem pr_130_37 : pj_find 37 pj_m130.2.2.2.2.2.2 = some (.aload_n 0, 1) := by decide +kernel
theorem pr_130_38 : pj_find 38 pj_m130.2.2.2.2.2.2 = some (.getfield 13, 3) := by decide +kernel
theorem pr_130_41 : pj_find 41 pj_m130.2.2.2.2.2.2 = some (.iload_n 1, 1) := by decide +kernel
theorem pr_130_42 : pj_find 42 pj_m130.2.2.2.2.2.2 = some (.iaload, 1) := by decide +kernel
theorem pr_130_43 : pj_find 43 pj_m130.2.2.2.2.2.2 = some (.goto 14, 3) := by decide +kernel
theorem pr_130_46 : pj_find 46 pj_m130.2.2.2.2.2.2 = some (.aload_n 0, 1) := by decide +kernel
theorem pr_130_47 : pj_find 47 pj_m130.2.2.2.2.2.2 = some (.getfield 13, 3) := by decide +kernel
theorem pr_130_50 : pj_find 50 pj_m130.2.2.2.2.2.2 = some (.bipush 30, 2) := by decide +kernel
theorem pr_130_52 : pj_find 52 pj_m130.2.2.2.2.2.2 = some (.iaload, 1) := by decide +kernel
theorem pr_130_53 : pj_find 53 pj_m130.2.2.2.2.2.2 = some (.iload_n 1, 1) := by decide +kernel
theorem pr_130_54 : pj_find 54 pj_m130.2.2.2.2.2.2 = some (.ishr, 1) := by decide +kernel
theorem pr_130_55 : pj_find 55 pj_m130.2.2.2.2.2.2 = some (.iconst 1, 1) := by decide +kernel
theorem pr_130_56 : pj_find 56 pj_m130.2.2.2.2.2.2 = some (.iand, 1) := by decide +kernel
theorem pr_130_57 : pj_find 57 pj_m130.2.2.2.2.2.2 = some (.ireturn, 1) := by decide +kernel
theorem pr_131_0 : pj_find 0 pj_m131.2.2.2.2.2.2 = some (.iload_n 1, 1) := by decide +kernel
theorem pr_131_1 : pj_find 1 pj_m131.2.2.2.2.2.2 = some (.iconst 1, 1) := by decide +kernel
theorem pr_131_2 : pj_find 2 pj_m131.2.2.2.2.2.2 = some (.iconst 5, 1) := by decide +kernel
theorem pr_131_3 : pj_find 3 pj_m131.2.2.2.2.2.2 = some (.invokestatic 39, 3) := by decide +kernel
theorem pr_131_6 : pj_find 6 pj_m131.2.2.2.2.2.2 = some (.ifCond .ne 5, 3) := by decide +kernel
theorem pr_131_9 : pj_find 9 pj_m131.2.2.2.2.2.2 = some (.iconst (-1), 1) := by decide +kernel
theorem pr_131_10 : pj_find 10 pj_m131.2.2.2.2.2.2 = some (.ireturn, 1) := by decide +kernel
theorem pr_131_11 : pj_find 11 pj_m131.2.2.2.2.2.2 = some (.aload_n 0, 1) := by decide +kernel
theorem pr_131_12 : pj_find 12 pj_m131.2.2.2.2.2.2 = some (.invokevirtual 120, 3) := by decide +kernel
theorem pr_131_15 : pj_find 15 pj_m131.2.2.2.2.2.2 = some (.ifCond .ge 8, 3) := by decide +kernel
theorem pr_131_18 : pj_find 18 pj_m131.2.2.2.2.2.2 = some (.bipush (-5), 2) := by decide +kernel
theorem pr_131_20 : pj_find 20 pj_m131.2.2.2.2.2.2 = some (.goto 12, 3) := by decide +kernel
theorem pr_131_23 : pj_find 23 pj_m131.2.2.2.2.2.2 = some (.aload_n 0, 1) := by decide +kernel
theorem pr_131_24 : pj_find 24 pj_m131.2.2.2.2.2.2 = some (.getfield 13, 3) := by decide +kernel
theorem pr_131_27 : pj_find 27 pj_m131.2.2.2.2.2.2 = some (.bipush 24, 2) := by decide +kernel
theorem pr_131_29 : pj_find 29 pj_m131.2.2.2.2.2.2 = some (.iload_n 1, 1) := by decide +kernel
theorem pr_131_30 : pj_find 30 pj_m131.2.2.2.2.2.2 = some (.iadd, 1) := by decide +kernel
theorem pr_131_31 : pj_find 31 pj_m131.2.2.2.2.2.2 = some (.iaload, 1) := by decide +kernel
theorem pr_131_32 : pj_find 32 pj_m131.2.2.2.2.2.2 = some (.ireturn, 1) := by decide +kernel
theorem pr_132_0 : pj_find 0 pj_m132.2.2.2.2.2.2 = some (.iload_n 1, 1) := by decide +kernel
theorem pr_132_1 : pj_find 1 pj_m132.2.2.2.2.2.2 = some (.iconst 0, 1) := by decide +kernel
theorem pr_132_2 : pj_find 2 pj_m132.2.2.2.2.2.2 = some (.bipush 6, 2) := by decide +kernel
theorem pr_132_4 : pj_find 4 pj_m132.2.2.2.2.2.2 = some (.invokestatic 39, 3) := by decide +kernel
theorem pr_132_7 : pj_find 7 pj_m132.2.2.2.2.2.2 = some (.ifCond .ne 6, 3) := by decide +kernel
theorem pr_132_10 : pj_find 10 pj_m132.2.2.2.2.2.2 = some (.bipush (-2), 2) := by decide +kernel
theorem pr_132_12 : pj_find 12 pj_m132.2.2.2.2.2.2 = some (.ireturn, 1) := by decide +kernel
theorem pr_132_13 : pj_find 13 pj_m132.2.2.2.2.2.2 = some (.aload_n 0, 1) := by decide +kernel
theorem pr_132_14 : pj_find 14 pj_m132.2.2.2.2.2.2 = some (.invokevirtual 120, 3) := by decide +kernel
theorem pr_132_17 : pj_find 17 pj_m132.2.2.2.2.2.2 = some (.ifCond .ge 6, 3) := by decide +kernel
theorem pr_132_20 : pj_find 20 pj_m132.2.2.2.2.2.2 = some (.bipush (-5), 2) := by decide +kernel
theorem pr_132_22 : pj_find 22 pj_m132.2.2.2.2.2.2 = some (.ireturn, 1) := by decide +kernel
theorem pr_132_23 : pj_find 23 pj_m132.2.2.2.2.2.2 = some (.iload_n 1, 1) := by decide +kernel
theorem pr_132_24 : pj_find 24 pj_m132.2.2.2.2.2.2 = some (.tableswitch 70 0 4 #[36, 46, 55, 55, 65], 36) := by decide +kernel
theorem pr_132_60 : pj_find 60 pj_m132.2.2.2.2.2.2 = some (.aload_n 0, 1) := by decide +kernel
theorem pr_132_61 : pj_find 61 pj_m132.2.2.2.2.2.2 = some (.bipush 6, 2) := by decide +kernel
theorem pr_132_63 : pj_find 63 pj_m132.2.2.2.2.2.2 = some (.invokevirtual 105, 3) := by decide +kernel
theorem pr_132_66 : pj_find 66 pj_m132.2.2.2.2.2.2 = some (.invokestatic 86, 3) := by decide +kernel
theorem pr_132_69 : pj_find 69 pj_m132.2.2.2.2.2.2 = some (.ireturn, 1) := by decide +kernel
theorem pr_132_70 : pj_find 70 pj_m132.2.2.2.2.2.2 = some (.aload_n 0, 1) := by decide +kernel
theorem pr_132_71 : pj_find 71 pj_m132.2.2.2.2.2.2 = some (.iconst 0, 1) := by decide +kernel
theorem pr_132_72 : pj_find 72 pj_m132.2.2.2.2.2.2 = some (.invokevirtual 105, 3) := by decide +kernel
theorem pr_132_75 : pj_find 75 pj_m132.2.2.2.2.2.2 = some (.invokestatic 86, 3) := by decide +kernel
theorem pr_132_78 : pj_find 78 pj_m132.2.2.2.2.2.2 = some (.ireturn, 1) := by decide +kernel
theorem pr_132_79 : pj_find 79 pj_m132.2.2.2.2.2.2 = some (.aload_n 0, 1) := by decide +kernel
theorem pr_132_80 : pj_find 80 pj_m132.2.2.2.2.2.2 = some (.getfield 13, 3) := by decide +kernel
theorem pr_132_83 : pj_find 83 pj_m132.2.2.2.2.2.2 = some (.bipush 28, 2) := by decide +kernel
theorem pr_132_85 : pj_find 85 pj_m132.2.2.2.2.2.2 = some (.iload_n 1, 1) := by decide +kernel
theorem pr_132_86 : pj_find 86 pj_m132.2.2.2.2.2.2 = some (.iadd, 1) := by decide +kernel
theorem pr_132_87 : pj_find 87 pj_m132.2.2.2.2.2.2 = some (.iaload, 1) := by decide +kernel
theorem pr_132_88 : pj_find 88 pj_m132.2.2.2.2.2.2 = some (.ireturn, 1) := by decide +kernel
theorem pr_132_89 : pj_find 89 pj_m132.2.2.2.2.2.2 = some (.aload_n 0, 1) := by decide +kernel
theorem pr_132_90 : pj_find 90 pj_m132.2.2.2.2.2.2 = some (.getfield 77, 3) := by decide +kernel
theorem pr_132_93 : pj_find 93 pj_m132.2.2.2.2.2.2 = some (.ireturn, 1) := by decide +kernel
theorem pr_132_94 : pj_find 94 pj_m132.2.2.2.2.2.2 = some (.iload_n 1, 1) := by decide +kernel
theorem pr_132_95 : pj_find 95 pj_m132.2.2.2.2.2.2 = some (.iconst 5, 1) := by decide +kernel
theorem pr_132_96 : pj_find 96 pj_m132.2.2.2.2.2.2 = some (.if_icmp .ne 10, 3) := by decide +kernel
theorem pr_132_99 : pj_find 99 pj_m132.2.2.2.2.2.2 = some (.aload_n 0, 1) := by decide +kernel
theorem pr_132_100 : pj_find 100 pj_m132.2.2.2.2.2.2 = some (.getfield 80, 3) := by decide +kernel
theorem pr_132_103 : pj_find 103 pj_m132.2.2.2.2.2.2 = some (.goto 7, 3) := by decide +kernel
theorem pr_132_106 : pj_find 106 pj_m132.2.2.2.2.2.2 = some (.aload_n 0, 1) := by decide +kernel
theorem pr_132_107 : pj_find 107 pj_m132.2.2.2.2.2.2 = some (.getfield 83, 3) := by decide +kernel
theorem pr_132_110 : pj_find 110 pj_m132.2.2.2.2.2.2 = some (.ireturn, 1) := by decide +kernel
theorem pr_133_0 : pj_find 0 pj_m133.2.2.2.2.2.2 = some (.iload_n 0, 1) := by decide +kernel
theorem pr_133_1 : pj_find 1 pj_m133.2.2.2.2.2.2 = some (.istore_n 2, 1) := by decide +kernel
theorem pr_133_2 : pj_find 2 pj_m133.2.2.2.2.2.2 = some (.iconst 0, 1) := by decide +kernel
theorem pr_133_3 : pj_find 3 pj_m133.2.2.2.2.2.2 = some (.istore_n 3, 1) := by decide +kernel
theorem pr_133_4 : pj_find 4 pj_m133.2.2.2.2.2.2 = some (.iload_n 2, 1) := by decide +kernel
theorem pr_133_5 : pj_find 5 pj_m133.2.2.2.2.2.2 = some (.iload_n 3, 1) := by decide +kernel
theorem pr_133_6 : pj_find 6 pj_m133.2.2.2.2.2.2 = some (.if_icmp .eq 128, 3) := by decide +kernel
theorem pr_133_9 : pj_find 9 pj_m133.2.2.2.2.2.2 = some (.iload_n 2, 1) := by decide +kernel
theorem pr_133_10 : pj_find 10 pj_m133.2.2.2.2.2.2 = some (.istore_n 3, 1) := by decide +kernel
theorem pr_133_11 : pj_find 11 pj_m133.2.2.2.2.2.2 = some (.iconst 0, 1) := by decide +kernel
theorem pr_133_12 : pj_find 12 pj_m133.2.2.2.2.2.2 = some (.istore 4, 2) := by decide +kernel
theorem pr_133_14 : pj_find 14 pj_m133.2.2.2.2.2.2 = some (.iload 4, 2) := by decide +kernel
theorem pr_133_16 : pj_find 16 pj_m133.2.2.2.2.2.2 = some (.bipush 16, 2) := by decide +kernel
theorem pr_133_18 : pj_find 18 pj_m133.2.2.2.2.2.2 = some (.if_icmp .ge 113, 3) := by decide +kernel
theorem pr_133_21 : pj_find 21 pj_m133.2.2.2.2.2.2 = some (.iload 4, 2) := by decide +kernel
theorem pr_133_23 : pj_find 23 pj_m133.2.2.2.2.2.2 = some (.iconst 4, 1) := by decide +kernel
theorem pr_133_24 : pj_find 24 pj_m133.2.2.2.2.2.2 = some (.irem, 1) := by decide +kernel
theorem pr_133_25 : pj_find 25 pj_m133.2.2.2.2.2.2 = some (.ifCond .le 14, 3) := by decide +kernel
theorem pr_133_28 : pj_find 28 pj_m133.2.2.2.2.2.2 = some (.iload_n 3, 1) := by decide +kernel
theorem pr_133_29 : pj_find 29 pj_m133.2.2.2.2.2.2 = some (.iload 4, 2) := by decide +kernel
theorem pr_133_31 : pj_find 31 pj_m133.2.2.2.2.2.2 = some (.iconst 1, 1) := by decide +kernel
theorem pr_133_32 : pj_find 32 pj_m133.2.2.2.2.2.2 = some (.isub, 1) := by decide +kernel
theorem pr_133_33 : pj_find 33 pj_m133.2.2.2.2.2.2 = some (.invokestatic 63, 3) := by decide +kernel
theorem pr_133_36 : pj_find 36 pj_m133.2.2.2.2.2.2 = some (.ifCond .ne 57, 3) := by decide +kernel
theorem pr_133_39 : pj_find 39 pj_m133.2.2.2.2.2.2 = some (.iload 4, 2) := by decide +kernel
theorem pr_133_41 : pj_find 41 pj_m133.2.2.2.2.2.2 = some (.iconst 4, 1) := by decide +kernel
theorem pr_133_42 : pj_find 42 pj_m133.2.2.2.2.2.2 = some (.irem, 1) := by decide +kernel
theorem pr_133_43 : pj_find 43 pj_m133.2.2.2.2.2.2 = some (.iconst 3, 1) := by decide +kernel
theorem pr_133_44 : pj_find 44 pj_m133.2.2.2.2.2.2 = some (.if_icmp .ge 14, 3) := by decide +kernel
theorem pr_133_47 : pj_find 47 pj_m133.2.2.2.2.2.2 = some (.iload_n 3, 1) := by decide +kernel
theorem pr_133_48 : pj_find 48 pj_m133.2.2.2.2.2.2 = some (.iload 4, 2) := by decide +kernel
theorem pr_133_50 : pj_find 50 pj_m133.2.2.2.2.2.2 = some (.iconst 1, 1) := by decide +kernel
theorem pr_133_51 : pj_find 51 pj_m133.2.2.2.2.2.2 = some (.iadd, 1) := by decide +kernel
theorem pr_133_52 : pj_find 52 pj_m133.2.2.2.2.2.2 = some (.invokestatic 63, 3) := by decide +kernel
theorem pr_133_55 : pj_find 55 pj_m133.2.2.2.2.2.2 = some (.ifCond .ne 38, 3) := by decide +kernel
theorem pr_133_58 : pj_find 58 pj_m133.2.2.2.2.2.2 = some (.iload 4, 2) := by decide +kernel
theorem pr_133_60 : pj_find 60 pj_m133.2.2.2.2.2.2 = some (.iconst 3, 1) := by decide +kernel
theorem pr_133_61 : pj_find 61 pj_m133.2.2.2.2.2.2 = some (.if_icmp .le 14, 3) := by decide +kernel
theorem pr_133_64 : pj_find 64 pj_m133.2.2.2.2.2.2 = some (.iload_n 3, 1) := by decide +kernel
theorem pr_133_65 : pj_find 65 pj_m133.2.2.2.2.2.2 = some (.iload 4, 2) := by decide +kernel
theorem pr_133_67 : pj_find 67 pj_m133.2.2.2.2.2.2 = some (.iconst 4, 1) := by decide +kernel
theorem pr_133_68 : pj_find 68 pj_m133.2.2.2.2.2.2 = some (.isub, 1) := by decide +kernel
theorem pr_133_69 : pj_find 69 pj_m133.2.2.2.2.2.2 = some (.invokestatic 63, 3) := by decide +kernel
theorem pr_133_72 : pj_find 72 pj_m133.2.2.2.2.2.2 = some (.ifCond .ne 21, 3) := by decide +kernel
theorem pr_133_75 : pj_find 75 pj_m133.2.2.2.2.2.2 = some (.iload 4, 2) := by decide +kernel
theorem pr_133_77 : pj_find 77 pj_m133.2.2.2.2.2.2 = some (.bipush 12, 2) := by decide +kernel
theorem pr_133_79 : pj_find 79 pj_m133.2.2.2.2.2.2 = some (.if_icmp .ge 18, 3) := by decide +kernel
theorem pr_133_82 : pj_find 82 pj_m133.2.2.2.2.2.2 = some (.iload_n 3, 1) := by decide +kernel
theorem pr_133_83 : pj_find 83 pj_m133.2.2.2.2.2.2 = some (.iload 4, 2) := by decide +kernel
theorem pr_133_85 : pj_find 85 pj_m133.2.2.2.2.2.2 = some (.iconst 4, 1) := by decide +kernel
theorem pr_133_86 : pj_find 86 pj_m133.2.2.2.2.2.2 = some (.iadd, 1) := by decide +kernel
theorem pr_133_87 : pj_find 87 pj_m133.2.2.2.2.2.2 = some (.invokestatic 63, 3) := by decide +kernel
theorem pr_133_90 : pj_find 90 pj_m133.2.2.2.2.2.2 = some (.ifCond .eq 7, 3) := by decide +kernel
theorem pr_133_93 : pj_find 93 pj_m133.2.2.2.2.2.2 = some (.iconst 1, 1) := by decide +kernel
theorem pr_133_94 : pj_find 94 pj_m133.2.2.2.2.2.2 = some (.goto 4, 3) := by decide +kernel
theorem pr_133_97 : pj_find 97 pj_m133.2.2.2.2.2.2 = some (.iconst 0, 1) := by decide +kernel
theorem pr_133_98 : pj_find 98 pj_m133.2.2.2.2.2.2 = some (.istore 5, 2) := by decide +kernel
theorem pr_133_100 : pj_find 100 pj_m133.2.2.2.2.2.2 = some (.iload_n 2, 1) := by decide +kernel
theorem pr_133_101 : pj_find 101 pj_m133.2.2.2.2.2.2 = some (.iload 5, 2) := by decide +kernel
theorem pr_133_103 : pj_find 103 pj_m133.2.2.2.2.2.2 = some (.ifCond .eq 19, 3) := by decide +kernel
theorem pr_133_106 : pj_find 106 pj_m133.2.2.2.2.2.2 = some (.iload_n 1, 1) := by decide +kernel
theorem pr_133_107 : pj_find 107 pj_m133.2.2.2.2.2.2 = some (.iload 4, 2) := by decide +kernel
theorem pr_133_109 : pj_find 109 pj_m133.2.2.2.2.2.2 = some (.invokestatic 63, 3) := by decide +kernel
theorem pr_133_112 : pj_find 112 pj_m133.2.2.2.2.2.2 = some (.ifCond .eq 10, 3) := by decide +kernel
theorem pr_133_115 : pj_find 115 pj_m133.2.2.2.2.2.2 = some (.iconst 1, 1) := by decide +kernel
theorem pr_133_116 : pj_find 116 pj_m133.2.2.2.2.2.2 = some (.iload 4, 2) := by decide +kernel
theorem pr_133_118 : pj_find 118 pj_m133.2.2.2.2.2.2 = some (.ishl, 1) := by decide +kernel
theorem pr_133_119 : pj_find 119 pj_m133.2.2.2.2.2.2 = some (.goto 4, 3) := by decide +kernel
theorem pr_133_122 : pj_find 122 pj_m133.2.2.2.2.2.2 = some (.iconst 0, 1) := by decide +kernel
theorem pr_133_123 : pj_find 123 pj_m133.2.2.2.2.2.2 = some (.ior, 1) := by decide +kernel
theorem pr_133_124 : pj_find 124 pj_m133.2.2.2.2.2.2 = some (.istore_n 2, 1) := by decide +kernel
theorem pr_133_125 : pj_find 125 pj_m133.2.2.2.2.2.2 = some (.iinc 4 1, 3) := by decide +kernel
theorem pr_133_128 : pj_find 128 pj_m133.2.2.2.2.2.2 = some (.goto (-114), 3) := by decide +kernel
theorem pr_133_131 : pj_find 131 pj_m133.2.2.2.2.2.2 = some (.goto (-127), 3) := by decide +kernel
theorem pr_133_134 : pj_find 134 pj_m133.2.2.2.2.2.2 = some (.iload_n 2, 1) := by decide +kernel
theorem pr_133_135 : pj_find 135 pj_m133.2.2.2.2.2.2 = some (.ireturn, 1) := by decide +kernel
theorem pr_134_0 : pj_find 0 pj_m134.2.2.2.2.2.2 = some (.iload_n 1, 1) := by decide +kernel
theorem pr_134_1 : pj_find 1 pj_m134.2.2.2.2.2.2 = some (.iconst 0, 1) := by decide +kernel
theorem pr_134_2 : pj_find 2 pj_m134.2.2.2.2.2.2 = some (.iconst 1, 1) := by decide +kernel
theorem pr_134_3 : pj_find 3 pj_m134.2.2.2.2.2.2 = some (.invokestatic 39, 3) := by decide +kernel
theorem pr_134_6 : pj_find 6 pj_m134.2.2.2.2.2.2 = some (.ifCond .ne 6, 3) := by decide +kernel
theorem pr_134_9 : pj_find 9 pj_m134.2.2.2.2.2.2 = some (.bipush (-2), 2) := by decide +kernel
theorem pr_134_11 : pj_find 11 pj_m134.2.2.2.2.2.2 = some (.ireturn, 1) := by decide +kernel
theorem pr_134_12 : pj_find 12 pj_m134.2.2.2.2.2.2 = some (.aload_n 0, 1) := by decide +kernel
theorem pr_134_13 : pj_find 13 pj_m134.2.2.2.2.2.2 = some (.invokevirtual 99, 3) := by decide +kernel
theorem pr_134_16 : pj_find 16 pj_m134.2.2.2.2.2.2 = some (.iconst 0, 1) := by decide +kernel
theorem pr_134_17 : pj_find 17 pj_m134.2.2.2.2.2.2 = some (.istore_n 2, 1) := by decide +kernel
theorem pr_134_18 : pj_find 18 pj_m134.2.2.2.2.2.2 = some (.iconst 0, 1) := by decide +kernel
theorem pr_134_19 : pj_find 19 pj_m134.2.2.2.2.2.2 = some (.istore_n 3, 1) := by decide +kernel
theorem pr_134_20 : pj_find 20 pj_m134.2.2.2.2.2.2 = some (.iload_n 3, 1) := by decide +kernel
theorem pr_134_21 : pj_find 21 pj_m134.2.2.2.2.2.2 = some (.bipush 16, 2) := by decide +kernel
theorem pr_134_23 : pj_find 23 pj_m134.2.2.2.2.2.2 = some (.if_icmp .ge 77, 3) := by decide +kernel
theorem pr_134_26 : pj_find 26 pj_m134.2.2.2.2.2.2 = some (.aload_n 0, 1) := by decide +kernel
theorem pr_134_27 : pj_find 27 pj_m134.2.2.2.2.2.2 = some (.getfield 13, 3) := by decide +kernel
theorem pr_134_30 : pj_find 30 pj_m134.2.2.2.2.2.2 = some (.iload_n 3, 1) := by decide +kernel
theorem pr_134_31 : pj_find 31 pj_m134.2.2.2.2.2.2 = some (.iaload, 1) := by decide +kernel
theorem pr_134_32 : pj_find 32 pj_m134.2.2.2.2.2.2 = some (.ifCond .ne 7, 3) := by decide +kernel
theorem pr_134_35 : pj_find 35 pj_m134.2.2.2.2.2.2 = some (.iconst 0, 1) := by decide +kernel
theorem pr_134_36 : pj_find 36 pj_m134.2.2.2.2.2.2 = some (.goto 19, 3) := by decide +kernel
theorem pr_134_39 : pj_find 39 pj_m134.2.2.2.2.2.2 = some (.iconst 1, 1) := by decide +kernel
theorem pr_134_40 : pj_find 40 pj_m134.2.2.2.2.2.2 = some (.iload_n 3, 1) := by decide +kernel
theorem pr_134_41 : pj_find 41 pj_m134.2.2.2.2.2.2 = some (.ishl, 1) := by decide +kernel
theorem pr_134_42 : pj_find 42 pj_m134.2.2.2.2.2.2 = some (.aload_n 0, 1) := by decide +kernel
theorem pr_134_43 : pj_find 43 pj_m134.2.2.2.2.2.2 = some (.aload_n 0, 1) := by decide +kernel
theorem pr_134_44 : pj_find 44 pj_m134.2.2.2.2.2.2 = some (.getfield 13, 3) := by decide +kernel
theorem pr_134_47 : pj_find 47 pj_m134.2.2.2.2.2.2 = some (.iload_n 3, 1) := by decide +kernel
theorem pr_134_48 : pj_find 48 pj_m134.2.2.2.2.2.2 = some (.iaload, 1) := by decide +kernel
theorem pr_134_49 : pj_find 49 pj_m134.2.2.2.2.2.2 = some (.invokevirtual 105, 3) := by decide +kernel
theorem pr_134_52 : pj_find 52 pj_m134.2.2.2.2.2.2 = some (.invokestatic 123, 3) := by decide +kernel
theorem pr_134_55 : pj_find 55 pj_m134.2.2.2.2.2.2 = some (.istore 4, 2) := by decide +kernel
theorem pr_134_57 : pj_find 57 pj_m134.2.2.2.2.2.2 = some (.iload 4, 2) := by decide +kernel
theorem pr_134_59 : pj_find 59 pj_m134.2.2.2.2.2.2 = some (.invokestatic 86, 3) := by decide +kernel
theorem pr_134_62 : pj_find 62 pj_m134.2.2.2.2.2.2 = some (.iload_n 2, 1) := by decide +kernel
theorem pr_134_63 : pj_find 63 pj_m134.2.2.2.2.2.2 = some (.invokestatic 86, 3) := by decide +kernel
theorem pr_134_66 : pj_find 66 pj_m134.2.2.2.2.2.2 = some (.if_icmp .gt 21, 3) := by decide +kernel
theorem pr_134_69 : pj_find 69 pj_m134.2.2.2.2.2.2 = some (.iload 4, 2) := by decide +kernel
theorem pr_134_71 : pj_find 71 pj_m134.2.2.2.2.2.2 = some (.invokestatic 86, 3) := by decide +kernel
theorem pr_134_74 : pj_find 74 pj_m134.2.2.2.2.2.2 = some (.iload_n 2, 1) := by decide +kernel
theorem pr_134_75 : pj_find 75 pj_m134.2.2.2.2.2.2 = some (.invokestatic 86, 3) := by decide +kernel
theorem pr_134_78 : pj_find 78 pj_m134.2.2.2.2.2.2 = some (.if_icmp .ne 14, 3) := by decide +kernel
theorem pr_134_81 : pj_find 81 pj_m134.2.2.2.2.2.2 = some (.iload 4, 2) := by decide +kernel
theorem pr_134_83 : pj_find 83 pj_m134.2.2.2.2.2.2 = some (.iload_n 2, 1) := by decide +kernel
theorem pr_134_84 : pj_find 84 pj_m134.2.2.2.2.2.2 = some (.if_icmp .ge 8, 3) := by decide +kernel
theorem pr_134_87 : pj_find 87 pj_m134.2.2.2.2.2.2 = some (.iload 4, 2) := by decide +kernel
theorem pr_134_89 : pj_find 89 pj_m134.2.2.2.2.2.2 = some (.goto 4, 3) := by decide +kernel
theorem pr_134_92 : pj_find 92 pj_m134.2.2.2.2.2.2 = some (.iload_n 2, 1) := by decide +kernel
theorem pr_134_93 : pj_find 93 pj_m134.2.2.2.2.2.2 = some (.istore_n 2, 1) := by decide +kernel
theorem pr_134_94 : pj_find 94 pj_m134.2.2.2.2.2.2 = some (.iinc 3 1, 3) := by decide +kernel
theorem pr_134_97 : pj_find 97 pj_m134.2.2.2.2.2.2 = some (.goto (-77), 3) := by decide +kernel
theorem pr_134_100 : pj_find 100 pj_m134.2.2.2.2.2.2 = some (.iload_n 1, 1) := by decide +kernel
theorem pr_134_101 : pj_find 101 pj_m134.2.2.2.2.2.2 = some (.ifCond .ne 10, 3) := by decide +kernel
theorem pr_134_104 : pj_find 104 pj_m134.2.2.2.2.2.2 = some (.iload_n 2, 1) := by decide +kernel
theorem pr_134_105 : pj_find 105 pj_m134.2.2.2.2.2.2 = some (.invokestatic 86, 3) := by decide +kernel
theorem pr_134_108 : pj_find 108 pj_m134.2.2.2.2.2.2 = some (.goto 4, 3) := by decide +kernel
theorem pr_134_111 : pj_find 111 pj_m134.2.2.2.2.2.2 = some (.iload_n 2, 1) := by decide +kernel
theorem pr_134_112 : pj_find 112 pj_m134.2.2.2.2.2.2 = some (.ireturn, 1) := by decide +kernel
theorem pr_135_0 : pj_find 0 pj_m135.2.2.2.2.2.2 = some (.iload_n 1, 1) := by decide +kernel
theorem pr_135_1 : pj_find 1 pj_m135.2.2.2.2.2.2 = some (.iconst 0, 1) := by decide +kernel
theorem pr_135_2 : pj_find 2 pj_m135.2.2.2.2.2.2 = some (.iconst 1, 1) := by decide +kernel
theorem pr_135_3 : pj_find 3 pj_m135.2.2.2.2.2.2 = some (.invokestatic 39, 3) := by decide +kernel
theorem pr_135_6 : pj_find 6 pj_m135.2.2.2.2.2.2 = some (.ifCond .ne 6, 3) := by decide +kernel
theorem pr_135_9 : pj_find 9 pj_m135.2.2.2.2.2.2 = some (.bipush (-2), 2) := by decide +kernel
theorem pr_135_11 : pj_find 11 pj_m135.2.2.2.2.2.2 = some (.ireturn, 1) := by decide +kernel
theorem pr_135_12 : pj_find 12 pj_m135.2.2.2.2.2.2 = some (.aload_n 0, 1) := by decide +kernel
theorem pr_135_13 : pj_find 13 pj_m135.2.2.2.2.2.2 = some (.invokevirtual 99, 3) := by decide +kernel
theorem pr_135_16 : pj_find 16 pj_m135.2.2.2.2.2.2 = some (.iconst 0, 1) := by decide +kernel
theorem pr_135_17 : pj_find 17 pj_m135.2.2.2.2.2.2 = some (.istore_n 2, 1) := by decide +kernel
theorem pr_135_18 : pj_find 18 pj_m135.2.2.2.2.2.2 = some (.iconst 0, 1) := by decide +kernel
theorem pr_135_19 : pj_find 19 pj_m135.2.2.2.2.2.2 = some (.istore_n 3, 1) := by decide +kernel
theorem pr_135_20 : pj_find 20 pj_m135.2.2.2.2.2.2 = some (.iload_n 3, 1) := by decide +kernel
theorem pr_135_21 : pj_find 21 pj_m135.2.2.2.2.2.2 = some (.bipush 16, 2) := by decide +kernel
theorem pr_135_23 : pj_find 23 pj_m135.2.2.2.2.2.2 = some (.if_icmp .ge 211, 3) := by decide +kernel
theorem pr_135_26 : pj_find 26 pj_m135.2.2.2.2.2.2 = some (.iload_n 3, 1) := by decide +kernel
theorem pr_135_27 : pj_find 27 pj_m135.2.2.2.2.2.2 = some (.istore 4, 2) := by decide +kernel
theorem pr_135_29 : pj_find 29 pj_m135.2.2.2.2.2.2 = some (.iload 4, 2) := by decide +kernel
theorem pr_135_31 : pj_find 31 pj_m135.2.2.2.2.2.2 = some (.bipush 16, 2) := by decide +kernel
theorem pr_135_33 : pj_find 33 pj_m135.2.2.2.2.2.2 = some (.if_icmp .ge 195, 3) := by decide +kernel
theorem pr_135_36 : pj_find 36 pj_m135.2.2.2.2.2.2 = some (.iconst 0, 1) := by decide +kernel
theorem pr_135_37 : pj_find 37 pj_m135.2.2.2.2.2.2 = some (.istore 5, 2) := by decide +kernel
theorem pr_135_39 : pj_find 39 pj_m135.2.2.2.2.2.2 = some (.aload_n 0, 1) := by decide +kernel
theorem pr_135_40 : pj_find 40 pj_m135.2.2.2.2.2.2 = some (.getfield 13, 3) := by decide +kernel
theorem pr_135_43 : pj_find 43 pj_m135.2.2.2.2.2.2 = some (.iload_n 3, 1) := by decide +kernel
theorem pr_135_44 : pj_find 44 pj_m135.2.2.2.2.2.2 = some (.iaload, 1) := by decide +kernel
theorem pr_135_45 : pj_find 45 pj_m135.2.2.2.2.2.2 = some (.ifCond .le 7, 3) := by decide +kernel
theorem pr_135_48 : pj_find 48 pj_m135.2.2.2.2.2.2 = some (.iconst 1, 1) := by decide +kernel
theorem pr_135_49 : pj_find 49 pj_m135.2.2.2.2.2.2 = some (.goto 4, 3) := by decide +kernel
theorem pr_135_52 : pj_find 52 pj_m135.2.2.2.2.2.2 = some (.iconst 0, 1) := by decide +kernel
theorem pr_135_53 : pj_find 53 pj_m135.2.2.2.2.2.2 = some (.istore 6, 2) := by decide +kernel
theorem pr_135_55 : pj_find 55 pj_m135.2.2.2.2.2.2 = some (.iload_n 3, 1) := by decide +kernel
theorem pr_135_56 : pj_find 56 pj_m135.2.2.2.2.2.2 = some (.istore 7, 2) := by decide +kernel
theorem pr_135_58 : pj_find 58 pj_m135.2.2.2.2.2.2 = some (.iload 7, 2) := by decide +kernel
theorem pr_135_60 : pj_find 60 pj_m135.2.2.2.2.2.2 = some (.iload 4, 2) := by decide +kernel
theorem pr_135_62 : pj_find 62 pj_m135.2.2.2.2.2.2 = some (.if_icmp .gt 101, 3) := by decide +kernel
theorem pr_135_65 : pj_find 65 pj_m135.2.2.2.2.2.2 = some (.iload 7, 2) := by decide +kernel
theorem pr_135_67 : pj_find 67 pj_m135.2.2.2.2.2.2 = some (.iconst 4, 1) := by decide +kernel
theorem pr_135_68 : pj_find 68 pj_m135.2.2.2.2.2.2 = some (.idiv, 1) := by decide +kernel
theorem pr_135_69 : pj_find 69 pj_m135.2.2.2.2.2.2 = some (.iload_n 3, 1) := by decide +kernel
theorem pr_135_70 : pj_find 70 pj_m135.2.2.2.2.2.2 = some (.iconst 4, 1) := by decide +kernel
theorem pr_135_71 : pj_find 71 pj_m135.2.2.2.2.2.2 = some (.idiv, 1) := by decide +kernel
theorem pr_135_72 : pj_find 72 pj_m135.2.2.2.2.2.2 = some (.iload 4, 2) := by decide +kernel
theorem pr_135_74 : pj_find 74 pj_m135.2.2.2.2.2.2 = some (.iconst 4, 1) := by decide +kernel
theorem pr_135_75 : pj_find 75 pj_m135.2.2.2.2.2.2 = some (.idiv, 1) := by decide +kernel
theorem pr_135_76 : pj_find 76 pj_m135.2.2.2.2.2.2 = some (.invokestatic 39, 3) := by decide +kernel
theorem pr_135_79 : pj_find 79 pj_m135.2.2.2.2.2.2 = some (.ifCond .eq 24, 3) := by decide +kernel
theorem pr_135_82 : pj_find 82 pj_m135.2.2.2.2.2.2 = some (.iload 7, 2) := by decide +kernel
theorem pr_135_84 : pj_find 84 pj_m135.2.2.2.2.2.2 = some (.iconst 4, 1) := by decide +kernel
theorem pr_135_85 : pj_find 85 pj_m135.2.2.2.2.2.2 = some (.irem, 1) := by decide +kernel
theorem pr_135_86 : pj_find 86 pj_m135.2.2.2.2.2.2 = some (.iload_n 3, 1) := by decide +kernel
theorem pr_135_87 : pj_find 87 pj_m135.2.2.2.2.2.2 = some (.iconst 4, 1) := by decide +kernel
theorem pr_135_88 : pj_find 88 pj_m135.2.2.2.2.2.2 = some (.irem, 1) := by decide +kernel
theorem pr_135_89 : pj_find 89 pj_m135.2.2.2.2.2.2 = some (.iload 4, 2) := by decide +kernel
theorem pr_135_91 : pj_find 91 pj_m135.2.2.2.2.2.2 = some (.iconst 4, 1) := by decide +kernel
theorem pr_135_92 : pj_find 92 pj_m135.2.2.2.2.2.2 = some (.irem, 1) := by decide +kernel
theorem pr_135_93 : pj_find 93 pj_m135.2.2.2.2.2.2 = some (.invokestatic 39, 3) := by decide +kernel
theorem pr_135_96 : pj_find 96 pj_m135.2.2.2.2.2.2 = some (.ifCond .eq 7, 3) := by decide +kernel
theorem pr_135_99 : pj_find 99 pj_m135.2.2.2.2.2.2 = some (.iconst 1, 1) := by decide +kernel
theorem pr_135_100 : pj_find 100 pj_m135.2.2.2.2.2.2 = some (.goto 4, 3) := by decide +kernel
theorem pr_135_103 : pj_find 103 pj_m135.2.2.2.2.2.2 = some (.iconst 0, 1) := by decide +kernel
theorem pr_135_104 : pj_find 104 pj_m135.2.2.2.2.2.2 = some (.istore 8, 2) := by decide +kernel
theorem pr_135_106 : pj_find 106 pj_m135.2.2.2.2.2.2 = some (.iload 5, 2) := by decide +kernel
theorem pr_135_108 : pj_find 108 pj_m135.2.2.2.2.2.2 = some (.iload 8, 2) := by decide +kernel
theorem pr_135_110 : pj_find 110 pj_m135.2.2.2.2.2.2 = some (.ifCond .eq 10, 3) := by decide +kernel
theorem pr_135_113 : pj_find 113 pj_m135.2.2.2.2.2.2 = some (.iconst 1, 1) := by decide +kernel
theorem pr_135_114 : pj_find 114 pj_m135.2.2.2.2.2.2 = some (.iload 7, 2) := by decide +kernel
theorem pr_135_116 : pj_find 116 pj_m135.2.2.2.2.2.2 = some (.ishl, 1) := by decide +kernel
theorem pr_135_117 : pj_find 117 pj_m135.2.2.2.2.2.2 = some (.goto 4, 3) := by decide +kernel
theorem pr_135_120 : pj_find 120 pj_m135.2.2.2.2.2.2 = some (.iconst 0, 1) := by decide +kernel
theorem pr_135_121 : pj_find 121 pj_m135.2.2.2.2.2.2 = some (.ior, 1) := by decide +kernel
theorem pr_135_122 : pj_find 122 pj_m135.2.2.2.2.2.2 = some (.istore 5, 2) := by decide +kernel
theorem pr_135_124 : pj_find 124 pj_m135.2.2.2.2.2.2 = some (.iload 6, 2) := by decide +kernel
theorem pr_135_126 : pj_find 126 pj_m135.2.2.2.2.2.2 = some (.ifCond .eq 28, 3) := by decide +kernel
theorem pr_135_129 : pj_find 129 pj_m135.2.2.2.2.2.2 = some (.iload 8, 2) := by decide +kernel
theorem pr_135_131 : pj_find 131 pj_m135.2.2.2.2.2.2 = some (.ifCond .eq 19, 3) := by decide +kernel
theorem pr_135_134 : pj_find 134 pj_m135.2.2.2.2.2.2 = some (.aload_n 0, 1) := by decide +kernel
theorem pr_135_135 : pj_find 135 pj_m135.2.2.2.2.2.2 = some (.getfield 13, 3) := by decide +kernel
theorem pr_135_138 : pj_find 138 pj_m135.2.2.2.2.2.2 = some (.iload 7, 2) := by decide +kernel
theorem pr_135_140 : pj_find 140 pj_m135.2.2.2.2.2.2 = some (.iaload, 1) := by decide +kernel
theorem pr_135_141 : pj_find 141 pj_m135.2.2.2.2.2.2 = some (.aload_n 0, 1) := by decide +kernel
theorem pr_135_142 : pj_find 142 pj_m135.2.2.2.2.2.2 = some (.getfield 13, 3) := by decide +kernel
theorem pr_135_145 : pj_find 145 pj_m135.2.2.2.2.2.2 = some (.iload_n 3, 1) := by decide +kernel
theorem pr_135_146 : pj_find 146 pj_m135.2.2.2.2.2.2 = some (.iaload, 1) := by decide +kernel
theorem pr_135_147 : pj_find 147 pj_m135.2.2.2.2.2.2 = some (.if_icmp .ne 7, 3) := by decide +kernel
theorem pr_135_150 : pj_find 150 pj_m135.2.2.2.2.2.2 = some (.iconst 1, 1) := by decide +kernel
theorem pr_135_151 : pj_find 151 pj_m135.2.2.2.2.2.2 = some (.goto 4, 3) := by decide +kernel
theorem pr_135_154 : pj_find 154 pj_m135.2.2.2.2.2.2 = some (.iconst 0, 1) := by decide +kernel
theorem pr_135_155 : pj_find 155 pj_m135.2.2.2.2.2.2 = some (.istore 6, 2) := by decide +kernel
theorem pr_135_157 : pj_find 157 pj_m135.2.2.2.2.2.2 = some (.iinc 7 1, 3) := by decide +kernel
theorem pr_135_160 : pj_find 160 pj_m135.2.2.2.2.2.2 = some (.goto (-102), 3) := by decide +kernel
theorem pr_135_163 : pj_find 163 pj_m135.2.2.2.2.2.2 = some (.iload 5, 2) := by decide +kernel
theorem pr_135_165 : pj_find 165 pj_m135.2.2.2.2.2.2 = some (.invokestatic 86, 3) := by decide +kernel
theorem pr_135_168 : pj_find 168 pj_m135.2.2.2.2.2.2 = some (.iload_n 2, 1) := by decide +kernel
theorem pr_135_169 : pj_find 169 pj_m135.2.2.2.2.2.2 = some (.invokestatic 86, 3) := by decide +kernel
theorem pr_135_172 : pj_find 172 pj_m135.2.2.2.2.2.2 = some (.if_icmp .gt 21, 3) := by decide +kernel
theorem pr_135_175 : pj_find 175 pj_m135.2.2.2.2.2.2 = some (.iload 5, 2) := by decide +kernel
theorem pr_135_177 : pj_find 177 pj_m135.2.2.2.2.2.2 = some (.invokestatic 86, 3) := by decide +kernel
theorem pr_135_180 : pj_find 180 pj_m135.2.2.2.2.2.2 = some (.iload_n 2, 1) := by decide +kernel
theorem pr_135_181 : pj_find 181 pj_m135.2.2.2.2.2.2 = some (.invokestatic 86, 3) := by decide +kernel
theorem pr_135_184 : pj_find 184 pj_m135.2.2.2.2.2.2 = some (.if_icmp .ne 13, 3) := by decide +kernel
theorem pr_135_187 : pj_find 187 pj_m135.2.2.2.2.2.2 = some (.iload 5, 2) := by decide +kernel
theorem pr_135_189 : pj_find 189 pj_m135.2.2.2.2.2.2 = some (.iload_n 2, 1) := by decide +kernel
theorem pr_135_190 : pj_find 190 pj_m135.2.2.2.2.2.2 = some (.if_icmp .ge 7, 3) := by decide +kernel
theorem pr_135_193 : pj_find 193 pj_m135.2.2.2.2.2.2 = some (.iconst 1, 1) := by decide +kernel
theorem pr_135_194 : pj_find 194 pj_m135.2.2.2.2.2.2 = some (.goto 4, 3) := by decide +kernel
theorem pr_135_197 : pj_find 197 pj_m135.2.2.2.2.2.2 = some (.iconst 0, 1) := by decide +kernel
theorem pr_135_198 : pj_find 198 pj_m135.2.2.2.2.2.2 = some (.istore 7, 2) := by decide +kernel
theorem pr_135_200 : pj_find 200 pj_m135.2.2.2.2.2.2 = some (.iload 6, 2) := by decide +kernel
theorem pr_135_202 : pj_find 202 pj_m135.2.2.2.2.2.2 = some (.ifCond .eq 18, 3) := by decide +kernel
theorem pr_135_205 : pj_find 205 pj_m135.2.2.2.2.2.2 = some (.iload 5, 2) := by decide +kernel
theorem pr_135_207 : pj_find 207 pj_m135.2.2.2.2.2.2 = some (.ifCond .eq 13, 3) := by decide +kernel
theorem pr_135_210 : pj_find 210 pj_m135.2.2.2.2.2.2 = some (.iload 7, 2) := by decide +kernel
theorem pr_135_212 : pj_find 212 pj_m135.2.2.2.2.2.2 = some (.ifCond .eq 8, 3) := by decide +kernel
theorem pr_135_215 : pj_find 215 pj_m135.2.2.2.2.2.2 = some (.iload 5, 2) := by decide +kernel
theorem pr_135_217 : pj_find 217 pj_m135.2.2.2.2.2.2 = some (.goto 4, 3) := by decide +kernel
theorem pr_135_220 : pj_find 220 pj_m135.2.2.2.2.2.2 = some (.iload_n 2, 1) := by decide +kernel
theorem pr_135_221 : pj_find 221 pj_m135.2.2.2.2.2.2 = some (.istore_n 2, 1) := by decide +kernel
theorem pr_135_222 : pj_find 222 pj_m135.2.2.2.2.2.2 = some (.iinc 4 1, 3) := by decide +kernel
theorem pr_135_225 : pj_find 225 pj_m135.2.2.2.2.2.2 = some (.goto (-196), 3) := by decide +kernel
theorem pr_135_228 : pj_find 228 pj_m135.2.2.2.2.2.2 = some (.iinc 3 1, 3) := by decide +kernel
theorem pr_135_231 : pj_find 231 pj_m135.2.2.2.2.2.2 = some (.goto (-211), 3) := by decide +kernel
theorem pr_135_234 : pj_find 234 pj_m135.2.2.2.2.2.2 = some (.iload_n 1, 1) := by decide +kernel
theorem pr_135_235 : pj_find 235 pj_m135.2.2.2.2.2.2 = some (.ifCond .ne 10, 3) := by decide +kernel
theorem pr_135_238 : pj_find 238 pj_m135.2.2.2.2.2.2 = some (.iload_n 2, 1) := by decide +kernel
theorem pr_135_239 : pj_find 239 pj_m135.2.2.2.2.2.2 = some (.invokestatic 86, 3) := by decide +kernel
theorem pr_135_242 : pj_find 242 pj_m135.2.2.2.2.2.2 = some (.goto 4, 3) := by decide +kernel
theorem pr_135_245 : pj_find 245 pj_m135.2.2.2.2.2.2 = some (.iload_n 2, 1) := by decide +kernel
theorem pr_135_246 : pj_find 246 pj_m135.2.2.2.2.2.2 = some (.ireturn, 1) := by decide +kernel
theorem pr_136_0 : pj_find 0 pj_m136.2.2.2.2.2.2 = some (.iload_n 1, 1) := by decide +kernel
theorem pr_136_1 : pj_find 1 pj_m136.2.2.2.2.2.2 = some (.iconst 1, 1) := by decide +kernel
theorem pr_136_2 : pj_find 2 pj_m136.2.2.2.2.2.2 = some (.ldc 50, 2) := by decide +kernel
theorem pr_136_4 : pj_find 4 pj_m136.2.2.2.2.2.2 = some (.invokestatic 39, 3) := by decide +kernel
theorem pr_136_7 : pj_find 7 pj_m136.2.2.2.2.2.2 = some (.ifCond .eq 12, 3) := by decide +kernel
theorem pr_136_10 : pj_find 10 pj_m136.2.2.2.2.2.2 = some (.iload_n 2, 1) := by decide +kernel
theorem pr_136_11 : pj_find 11 pj_m136.2.2.2.2.2.2 = some (.iconst 0, 1) := by decide +kernel
theorem pr_136_12 : pj_find 12 pj_m136.2.2.2.2.2.2 = some (.iconst 1, 1) := by decide +kernel
theorem pr_136_13 : pj_find 13 pj_m136.2.2.2.2.2.2 = some (.invokestatic 39, 3) := by decide +kernel
theorem pr_136_16 : pj_find 16 pj_m136.2.2.2.2.2.2 = some (.ifCond .ne 6, 3) := by decide +kernel
theorem pr_136_19 : pj_find 19 pj_m136.2.2.2.2.2.2 = some (.bipush (-2), 2) := by decide +kernel
theorem pr_136_21 : pj_find 21 pj_m136.2.2.2.2.2.2 = some (.ireturn, 1) := by decide +kernel
theorem pr_136_22 : pj_find 22 pj_m136.2.2.2.2.2.2 = some (.bipush (-6), 2) := by decide +kernel
theorem pr_136_24 : pj_find 24 pj_m136.2.2.2.2.2.2 = some (.istore_n 3, 1) := by decide +kernel
theorem pr_136_25 : pj_find 25 pj_m136.2.2.2.2.2.2 = some (.iconst 1, 1) := by decide +kernel
theorem pr_136_26 : pj_find 26 pj_m136.2.2.2.2.2.2 = some (.istore 4, 2) := by decide +kernel
theorem pr_136_28 : pj_find 28 pj_m136.2.2.2.2.2.2 = some (.iload 4, 2) := by decide +kernel
theorem pr_136_30 : pj_find 30 pj_m136.2.2.2.2.2.2 = some (.sipush 256, 3) := by decide +kernel
theorem pr_136_33 : pj_find 33 pj_m136.2.2.2.2.2.2 = some (.if_icmp .ge 89, 3) := by decide +kernel
theorem pr_136_36 : pj_find 36 pj_m136.2.2.2.2.2.2 = some (.iconst 0, 1) := by decide +kernel
theorem pr_136_37 : pj_find 37 pj_m136.2.2.2.2.2.2 = some (.istore 5, 2) := by decide +kernel
theorem pr_136_39 : pj_find 39 pj_m136.2.2.2.2.2.2 = some (.iconst 0, 1) := by decide +kernel
theorem pr_136_40 : pj_find 40 pj_m136.2.2.2.2.2.2 = some (.istore 6, 2) := by decide +kernel
theorem pr_136_42 : pj_find 42 pj_m136.2.2.2.2.2.2 = some (.iload 6, 2) := by decide +kernel
theorem pr_136_44 : pj_find 44 pj_m136.2.2.2.2.2.2 = some (.bipush 8, 2) := by decide +kernel
theorem pr_136_46 : pj_find 46 pj_m136.2.2.2.2.2.2 = some (.if_icmp .ge 38, 3) := by decide +kernel
theorem pr_136_49 : pj_find 49 pj_m136.2.2.2.2.2.2 = some (.iload 5, 2) := by decide +kernel
theorem pr_136_51 : pj_find 51 pj_m136.2.2.2.2.2.2 = some (.iload 4, 2) := by decide +kernel
theorem pr_136_53 : pj_find 53 pj_m136.2.2.2.2.2.2 = some (.iload 6, 2) := by decide +kernel
theorem pr_136_55 : pj_find 55 pj_m136.2.2.2.2.2.2 = some (.invokestatic 63, 3) := by decide +kernel
theorem pr_136_58 : pj_find 58 pj_m136.2.2.2.2.2.2 = some (.ifCond .eq 16, 3) := by decide +kernel
theorem pr_136_61 : pj_find 61 pj_m136.2.2.2.2.2.2 = some (.aload_n 0, 1) := by decide +kernel
theorem pr_136_62 : pj_find 62 pj_m136.2.2.2.2.2.2 = some (.getfield 7, 3) := by decide +kernel
theorem pr_136_65 : pj_find 65 pj_m136.2.2.2.2.2.2 = some (.bipush 16, 2) := by decide +kernel
theorem pr_136_67 : pj_find 67 pj_m136.2.2.2.2.2.2 = some (.iload 6, 2) := by decide +kernel
theorem pr_136_69 : pj_find 69 pj_m136.2.2.2.2.2.2 = some (.iadd, 1) := by decide +kernel
theorem pr_136_70 : pj_find 70 pj_m136.2.2.2.2.2.2 = some (.iaload, 1) := by decide +kernel
theorem pr_136_71 : pj_find 71 pj_m136.2.2.2.2.2.2 = some (.goto 4, 3) := by decide +kernel
theorem pr_136_74 : pj_find 74 pj_m136.2.2.2.2.2.2 = some (.iconst 0, 1) := by decide +kernel
theorem pr_136_75 : pj_find 75 pj_m136.2.2.2.2.2.2 = some (.ior, 1) := by decide +kernel
theorem pr_136_76 : pj_find 76 pj_m136.2.2.2.2.2.2 = some (.istore 5, 2) := by decide +kernel
theorem pr_136_78 : pj_find 78 pj_m136.2.2.2.2.2.2 = some (.iinc 6 1, 3) := by decide +kernel
theorem pr_136_81 : pj_find 81 pj_m136.2.2.2.2.2.2 = some (.goto (-39), 3) := by decide +kernel
theorem pr_136_84 : pj_find 84 pj_m136.2.2.2.2.2.2 = some (.iload_n 1, 1) := by decide +kernel
theorem pr_136_85 : pj_find 85 pj_m136.2.2.2.2.2.2 = some (.iload 5, 2) := by decide +kernel
theorem pr_136_87 : pj_find 87 pj_m136.2.2.2.2.2.2 = some (.iconst (-1), 1) := by decide +kernel
theorem pr_136_88 : pj_find 88 pj_m136.2.2.2.2.2.2 = some (.ixor, 1) := by decide +kernel
theorem pr_136_89 : pj_find 89 pj_m136.2.2.2.2.2.2 = some (.iand, 1) := by decide +kernel
theorem pr_136_90 : pj_find 90 pj_m136.2.2.2.2.2.2 = some (.ifCond .ne 24, 3) := by decide +kernel
theorem pr_136_93 : pj_find 93 pj_m136.2.2.2.2.2.2 = some (.iload_n 3, 1) := by decide +kernel
theorem pr_136_94 : pj_find 94 pj_m136.2.2.2.2.2.2 = some (.ifCond .lt 15, 3) := by decide +kernel
theorem pr_136_97 : pj_find 97 pj_m136.2.2.2.2.2.2 = some (.iload 4, 2) := by decide +kernel
theorem pr_136_99 : pj_find 99 pj_m136.2.2.2.2.2.2 = some (.invokestatic 86, 3) := by decide +kernel
theorem pr_136_102 : pj_find 102 pj_m136.2.2.2.2.2.2 = some (.iload_n 3, 1) := by decide +kernel
theorem pr_136_103 : pj_find 103 pj_m136.2.2.2.2.2.2 = some (.invokestatic 86, 3) := by decide +kernel
theorem pr_136_106 : pj_find 106 pj_m136.2.2.2.2.2.2 = some (.if_icmp .ge 8, 3) := by decide +kernel
theorem pr_136_109 : pj_find 109 pj_m136.2.2.2.2.2.2 = some (.iload 4, 2) := by decide +kernel
theorem pr_136_111 : pj_find 111 pj_m136.2.2.2.2.2.2 = some (.goto 4, 3) := by decide +kernel
theorem pr_136_114 : pj_find 114 pj_m136.2.2.2.2.2.2 = some (.iload_n 3, 1) := by decide +kernel
theorem pr_136_115 : pj_find 115 pj_m136.2.2.2.2.2.2 = some (.istore_n 3, 1) := by decide +kernel
theorem pr_136_116 : pj_find 116 pj_m136.2.2.2.2.2.2 = some (.iinc 4 1, 3) := by decide +kernel
theorem pr_136_119 : pj_find 119 pj_m136.2.2.2.2.2.2 = some (.goto (-91), 3) := by decide +kernel
theorem pr_136_122 : pj_find 122 pj_m136.2.2.2.2.2.2 = some (.iload_n 3, 1) := by decide +kernel
theorem pr_136_123 : pj_find 123 pj_m136.2.2.2.2.2.2 = some (.ifCond .lt 8, 3) := by decide +kernel
theorem pr_136_126 : pj_find 126 pj_m136.2.2.2.2.2.2 = some (.iload_n 2, 1) := by decide +kernel
theorem pr_136_127 : pj_find 127 pj_m136.2.2.2.2.2.2 = some (.iconst 1, 1) := by decide +kernel
theorem pr_136_128 : pj_find 128 pj_m136.2.2.2.2.2.2 = some (.if_icmp .ne 7, 3) := by decide +kernel
theorem pr_136_131 : pj_find 131 pj_m136.2.2.2.2.2.2 = some (.iload_n 3, 1) := by decide +kernel
theorem pr_136_132 : pj_find 132 pj_m136.2.2.2.2.2.2 = some (.goto 7, 3) := by decide +kernel
theorem pr_136_135 : pj_find 135 pj_m136.2.2.2.2.2.2 = some (.iload_n 3, 1) := by decide +kernel
theorem pr_136_136 : pj_find 136 pj_m136.2.2.2.2.2.2 = some (.invokestatic 86, 3) := by decide +kernel
theorem pr_136_139 : pj_find 139 pj_m136.2.2.2.2.2.2 = some (.ireturn, 1) := by decide +kernel
theorem pr_137_0 : pj_find 0 pj_m137.2.2.2.2.2.2 = some (.lconst 0, 1) := by decide +kernel
theorem pr_137_1 : pj_find 1 pj_m137.2.2.2.2.2.2 = some (.lstore_n 3, 1) := by decide +kernel
theorem pr_137_2 : pj_find 2 pj_m137.2.2.2.2.2.2 = some (.iconst 0, 1) := by decide +kernel
theorem pr_137_3 : pj_find 3 pj_m137.2.2.2.2.2.2 = some (.istore 5, 2) := by decide +kernel
theorem pr_137_5 : pj_find 5 pj_m137.2.2.2.2.2.2 = some (.iconst 1, 1) := by decide +kernel
theorem pr_137_6 : pj_find 6 pj_m137.2.2.2.2.2.2 = some (.istore 6, 2) := by decide +kernel
theorem pr_137_8 : pj_find 8 pj_m137.2.2.2.2.2.2 = some (.iconst 1, 1) := by decide +kernel
theorem pr_137_9 : pj_find 9 pj_m137.2.2.2.2.2.2 = some (.istore 7, 2) := by decide +kernel
theorem pr_137_11 : pj_find 11 pj_m137.2.2.2.2.2.2 = some (.iload 7, 2) := by decide +kernel
theorem pr_137_13 : pj_find 13 pj_m137.2.2.2.2.2.2 = some (.iload_n 2, 1) := by decide +kernel
theorem pr_137_14 : pj_find 14 pj_m137.2.2.2.2.2.2 = some (.if_icmp .ge 15, 3) := by decide +kernel
theorem pr_137_17 : pj_find 17 pj_m137.2.2.2.2.2.2 = some (.iload 6, 2) := by decide +kernel
theorem pr_137_19 : pj_find 19 pj_m137.2.2.2.2.2.2 = some (.iconst 5, 1) := by decide +kernel
theorem pr_137_20 : pj_find 20 pj_m137.2.2.2.2.2.2 = some (.imul, 1) := by decide +kernel
theorem pr_137_21 : pj_find 21 pj_m137.2.2.2.2.2.2 = some (.istore 6, 2) := by decide +kernel
theorem pr_137_23 : pj_find 23 pj_m137.2.2.2.2.2.2 = some (.iinc 7 1, 3) := by decide +kernel
theorem pr_137_26 : pj_find 26 pj_m137.2.2.2.2.2.2 = some (.goto (-15), 3) := by decide +kernel
theorem pr_137_29 : pj_find 29 pj_m137.2.2.2.2.2.2 = some (.iconst 0, 1) := by decide +kernel
theorem pr_137_30 : pj_find 30 pj_m137.2.2.2.2.2.2 = some (.istore 7, 2) := by decide +kernel
theorem pr_137_32 : pj_find 32 pj_m137.2.2.2.2.2.2 = some (.iload 7, 2) := by decide +kernel
theorem pr_137_34 : pj_find 34 pj_m137.2.2.2.2.2.2 = some (.iload_n 2, 1) := by decide +kernel
theorem pr_137_35 : pj_find 35 pj_m137.2.2.2.2.2.2 = some (.if_icmp .ge 118, 3) := by decide +kernel
theorem pr_137_38 : pj_find 38 pj_m137.2.2.2.2.2.2 = some (.iload_n 1, 1) := by decide +kernel
theorem pr_137_39 : pj_find 39 pj_m137.2.2.2.2.2.2 = some (.iload 6, 2) := by decide +kernel
theorem pr_137_41 : pj_find 41 pj_m137.2.2.2.2.2.2 = some (.idiv, 1) := by decide +kernel
theorem pr_137_42 : pj_find 42 pj_m137.2.2.2.2.2.2 = some (.iconst 5, 1) := by decide +kernel
theorem pr_137_43 : pj_find 43 pj_m137.2.2.2.2.2.2 = some (.irem, 1) := by decide +kernel
theorem pr_137_44 : pj_find 44 pj_m137.2.2.2.2.2.2 = some (.istore 8, 2) := by decide +kernel
theorem pr_137_46 : pj_find 46 pj_m137.2.2.2.2.2.2 = some (.iload 6, 2) := by decide +kernel
theorem pr_137_48 : pj_find 48 pj_m137.2.2.2.2.2.2 = some (.iconst 1, 1) := by decide +kernel
theorem pr_137_49 : pj_find 49 pj_m137.2.2.2.2.2.2 = some (.if_icmp .le 10, 3) := by decide +kernel
theorem pr_137_52 : pj_find 52 pj_m137.2.2.2.2.2.2 = some (.iload 6, 2) := by decide +kernel
theorem pr_137_54 : pj_find 54 pj_m137.2.2.2.2.2.2 = some (.iconst 5, 1) := by decide +kernel
theorem pr_137_55 : pj_find 55 pj_m137.2.2.2.2.2.2 = some (.idiv, 1) := by decide +kernel
theorem pr_137_56 : pj_find 56 pj_m137.2.2.2.2.2.2 = some (.goto 4, 3) := by decide +kernel
theorem pr_137_59 : pj_find 59 pj_m137.2.2.2.2.2.2 = some (.iconst 1, 1) := by decide +kernel
theorem pr_137_60 : pj_find 60 pj_m137.2.2.2.2.2.2 = some (.istore 6, 2) := by decide +kernel
theorem pr_137_62 : pj_find 62 pj_m137.2.2.2.2.2.2 = some (.iload 5, 2) := by decide +kernel
theorem pr_137_64 : pj_find 64 pj_m137.2.2.2.2.2.2 = some (.iload 8, 2) := by decide +kernel
theorem pr_137_66 : pj_find 66 pj_m137.2.2.2.2.2.2 = some (.invokestatic 63, 3) := by decide +kernel
theorem pr_137_69 : pj_find 69 pj_m137.2.2.2.2.2.2 = some (.ifCond .eq 7, 3) := by decide +kernel
theorem pr_137_72 : pj_find 72 pj_m137.2.2.2.2.2.2 = some (.ldc2_w 126, 3) := by decide +kernel
theorem pr_137_75 : pj_find 75 pj_m137.2.2.2.2.2.2 = some (.lreturn, 1) := by decide +kernel
theorem pr_137_76 : pj_find 76 pj_m137.2.2.2.2.2.2 = some (.iload 5, 2) := by decide +kernel
theorem pr_137_78 : pj_find 78 pj_m137.2.2.2.2.2.2 = some (.iconst 1, 1) := by decide +kernel
theorem pr_137_79 : pj_find 79 pj_m137.2.2.2.2.2.2 = some (.iload 8, 2) := by decide +kernel
theorem pr_137_81 : pj_find 81 pj_m137.2.2.2.2.2.2 = some (.ishl, 1) := by decide +kernel
theorem pr_137_82 : pj_find 82 pj_m137.2.2.2.2.2.2 = some (.ior, 1) := by decide +kernel
theorem pr_137_83 : pj_find 83 pj_m137.2.2.2.2.2.2 = some (.istore 5, 2) := by decide +kernel
theorem pr_137_85 : pj_find 85 pj_m137.2.2.2.2.2.2 = some (.iconst 0, 1) := by decide +kernel
theorem pr_137_86 : pj_find 86 pj_m137.2.2.2.2.2.2 = some (.istore 9, 2) := by decide +kernel
theorem pr_137_88 : pj_find 88 pj_m137.2.2.2.2.2.2 = some (.iload 9, 2) := by decide +kernel
theorem pr_137_90 : pj_find 90 pj_m137.2.2.2.2.2.2 = some (.bipush 16, 2) := by decide +kernel
theorem pr_137_92 : pj_find 92 pj_m137.2.2.2.2.2.2 = some (.if_icmp .ge 55, 3) := by decide +kernel
theorem pr_137_95 : pj_find 95 pj_m137.2.2.2.2.2.2 = some (.aload_n 0, 1) := by decide +kernel
theorem pr_137_96 : pj_find 96 pj_m137.2.2.2.2.2.2 = some (.getfield 7, 3) := by decide +kernel
theorem pr_137_99 : pj_find 99 pj_m137.2.2.2.2.2.2 = some (.bipush 16, 2) := by decide +kernel
theorem pr_137_101 : pj_find 101 pj_m137.2.2.2.2.2.2 = some (.iload 8, 2) := by decide +kernel
theorem pr_137_103 : pj_find 103 pj_m137.2.2.2.2.2.2 = some (.iadd, 1) := by decide +kernel
theorem pr_137_104 : pj_find 104 pj_m137.2.2.2.2.2.2 = some (.iaload, 1) := by decide +kernel
theorem pr_137_105 : pj_find 105 pj_m137.2.2.2.2.2.2 = some (.iload 9, 2) := by decide +kernel
theorem pr_137_107 : pj_find 107 pj_m137.2.2.2.2.2.2 = some (.invokestatic 63, 3) := by decide +kernel
theorem pr_137_110 : pj_find 110 pj_m137.2.2.2.2.2.2 = some (.ifCond .eq 31, 3) := by decide +kernel
theorem pr_137_113 : pj_find 113 pj_m137.2.2.2.2.2.2 = some (.lload_n 3, 1) := by decide +kernel
theorem pr_137_114 : pj_find 114 pj_m137.2.2.2.2.2.2 = some (.ldc2_w 128, 3) := by decide +kernel
theorem pr_137_117 : pj_find 117 pj_m137.2.2.2.2.2.2 = some (.iconst 3, 1) := by decide +kernel
theorem pr_137_118 : pj_find 118 pj_m137.2.2.2.2.2.2 = some (.iload 9, 2) := by decide +kernel
theorem pr_137_120 : pj_find 120 pj_m137.2.2.2.2.2.2 = some (.imul, 1) := by decide +kernel
theorem pr_137_121 : pj_find 121 pj_m137.2.2.2.2.2.2 = some (.lshl, 1) := by decide +kernel
theorem pr_137_122 : pj_find 122 pj_m137.2.2.2.2.2.2 = some (.ldc2_w 126, 3) := by decide +kernel
theorem pr_137_125 : pj_find 125 pj_m137.2.2.2.2.2.2 = some (.lxor, 1) := by decide +kernel
theorem pr_137_126 : pj_find 126 pj_m137.2.2.2.2.2.2 = some (.land, 1) := by decide +kernel
theorem pr_137_127 : pj_find 127 pj_m137.2.2.2.2.2.2 = some (.lstore_n 3, 1) := by decide +kernel
theorem pr_137_128 : pj_find 128 pj_m137.2.2.2.2.2.2 = some (.lload_n 3, 1) := by decide +kernel
theorem pr_137_129 : pj_find 129 pj_m137.2.2.2.2.2.2 = some (.iload 8, 2) := by decide +kernel
theorem pr_137_131 : pj_find 131 pj_m137.2.2.2.2.2.2 = some (.iconst 1, 1) := by decide +kernel
theorem pr_137_132 : pj_find 132 pj_m137.2.2.2.2.2.2 = some (.iadd, 1) := by decide +kernel
theorem pr_137_133 : pj_find 133 pj_m137.2.2.2.2.2.2 = some (.i2l, 1) := by decide +kernel
theorem pr_137_134 : pj_find 134 pj_m137.2.2.2.2.2.2 = some (.iconst 3, 1) := by decide +kernel
theorem pr_137_135 : pj_find 135 pj_m137.2.2.2.2.2.2 = some (.iload 9, 2) := by decide +kernel
theorem pr_137_137 : pj_find 137 pj_m137.2.2.2.2.2.2 = some (.imul, 1) := by decide +kernel
theorem pr_137_138 : pj_find 138 pj_m137.2.2.2.2.2.2 = some (.lshl, 1) := by decide +kernel
theorem pr_137_139 : pj_find 139 pj_m137.2.2.2.2.2.2 = some (.lor, 1) := by decide +kernel
theorem pr_137_140 : pj_find 140 pj_m137.2.2.2.2.2.2 = some (.lstore_n 3, 1) := by decide +kernel
theorem pr_137_141 : pj_find 141 pj_m137.2.2.2.2.2.2 = some (.iinc 9 1, 3) := by decide +kernel
theorem pr_137_144 : pj_find 144 pj_m137.2.2.2.2.2.2 = some (.goto (-56), 3) := by decide +kernel
theorem pr_137_147 : pj_find 147 pj_m137.2.2.2.2.2.2 = some (.iinc 7 1, 3) := by decide +kernel
theorem pr_137_150 : pj_find 150 pj_m137.2.2.2.2.2.2 = some (.goto (-118), 3) := by decide +kernel
theorem pr_137_153 : pj_find 153 pj_m137.2.2.2.2.2.2 = some (.lload_n 3, 1) := by decide +kernel
theorem pr_137_154 : pj_find 154 pj_m137.2.2.2.2.2.2 = some (.lreturn, 1) := by decide +kernel
theorem pr_138_0 : pj_find 0 pj_m138.2.2.2.2.2.2 = some (.iconst 1, 1) := by decide +kernel
theorem pr_138_1 : pj_find 1 pj_m138.2.2.2.2.2.2 = some (.istore_n 1, 1) := by decide +kernel
theorem pr_138_2 : pj_find 2 pj_m138.2.2.2.2.2.2 = some (.iconst 0, 1) := by decide +kernel
theorem pr_138_3 : pj_find 3 pj_m138.2.2.2.2.2.2 = some (.istore_n 2, 1) := by decide +kernel
theorem pr_138_4 : pj_find 4 pj_m138.2.2.2.2.2.2 = some (.iload_n 2, 1) := by decide +kernel
theorem pr_138_5 : pj_find 5 pj_m138.2.2.2.2.2.2 = some (.iload_n 0, 1) := by decide +kernel
theorem pr_138_6 : pj_find 6 pj_m138.2.2.2.2.2.2 = some (.if_icmp .ge 13, 3) := by decide +kernel
theorem pr_138_9 : pj_find 9 pj_m138.2.2.2.2.2.2 = some (.iload_n 1, 1) := by decide +kernel
theorem pr_138_10 : pj_find 10 pj_m138.2.2.2.2.2.2 = some (.iconst 5, 1) := by decide +kernel
theorem pr_138_11 : pj_find 11 pj_m138.2.2.2.2.2.2 = some (.imul, 1) := by decide +kernel
theorem pr_138_12 : pj_find 12 pj_m138.2.2.2.2.2.2 = some (.istore_n 1, 1) := by decide +kernel
theorem pr_138_13 : pj_find 13 pj_m138.2.2.2.2.2.2 = some (.iinc 2 1, 3) := by decide +kernel
theorem pr_138_16 : pj_find 16 pj_m138.2.2.2.2.2.2 = some (.goto (-12), 3) := by decide +kernel
theorem pr_138_19 : pj_find 19 pj_m138.2.2.2.2.2.2 = some (.iload_n 1, 1) := by decide +kernel
theorem pr_138_20 : pj_find 20 pj_m138.2.2.2.2.2.2 = some (.ireturn, 1) := by decide +kernel
theorem pr_139_0 : pj_find 0 pj_m139.2.2.2.2.2.2 = some (.iconst 0, 1) := by decide +kernel
theorem pr_139_1 : pj_find 1 pj_m139.2.2.2.2.2.2 = some (.istore_n 1, 1) := by decide +kernel
theorem pr_139_2 : pj_find 2 pj_m139.2.2.2.2.2.2 = some (.iconst 0, 1) := by decide +kernel
theorem pr_139_3 : pj_find 3 pj_m139.2.2.2.2.2.2 = some (.istore_n 2, 1) := by decide +kernel
theorem pr_139_4 : pj_find 4 pj_m139.2.2.2.2.2.2 = some (.iload_n 2, 1) := by decide +kernel
theorem pr_139_5 : pj_find 5 pj_m139.2.2.2.2.2.2 = some (.bipush 6, 2) := by decide +kernel
theorem pr_139_7 : pj_find 7 pj_m139.2.2.2.2.2.2 = some (.if_icmp .ge 103, 3) := by decide +kernel
theorem pr_139_10 : pj_find 10 pj_m139.2.2.2.2.2.2 = some (.iconst 0, 1) := by decide +kernel
theorem pr_139_11 : pj_find 11 pj_m139.2.2.2.2.2.2 = some (.istore_n 3, 1) := by decide +kernel
theorem pr_139_12 : pj_find 12 pj_m139.2.2.2.2.2.2 = some (.iload_n 3, 1) := by decide +kernel
theorem pr_139_13 : pj_find 13 pj_m139.2.2.2.2.2.2 = some (.iload_n 2, 1) := by decide +kernel
theorem pr_139_14 : pj_find 14 pj_m139.2.2.2.2.2.2 = some (.invokestatic 130, 3) := by decide +kernel
theorem pr_139_17 : pj_find 17 pj_m139.2.2.2.2.2.2 = some (.if_icmp .ge 87, 3) := by decide +kernel
theorem pr_139_20 : pj_find 20 pj_m139.2.2.2.2.2.2 = some (.aload_n 0, 1) := by decide +kernel
theorem pr_139_21 : pj_find 21 pj_m139.2.2.2.2.2.2 = some (.iload_n 3, 1) := by decide +kernel
theorem pr_139_22 : pj_find 22 pj_m139.2.2.2.2.2.2 = some (.iload_n 2, 1) := by decide +kernel
theorem pr_139_23 : pj_find 23 pj_m139.2.2.2.2.2.2 = some (.invokevirtual 133, 3) := by decide +kernel
theorem pr_139_26 : pj_find 26 pj_m139.2.2.2.2.2.2 = some (.lstore 4, 2) := by decide +kernel
theorem pr_139_28 : pj_find 28 pj_m139.2.2.2.2.2.2 = some (.lload 4, 2) := by decide +kernel
theorem pr_139_30 : pj_find 30 pj_m139.2.2.2.2.2.2 = some (.lconst 0, 1) := by decide +kernel
theorem pr_139_31 : pj_find 31 pj_m139.2.2.2.2.2.2 = some (.lcmp, 1) := by decide +kernel
theorem pr_139_32 : pj_find 32 pj_m139.2.2.2.2.2.2 = some (.ifCond .lt 7, 3) := by decide +kernel
theorem pr_139_35 : pj_find 35 pj_m139.2.2.2.2.2.2 = some (.iconst 1, 1) := by decide +kernel
theorem pr_139_36 : pj_find 36 pj_m139.2.2.2.2.2.2 = some (.goto 4, 3) := by decide +kernel
theorem pr_139_39 : pj_find 39 pj_m139.2.2.2.2.2.2 = some (.iconst 0, 1) := by decide +kernel
theorem pr_139_40 : pj_find 40 pj_m139.2.2.2.2.2.2 = some (.istore 6, 2) := by decide +kernel
theorem pr_139_42 : pj_find 42 pj_m139.2.2.2.2.2.2 = some (.iconst 0, 1) := by decide +kernel
theorem pr_139_43 : pj_find 43 pj_m139.2.2.2.2.2.2 = some (.istore 7, 2) := by decide +kernel
theorem pr_139_45 : pj_find 45 pj_m139.2.2.2.2.2.2 = some (.iload 7, 2) := by decide +kernel
theorem pr_139_47 : pj_find 47 pj_m139.2.2.2.2.2.2 = some (.iload_n 1, 1) := by decide +kernel
theorem pr_139_48 : pj_find 48 pj_m139.2.2.2.2.2.2 = some (.if_icmp .ge 34, 3) := by decide +kernel
theorem pr_139_51 : pj_find 51 pj_m139.2.2.2.2.2.2 = some (.iload 6, 2) := by decide +kernel
theorem pr_139_53 : pj_find 53 pj_m139.2.2.2.2.2.2 = some (.ifCond .eq 29, 3) := by decide +kernel
theorem pr_139_56 : pj_find 56 pj_m139.2.2.2.2.2.2 = some (.aload_n 0, 1) := by decide +kernel
theorem pr_139_57 : pj_find 57 pj_m139.2.2.2.2.2.2 = some (.getfield 22, 3) := by decide +kernel
theorem pr_139_60 : pj_find 60 pj_m139.2.2.2.2.2.2 = some (.iload 7, 2) := by decide +kernel
theorem pr_139_62 : pj_find 62 pj_m139.2.2.2.2.2.2 = some (.laload, 1) := by decide +kernel
theorem pr_139_63 : pj_find 63 pj_m139.2.2.2.2.2.2 = some (.lload 4, 2) := by decide +kernel
theorem pr_139_65 : pj_find 65 pj_m139.2.2.2.2.2.2 = some (.lcmp, 1) := by decide +kernel
theorem pr_139_66 : pj_find 66 pj_m139.2.2.2.2.2.2 = some (.ifCond .eq 7, 3) := by decide +kernel
theorem pr_139_69 : pj_find 69 pj_m139.2.2.2.2.2.2 = some (.iconst 1, 1) := by decide +kernel
theorem pr_139_70 : pj_find 70 pj_m139.2.2.2.2.2.2 = some (.goto 4, 3) := by decide +kernel
theorem pr_139_73 : pj_find 73 pj_m139.2.2.2.2.2.2 = some (.iconst 0, 1) := by decide +kernel
theorem pr_139_74 : pj_find 74 pj_m139.2.2.2.2.2.2 = some (.istore 6, 2) := by decide +kernel
theorem pr_139_76 : pj_find 76 pj_m139.2.2.2.2.2.2 = some (.iinc 7 1, 3) := by decide +kernel
theorem pr_139_79 : pj_find 79 pj_m139.2.2.2.2.2.2 = some (.goto (-34), 3) := by decide +kernel
theorem pr_139_82 : pj_find 82 pj_m139.2.2.2.2.2.2 = some (.iload 6, 2) := by decide +kernel
theorem pr_139_84 : pj_find 84 pj_m139.2.2.2.2.2.2 = some (.ifCond .eq 14, 3) := by decide +kernel
theorem pr_139_87 : pj_find 87 pj_m139.2.2.2.2.2.2 = some (.aload_n 0, 1) := by decide +kernel
theorem pr_139_88 : pj_find 88 pj_m139.2.2.2.2.2.2 = some (.getfield 22, 3) := by decide +kernel
theorem pr_139_91 : pj_find 91 pj_m139.2.2.2.2.2.2 = some (.iload_n 1, 1) := by decide +kernel
theorem pr_139_92 : pj_find 92 pj_m139.2.2.2.2.2.2 = some (.lload 4, 2) := by decide +kernel
theorem pr_139_94 : pj_find 94 pj_m139.2.2.2.2.2.2 = some (.lastore, 1) := by decide +kernel
theorem pr_139_95 : pj_find 95 pj_m139.2.2.2.2.2.2 = some (.iinc 1 1, 3) := by decide +kernel
theorem pr_139_98 : pj_find 98 pj_m139.2.2.2.2.2.2 = some (.iinc 3 1, 3) := by decide +kernel
theorem pr_139_101 : pj_find 101 pj_m139.2.2.2.2.2.2 = some (.goto (-89), 3) := by decide +kernel
theorem pr_139_104 : pj_find 104 pj_m139.2.2.2.2.2.2 = some (.iinc 2 1, 3) := by decide +kernel
theorem pr_139_107 : pj_find 107 pj_m139.2.2.2.2.2.2 = some (.goto (-103), 3) := by decide +kernel
theorem pr_139_110 : pj_find 110 pj_m139.2.2.2.2.2.2 = some (.iload_n 1, 1) := by decide +kernel
theorem pr_139_111 : pj_find 111 pj_m139.2.2.2.2.2.2 = some (.ireturn, 1) := by decide +kernel
theorem pr_140_0 : pj_find 0 pj_m140.2.2.2.2.2.2 = some (.iload_n 1, 1) := by decide +kernel
theorem pr_140_1 : pj_find 1 pj_m140.2.2.2.2.2.2 = some (.iconst 0, 1) := by decide +kernel
theorem pr_140_2 : pj_find 2 pj_m140.2.2.2.2.2.2 = some (.iconst 1, 1) := by decide +kernel
theorem pr_140_3 : pj_find 3 pj_m140.2.2.2.2.2.2 = some (.invokestatic 39, 3) := by decide +kernel
theorem pr_140_6 : pj_find 6 pj_m140.2.2.2.2.2.2 = some (.ifCond .ne 6, 3) := by decide +kernel
theorem pr_140_9 : pj_find 9 pj_m140.2.2.2.2.2.2 = some (.bipush (-2), 2) := by decide +kernel
theorem pr_140_11 : pj_find 11 pj_m140.2.2.2.2.2.2 = some (.ireturn, 1) := by decide +kernel
theorem pr_140_12 : pj_find 12 pj_m140.2.2.2.2.2.2 = some (.lconst 0, 1) := by decide +kernel
theorem pr_140_13 : pj_find 13 pj_m140.2.2.2.2.2.2 = some (.lstore_n 2, 1) := by decide +kernel
theorem pr_140_14 : pj_find 14 pj_m140.2.2.2.2.2.2 = some (.iconst 0, 1) := by decide +kernel
theorem pr_140_15 : pj_find 15 pj_m140.2.2.2.2.2.2 = some (.istore 4, 2) := by decide +kernel
theorem pr_140_17 : pj_find 17 pj_m140.2.2.2.2.2.2 = some (.iload 4, 2) := by decide +kernel
theorem pr_140_19 : pj_find 19 pj_m140.2.2.2.2.2.2 = some (.bipush 16, 2) := by decide +kernel
theorem pr_140_21 : pj_find 21 pj_m140.2.2.2.2.2.2 = some (.if_icmp .ge 25, 3) := by decide +kernel
theorem pr_140_24 : pj_find 24 pj_m140.2.2.2.2.2.2 = some (.lload_n 2, 1) := by decide +kernel
theorem pr_140_25 : pj_find 25 pj_m140.2.2.2.2.2.2 = some (.aload_n 0, 1) := by decide +kernel
theorem pr_140_26 : pj_find 26 pj_m140.2.2.2.2.2.2 = some (.getfield 7, 3) := by decide +kernel
theorem pr_140_29 : pj_find 29 pj_m140.2.2.2.2.2.2 = some (.iload 4, 2) := by decide +kernel
theorem pr_140_31 : pj_find 31 pj_m140.2.2.2.2.2.2 = some (.iaload, 1) := by decide +kernel
theorem pr_140_32 : pj_find 32 pj_m140.2.2.2.2.2.2 = some (.i2l, 1) := by decide +kernel
theorem pr_140_33 : pj_find 33 pj_m140.2.2.2.2.2.2 = some (.iconst 3, 1) := by decide +kernel
theorem pr_140_34 : pj_find 34 pj_m140.2.2.2.2.2.2 = some (.iload 4, 2) := by decide +kernel
theorem pr_140_36 : pj_find 36 pj_m140.2.2.2.2.2.2 = some (.imul, 1) := by decide +kernel
theorem pr_140_37 : pj_find 37 pj_m140.2.2.2.2.2.2 = some (.lshl, 1) := by decide +kernel
theorem pr_140_38 : pj_find 38 pj_m140.2.2.2.2.2.2 = some (.lor, 1) := by decide +kernel
theorem pr_140_39 : pj_find 39 pj_m140.2.2.2.2.2.2 = some (.lstore_n 2, 1) := by decide +kernel
theorem pr_140_40 : pj_find 40 pj_m140.2.2.2.2.2.2 = some (.iinc 4 1, 3) := by decide +kernel
theorem pr_140_43 : pj_find 43 pj_m140.2.2.2.2.2.2 = some (.goto (-26), 3) := by decide +kernel
theorem pr_140_46 : pj_find 46 pj_m140.2.2.2.2.2.2 = some (.iconst 0, 1) := by decide +kernel
theorem pr_140_47 : pj_find 47 pj_m140.2.2.2.2.2.2 = some (.istore 4, 2) := by decide +kernel
theorem pr_140_49 : pj_find 49 pj_m140.2.2.2.2.2.2 = some (.iload 4, 2) := by decide +kernel
theorem pr_140_51 : pj_find 51 pj_m140.2.2.2.2.2.2 = some (.bipush 6, 2) := by decide +kernel
theorem pr_140_53 : pj_find 53 pj_m140.2.2.2.2.2.2 = some (.if_icmp .ge 58, 3) := by decide +kernel
theorem pr_140_56 : pj_find 56 pj_m140.2.2.2.2.2.2 = some (.iconst 0, 1) := by decide +kernel
theorem pr_140_57 : pj_find 57 pj_m140.2.2.2.2.2.2 = some (.istore 5, 2) := by decide +kernel
theorem pr_140_59 : pj_find 59 pj_m140.2.2.2.2.2.2 = some (.iload 5, 2) := by decide +kernel
theorem pr_140_61 : pj_find 61 pj_m140.2.2.2.2.2.2 = some (.iload 4, 2) := by decide +kernel
theorem pr_140_63 : pj_find 63 pj_m140.2.2.2.2.2.2 = some (.invokestatic 130, 3) := by decide +kernel
theorem pr_140_66 : pj_find 66 pj_m140.2.2.2.2.2.2 = some (.if_icmp .ge 39, 3) := by decide +kernel
theorem pr_140_69 : pj_find 69 pj_m140.2.2.2.2.2.2 = some (.aload_n 0, 1) := by decide +kernel
theorem pr_140_70 : pj_find 70 pj_m140.2.2.2.2.2.2 = some (.iload 5, 2) := by decide +kernel
theorem pr_140_72 : pj_find 72 pj_m140.2.2.2.2.2.2 = some (.iload 4, 2) := by decide +kernel
theorem pr_140_74 : pj_find 74 pj_m140.2.2.2.2.2.2 = some (.invokevirtual 133, 3) := by decide +kernel
theorem pr_140_77 : pj_find 77 pj_m140.2.2.2.2.2.2 = some (.lload_n 2, 1) := by decide +kernel
theorem pr_140_78 : pj_find 78 pj_m140.2.2.2.2.2.2 = some (.lcmp, 1) := by decide +kernel
theorem pr_140_79 : pj_find 79 pj_m140.2.2.2.2.2.2 = some (.ifCond .ne 20, 3) := by decide +kernel
theorem pr_140_82 : pj_find 82 pj_m140.2.2.2.2.2.2 = some (.iload_n 1, 1) := by decide +kernel
theorem pr_140_83 : pj_find 83 pj_m140.2.2.2.2.2.2 = some (.ifCond .ne 8, 3) := by decide +kernel
theorem pr_140_86 : pj_find 86 pj_m140.2.2.2.2.2.2 = some (.iload 4, 2) := by decide +kernel
theorem pr_140_88 : pj_find 88 pj_m140.2.2.2.2.2.2 = some (.goto 10, 3) := by decide +kernel
theorem pr_140_91 : pj_find 91 pj_m140.2.2.2.2.2.2 = some (.iload 5, 2) := by decide +kernel
theorem pr_140_93 : pj_find 93 pj_m140.2.2.2.2.2.2 = some (.iload 4, 2) := by decide +kernel
theorem pr_140_95 : pj_find 95 pj_m140.2.2.2.2.2.2 = some (.invokestatic 137, 3) := by decide +kernel
theorem pr_140_98 : pj_find 98 pj_m140.2.2.2.2.2.2 = some (.ireturn, 1) := by decide +kernel
theorem pr_140_99 : pj_find 99 pj_m140.2.2.2.2.2.2 = some (.iinc 5 1, 3) := by decide +kernel
theorem pr_140_102 : pj_find 102 pj_m140.2.2.2.2.2.2 = some (.goto (-43), 3) := by decide +kernel
theorem pr_140_105 : pj_find 105 pj_m140.2.2.2.2.2.2 = some (.iinc 4 1, 3) := by decide +kernel
theorem pr_140_108 : pj_find 108 pj_m140.2.2.2.2.2.2 = some (.goto (-59), 3) := by decide +kernel
theorem pr_140_111 : pj_find 111 pj_m140.2.2.2.2.2.2 = some (.bipush (-6), 2) := by decide +kernel
theorem pr_140_113 : pj_find 113 pj_m140.2.2.2.2.2.2 = some (.ireturn, 1) := by decide +kernel
theorem pr_141_0 : pj_find 0 pj_m141.2.2.2.2.2.2 = some (.iconst 0, 1) := by decide +kernel
theorem pr_141_1 : pj_find 1 pj_m141.2.2.2.2.2.2 = some (.istore_n 2, 1) := by decide +kernel
theorem pr_141_2 : pj_find 2 pj_m141.2.2.2.2.2.2 = some (.iconst 1, 1) := by decide +kernel
theorem pr_141_3 : pj_find 3 pj_m141.2.2.2.2.2.2 = some (.istore_n 3, 1) := by decide +kernel
theorem pr_141_4 : pj_find 4 pj_m141.2.2.2.2.2.2 = some (.iload_n 0, 1) := by decide +kernel
theorem pr_141_5 : pj_find 5 pj_m141.2.2.2.2.2.2 = some (.istore 4, 2) := by decide +kernel
theorem pr_141_7 : pj_find 7 pj_m141.2.2.2.2.2.2 = some (.iconst 0, 1) := by decide +kernel
theorem pr_141_8 : pj_find 8 pj_m141.2.2.2.2.2.2 = some (.istore 5, 2) := by decide +kernel
theorem pr_141_10 : pj_find 10 pj_m141.2.2.2.2.2.2 = some (.iload 5, 2) := by decide +kernel
theorem pr_141_12 : pj_find 12 pj_m141.2.2.2.2.2.2 = some (.iload_n 1, 1) := by decide +kernel
theorem pr_141_13 : pj_find 13 pj_m141.2.2.2.2.2.2 = some (.if_icmp .ge 29, 3) := by decide +kernel
theorem pr_141_16 : pj_find 16 pj_m141.2.2.2.2.2.2 = some (.iload_n 2, 1) := by decide +kernel
theorem pr_141_17 : pj_find 17 pj_m141.2.2.2.2.2.2 = some (.iload_n 3, 1) := by decide +kernel
theorem pr_141_18 : pj_find 18 pj_m141.2.2.2.2.2.2 = some (.iload 4, 2) := by decide +kernel
theorem pr_141_20 : pj_find 20 pj_m141.2.2.2.2.2.2 = some (.iconst 5, 1) := by decide +kernel
theorem pr_141_21 : pj_find 21 pj_m141.2.2.2.2.2.2 = some (.irem, 1) := by decide +kernel
theorem pr_141_22 : pj_find 22 pj_m141.2.2.2.2.2.2 = some (.imul, 1) := by decide +kernel
theorem pr_141_23 : pj_find 23 pj_m141.2.2.2.2.2.2 = some (.iadd, 1) := by decide +kernel
theorem pr_141_24 : pj_find 24 pj_m141.2.2.2.2.2.2 = some (.istore_n 2, 1) := by decide +kernel
theorem pr_141_25 : pj_find 25 pj_m141.2.2.2.2.2.2 = some (.iload 4, 2) := by decide +kernel
theorem pr_141_27 : pj_find 27 pj_m141.2.2.2.2.2.2 = some (.iconst 5, 1) := by decide +kernel
theorem pr_141_28 : pj_find 28 pj_m141.2.2.2.2.2.2 = some (.idiv, 1) := by decide +kernel
theorem pr_141_29 : pj_find 29 pj_m141.2.2.2.2.2.2 = some (.istore 4, 2) := by decide +kernel
theorem pr_141_31 : pj_find 31 pj_m141.2.2.2.2.2.2 = some (.iload_n 3, 1) := by decide +kernel
theorem pr_141_32 : pj_find 32 pj_m141.2.2.2.2.2.2 = some (.bipush 10, 2) := by decide +kernel
theorem pr_141_34 : pj_find 34 pj_m141.2.2.2.2.2.2 = some (.imul, 1) := by decide +kernel
theorem pr_141_35 : pj_find 35 pj_m141.2.2.2.2.2.2 = some (.istore_n 3, 1) := by decide +kernel
theorem pr_141_36 : pj_find 36 pj_m141.2.2.2.2.2.2 = some (.iinc 5 1, 3) := by decide +kernel
theorem pr_141_39 : pj_find 39 pj_m141.2.2.2.2.2.2 = some (.goto (-29), 3) := by decide +kernel
theorem pr_141_42 : pj_find 42 pj_m141.2.2.2.2.2.2 = some (.iload_n 3, 1) := by decide +kernel
theorem pr_141_43 : pj_find 43 pj_m141.2.2.2.2.2.2 = some (.iload_n 2, 1) := by decide +kernel
theorem pr_141_44 : pj_find 44 pj_m141.2.2.2.2.2.2 = some (.iadd, 1) := by decide +kernel
theorem pr_141_45 : pj_find 45 pj_m141.2.2.2.2.2.2 = some (.ireturn, 1) := by decide +kernel
theorem pr_142_0 : pj_find 0 pj_m142.2.2.2.2.2.2 = some (.iload_n 1, 1) := by decide +kernel
theorem pr_142_1 : pj_find 1 pj_m142.2.2.2.2.2.2 = some (.invokestatic 43, 3) := by decide +kernel
theorem pr_142_4 : pj_find 4 pj_m142.2.2.2.2.2.2 = some (.ifCond .ne 5, 3) := by decide +kernel
theorem pr_142_7 : pj_find 7 pj_m142.2.2.2.2.2.2 = some (.iconst (-1), 1) := by decide +kernel
theorem pr_142_8 : pj_find 8 pj_m142.2.2.2.2.2.2 = some (.ireturn, 1) := by decide +kernel
theorem pr_142_9 : pj_find 9 pj_m142.2.2.2.2.2.2 = some (.aload_n 0, 1) := by decide +kernel
theorem pr_142_10 : pj_find 10 pj_m142.2.2.2.2.2.2 = some (.getfield 140, 3) := by decide +kernel
theorem pr_142_13 : pj_find 13 pj_m142.2.2.2.2.2.2 = some (.bipush 8, 2) := by decide +kernel
theorem pr_142_15 : pj_find 15 pj_m142.2.2.2.2.2.2 = some (.if_icmp .ne 6, 3) := by decide +kernel
theorem pr_142_18 : pj_find 18 pj_m142.2.2.2.2.2.2 = some (.bipush (-4), 2) := by decide +kernel
theorem pr_142_20 : pj_find 20 pj_m142.2.2.2.2.2.2 = some (.ireturn, 1) := by decide +kernel
theorem pr_142_21 : pj_find 21 pj_m142.2.2.2.2.2.2 = some (.aload_n 0, 1) := by decide +kernel
theorem pr_142_22 : pj_find 22 pj_m142.2.2.2.2.2.2 = some (.getfield 16, 3) := by decide +kernel
theorem pr_142_25 : pj_find 25 pj_m142.2.2.2.2.2.2 = some (.iconst 2, 1) := by decide +kernel
theorem pr_142_26 : pj_find 26 pj_m142.2.2.2.2.2.2 = some (.aload_n 0, 1) := by decide +kernel
theorem pr_142_27 : pj_find 27 pj_m142.2.2.2.2.2.2 = some (.getfield 140, 3) := by decide +kernel
theorem pr_142_30 : pj_find 30 pj_m142.2.2.2.2.2.2 = some (.imul, 1) := by decide +kernel
theorem pr_142_31 : pj_find 31 pj_m142.2.2.2.2.2.2 = some (.iload_n 1, 1) := by decide +kernel
theorem pr_142_32 : pj_find 32 pj_m142.2.2.2.2.2.2 = some (.iastore, 1) := by decide +kernel
theorem pr_142_33 : pj_find 33 pj_m142.2.2.2.2.2.2 = some (.aload_n 0, 1) := by decide +kernel
theorem pr_142_34 : pj_find 34 pj_m142.2.2.2.2.2.2 = some (.getfield 16, 3) := by decide +kernel
theorem pr_142_37 : pj_find 37 pj_m142.2.2.2.2.2.2 = some (.iconst 2, 1) := by decide +kernel
theorem pr_142_38 : pj_find 38 pj_m142.2.2.2.2.2.2 = some (.aload_n 0, 1) := by decide +kernel
theorem pr_142_39 : pj_find 39 pj_m142.2.2.2.2.2.2 = some (.getfield 140, 3) := by decide +kernel
theorem pr_142_42 : pj_find 42 pj_m142.2.2.2.2.2.2 = some (.imul, 1) := by decide +kernel
theorem pr_142_43 : pj_find 43 pj_m142.2.2.2.2.2.2 = some (.iconst 1, 1) := by decide +kernel
theorem pr_142_44 : pj_find 44 pj_m142.2.2.2.2.2.2 = some (.iadd, 1) := by decide +kernel
theorem pr_142_45 : pj_find 45 pj_m142.2.2.2.2.2.2 = some (.iload_n 2, 1) := by decide +kernel
theorem pr_142_46 : pj_find 46 pj_m142.2.2.2.2.2.2 = some (.ifCond .eq 7, 3) := by decide +kernel
theorem pr_142_49 : pj_find 49 pj_m142.2.2.2.2.2.2 = some (.iconst 1, 1) := by decide +kernel
theorem pr_142_50 : pj_find 50 pj_m142.2.2.2.2.2.2 = some (.goto 4, 3) := by decide +kernel
theorem pr_142_53 : pj_find 53 pj_m142.2.2.2.2.2.2 = some (.iconst 0, 1) := by decide +kernel
theorem pr_142_54 : pj_find 54 pj_m142.2.2.2.2.2.2 = some (.iastore, 1) := by decide +kernel
theorem pr_142_55 : pj_find 55 pj_m142.2.2.2.2.2.2 = some (.aload_n 0, 1) := by decide +kernel
theorem pr_142_56 : pj_find 56 pj_m142.2.2.2.2.2.2 = some (.dup, 1) := by decide +kernel
theorem pr_142_57 : pj_find 57 pj_m142.2.2.2.2.2.2 = some (.getfield 140, 3) := by decide +kernel
theorem pr_142_60 : pj_find 60 pj_m142.2.2.2.2.2.2 = some (.iconst 1, 1) := by decide +kernel
theorem pr_142_61 : pj_find 61 pj_m142.2.2.2.2.2.2 = some (.iadd, 1) := by decide +kernel
theorem pr_142_62 : pj_find 62 pj_m142.2.2.2.2.2.2 = some (.putfield 140, 3) := by decide +kernel
theorem pr_142_65 : pj_find 65 pj_m142.2.2.2.2.2.2 = some (.aload_n 0, 1) := by decide +kernel
theorem pr_142_66 : pj_find 66 pj_m142.2.2.2.2.2.2 = some (.getfield 140, 3) := by decide +kernel
theorem pr_142_69 : pj_find 69 pj_m142.2.2.2.2.2.2 = some (.ireturn, 1) := by decide +kernel
theorem pr_143_0 : pj_find 0 pj_m143.2.2.2.2.2.2 = some (.aload_n 0, 1) := by decide +kernel
theorem pr_143_1 : pj_find 1 pj_m143.2.2.2.2.2.2 = some (.getfield 140, 3) := by decide +kernel
theorem pr_143_4 : pj_find 4 pj_m143.2.2.2.2.2.2 = some (.istore_n 1, 1) := by decide +kernel
theorem pr_143_5 : pj_find 5 pj_m143.2.2.2.2.2.2 = some (.aload_n 0, 1) := by decide +kernel
theorem pr_143_6 : pj_find 6 pj_m143.2.2.2.2.2.2 = some (.iconst 0, 1) := by decide +kernel
theorem pr_143_7 : pj_find 7 pj_m143.2.2.2.2.2.2 = some (.putfield 140, 3) := by decide +kernel
theorem pr_143_10 : pj_find 10 pj_m143.2.2.2.2.2.2 = some (.iload_n 1, 1) := by decide +kernel
theorem pr_143_11 : pj_find 11 pj_m143.2.2.2.2.2.2 = some (.ireturn, 1) := by decide +kernel
theorem pr_144_0 : pj_find 0 pj_m144.2.2.2.2.2.2 = some (.aload_n 0, 1) := by decide +kernel
theorem pr_144_1 : pj_find 1 pj_m144.2.2.2.2.2.2 = some (.getfield 7, 3) := by decide +kernel
theorem pr_144_4 : pj_find 4 pj_m144.2.2.2.2.2.2 = some (.bipush 16, 2) := by decide +kernel
theorem pr_144_6 : pj_find 6 pj_m144.2.2.2.2.2.2 = some (.iload_n 1, 1) := by decide +kernel
theorem pr_144_7 : pj_find 7 pj_m144.2.2.2.2.2.2 = some (.bipush 10, 2) := by decide +kernel
theorem pr_144_9 : pj_find 9 pj_m144.2.2.2.2.2.2 = some (.idiv, 1) := by decide +kernel
theorem pr_144_10 : pj_find 10 pj_m144.2.2.2.2.2.2 = some (.iadd, 1) := by decide +kernel
theorem pr_144_11 : pj_find 11 pj_m144.2.2.2.2.2.2 = some (.iaload, 1) := by decide +kernel
theorem pr_144_12 : pj_find 12 pj_m144.2.2.2.2.2.2 = some (.iload_n 1, 1) := by decide +kernel
theorem pr_144_13 : pj_find 13 pj_m144.2.2.2.2.2.2 = some (.bipush 10, 2) := by decide +kernel
theorem pr_144_15 : pj_find 15 pj_m144.2.2.2.2.2.2 = some (.irem, 1) := by decide +kernel
theorem pr_144_16 : pj_find 16 pj_m144.2.2.2.2.2.2 = some (.invokestatic 74, 3) := by decide +kernel
theorem pr_144_19 : pj_find 19 pj_m144.2.2.2.2.2.2 = some (.ireturn, 1) := by decide +kernel
theorem pr_145_0 : pj_find 0 pj_m145.2.2.2.2.2.2 = some (.iload_n 1, 1) := by decide +kernel
theorem pr_145_1 : pj_find 1 pj_m145.2.2.2.2.2.2 = some (.bipush 10, 2) := by decide +kernel
theorem pr_145_3 : pj_find 3 pj_m145.2.2.2.2.2.2 = some (.irem, 1) := by decide +kernel
theorem pr_145_4 : pj_find 4 pj_m145.2.2.2.2.2.2 = some (.iconst 4, 1) := by decide +kernel
theorem pr_145_5 : pj_find 5 pj_m145.2.2.2.2.2.2 = some (.if_icmp .ge 7, 3) := by decide +kernel
theorem pr_145_8 : pj_find 8 pj_m145.2.2.2.2.2.2 = some (.iconst 1, 1) := by decide +kernel
theorem pr_145_9 : pj_find 9 pj_m145.2.2.2.2.2.2 = some (.goto 4, 3) := by decide +kernel
theorem pr_145_12 : pj_find 12 pj_m145.2.2.2.2.2.2 = some (.iconst 0, 1) := by decide +kernel
theorem pr_145_13 : pj_find 13 pj_m145.2.2.2.2.2.2 = some (.istore_n 2, 1) := by decide +kernel
theorem pr_145_14 : pj_find 14 pj_m145.2.2.2.2.2.2 = some (.iconst 0, 1) := by decide +kernel
theorem pr_145_15 : pj_find 15 pj_m145.2.2.2.2.2.2 = some (.istore_n 3, 1) := by decide +kernel
theorem pr_145_16 : pj_find 16 pj_m145.2.2.2.2.2.2 = some (.iload_n 3, 1) := by decide +kernel
theorem pr_145_17 : pj_find 17 pj_m145.2.2.2.2.2.2 = some (.aload_n 0, 1) := by decide +kernel
theorem pr_145_18 : pj_find 18 pj_m145.2.2.2.2.2.2 = some (.getfield 140, 3) := by decide +kernel
theorem pr_145_21 : pj_find 21 pj_m145.2.2.2.2.2.2 = some (.if_icmp .ge 57, 3) := by decide +kernel
theorem pr_145_24 : pj_find 24 pj_m145.2.2.2.2.2.2 = some (.iload_n 2, 1) := by decide +kernel
theorem pr_145_25 : pj_find 25 pj_m145.2.2.2.2.2.2 = some (.ifCond .eq 53, 3) := by decide +kernel
theorem pr_145_28 : pj_find 28 pj_m145.2.2.2.2.2.2 = some (.aload_n 0, 1) := by decide +kernel
theorem pr_145_29 : pj_find 29 pj_m145.2.2.2.2.2.2 = some (.iload_n 1, 1) := by decide +kernel
theorem pr_145_30 : pj_find 30 pj_m145.2.2.2.2.2.2 = some (.invokevirtual 143, 3) := by decide +kernel
theorem pr_145_33 : pj_find 33 pj_m145.2.2.2.2.2.2 = some (.aload_n 0, 1) := by decide +kernel
theorem pr_145_34 : pj_find 34 pj_m145.2.2.2.2.2.2 = some (.getfield 16, 3) := by decide +kernel
theorem pr_145_37 : pj_find 37 pj_m145.2.2.2.2.2.2 = some (.iconst 2, 1) := by decide +kernel
theorem pr_145_38 : pj_find 38 pj_m145.2.2.2.2.2.2 = some (.iload_n 3, 1) := by decide +kernel
theorem pr_145_39 : pj_find 39 pj_m145.2.2.2.2.2.2 = some (.imul, 1) := by decide +kernel
theorem pr_145_40 : pj_find 40 pj_m145.2.2.2.2.2.2 = some (.iaload, 1) := by decide +kernel
theorem pr_145_41 : pj_find 41 pj_m145.2.2.2.2.2.2 = some (.invokestatic 63, 3) := by decide +kernel
theorem pr_145_44 : pj_find 44 pj_m145.2.2.2.2.2.2 = some (.aload_n 0, 1) := by decide +kernel
theorem pr_145_45 : pj_find 45 pj_m145.2.2.2.2.2.2 = some (.getfield 16, 3) := by decide +kernel
theorem pr_145_48 : pj_find 48 pj_m145.2.2.2.2.2.2 = some (.iconst 2, 1) := by decide +kernel
theorem pr_145_49 : pj_find 49 pj_m145.2.2.2.2.2.2 = some (.iload_n 3, 1) := by decide +kernel
theorem pr_145_50 : pj_find 50 pj_m145.2.2.2.2.2.2 = some (.imul, 1) := by decide +kernel
theorem pr_145_51 : pj_find 51 pj_m145.2.2.2.2.2.2 = some (.iconst 1, 1) := by decide +kernel
theorem pr_145_52 : pj_find 52 pj_m145.2.2.2.2.2.2 = some (.iadd, 1) := by decide +kernel
theorem pr_145_53 : pj_find 53 pj_m145.2.2.2.2.2.2 = some (.iaload, 1) := by decide +kernel
theorem pr_145_54 : pj_find 54 pj_m145.2.2.2.2.2.2 = some (.iconst 1, 1) := by decide +kernel
theorem pr_145_55 : pj_find 55 pj_m145.2.2.2.2.2.2 = some (.if_icmp .ne 7, 3) := by decide +kernel
theorem pr_145_58 : pj_find 58 pj_m145.2.2.2.2.2.2 = some (.iconst 1, 1) := by decide +kernel
theorem pr_145_59 : pj_find 59 pj_m145.2.2.2.2.2.2 = some (.goto 4, 3) := by decide +kernel
theorem pr_145_62 : pj_find 62 pj_m145.2.2.2.2.2.2 = some (.iconst 0, 1) := by decide +kernel
theorem pr_145_63 : pj_find 63 pj_m145.2.2.2.2.2.2 = some (.if_icmp .ne 7, 3) := by decide +kernel
theorem pr_145_66 : pj_find 66 pj_m145.2.2.2.2.2.2 = some (.iconst 1, 1) := by decide +kernel
theorem pr_145_67 : pj_find 67 pj_m145.2.2.2.2.2.2 = some (.goto 4, 3) := by decide +kernel
theorem pr_145_70 : pj_find 70 pj_m145.2.2.2.2.2.2 = some (.iconst 0, 1) := by decide +kernel
theorem pr_145_71 : pj_find 71 pj_m145.2.2.2.2.2.2 = some (.istore_n 2, 1) := by decide +kernel
theorem pr_145_72 : pj_find 72 pj_m145.2.2.2.2.2.2 = some (.iinc 3 1, 3) := by decide +kernel
theorem pr_145_75 : pj_find 75 pj_m145.2.2.2.2.2.2 = some (.goto (-59), 3) := by decide +kernel
theorem pr_145_78 : pj_find 78 pj_m145.2.2.2.2.2.2 = some (.iload_n 2, 1) := by decide +kernel
theorem pr_145_79 : pj_find 79 pj_m145.2.2.2.2.2.2 = some (.ireturn, 1) := by decide +kernel
theorem pr_146_0 : pj_find 0 pj_m146.2.2.2.2.2.2 = some (.iconst 0, 1) := by decide +kernel
theorem pr_146_1 : pj_find 1 pj_m146.2.2.2.2.2.2 = some (.istore_n 2, 1) := by decide +kernel
theorem pr_146_2 : pj_find 2 pj_m146.2.2.2.2.2.2 = some (.iconst 0, 1) := by decide +kernel
theorem pr_146_3 : pj_find 3 pj_m146.2.2.2.2.2.2 = some (.istore_n 3, 1) := by decide +kernel
theorem pr_146_4 : pj_find 4 pj_m146.2.2.2.2.2.2 = some (.iload_n 3, 1) := by decide +kernel
theorem pr_146_5 : pj_find 5 pj_m146.2.2.2.2.2.2 = some (.bipush 80, 2) := by decide +kernel
theorem pr_146_7 : pj_find 7 pj_m146.2.2.2.2.2.2 = some (.if_icmp .ge 27, 3) := by decide +kernel
theorem pr_146_10 : pj_find 10 pj_m146.2.2.2.2.2.2 = some (.aload_n 0, 1) := by decide +kernel
theorem pr_146_11 : pj_find 11 pj_m146.2.2.2.2.2.2 = some (.iload_n 3, 1) := by decide +kernel
theorem pr_146_12 : pj_find 12 pj_m146.2.2.2.2.2.2 = some (.invokevirtual 146, 3) := by decide +kernel
theorem pr_146_15 : pj_find 15 pj_m146.2.2.2.2.2.2 = some (.ifCond .eq 13, 3) := by decide +kernel
theorem pr_146_18 : pj_find 18 pj_m146.2.2.2.2.2.2 = some (.iload_n 2, 1) := by decide +kernel
theorem pr_146_19 : pj_find 19 pj_m146.2.2.2.2.2.2 = some (.iload_n 1, 1) := by decide +kernel
theorem pr_146_20 : pj_find 20 pj_m146.2.2.2.2.2.2 = some (.if_icmp .ne 5, 3) := by decide +kernel
theorem pr_146_23 : pj_find 23 pj_m146.2.2.2.2.2.2 = some (.iload_n 3, 1) := by decide +kernel
theorem pr_146_24 : pj_find 24 pj_m146.2.2.2.2.2.2 = some (.ireturn, 1) := by decide +kernel
theorem pr_146_25 : pj_find 25 pj_m146.2.2.2.2.2.2 = some (.iinc 2 1, 3) := by decide +kernel
theorem pr_146_28 : pj_find 28 pj_m146.2.2.2.2.2.2 = some (.iinc 3 1, 3) := by decide +kernel
theorem pr_146_31 : pj_find 31 pj_m146.2.2.2.2.2.2 = some (.goto (-27), 3) := by decide +kernel
theorem pr_146_34 : pj_find 34 pj_m146.2.2.2.2.2.2 = some (.iload_n 1, 1) := by decide +kernel
theorem pr_146_35 : pj_find 35 pj_m146.2.2.2.2.2.2 = some (.iconst (-1), 1) := by decide +kernel
theorem pr_146_36 : pj_find 36 pj_m146.2.2.2.2.2.2 = some (.if_icmp .ne 7, 3) := by decide +kernel
theorem pr_146_39 : pj_find 39 pj_m146.2.2.2.2.2.2 = some (.iload_n 2, 1) := by decide +kernel
theorem pr_146_40 : pj_find 40 pj_m146.2.2.2.2.2.2 = some (.goto 5, 3) := by decide +kernel
theorem pr_146_43 : pj_find 43 pj_m146.2.2.2.2.2.2 = some (.bipush (-6), 2) := by decide +kernel
theorem pr_146_45 : pj_find 45 pj_m146.2.2.2.2.2.2 = some (.ireturn, 1) := by decide +kernel
theorem pr_147_0 : pj_find 0 pj_m147.2.2.2.2.2.2 = some (.iload_n 1, 1) := by decide +kernel
theorem pr_147_1 : pj_find 1 pj_m147.2.2.2.2.2.2 = some (.iconst 0, 1) := by decide +kernel
theorem pr_147_2 : pj_find 2 pj_m147.2.2.2.2.2.2 = some (.iconst 1, 1) := by decide +kernel
theorem pr_147_3 : pj_find 3 pj_m147.2.2.2.2.2.2 = some (.invokestatic 39, 3) := by decide +kernel
theorem pr_147_6 : pj_find 6 pj_m147.2.2.2.2.2.2 = some (.ifCond .ne 6, 3) := by decide +kernel
theorem pr_147_9 : pj_find 9 pj_m147.2.2.2.2.2.2 = some (.bipush (-2), 2) := by decide +kernel
theorem pr_147_11 : pj_find 11 pj_m147.2.2.2.2.2.2 = some (.ireturn, 1) := by decide +kernel
theorem pr_147_12 : pj_find 12 pj_m147.2.2.2.2.2.2 = some (.bipush (-6), 2) := by decide +kernel
theorem pr_147_14 : pj_find 14 pj_m147.2.2.2.2.2.2 = some (.istore_n 2, 1) := by decide +kernel
theorem pr_147_15 : pj_find 15 pj_m147.2.2.2.2.2.2 = some (.ldc 149, 2) := by decide +kernel
theorem pr_147_17 : pj_find 17 pj_m147.2.2.2.2.2.2 = some (.istore_n 3, 1) := by decide +kernel
theorem pr_147_18 : pj_find 18 pj_m147.2.2.2.2.2.2 = some (.iconst 0, 1) := by decide +kernel
theorem pr_147_19 : pj_find 19 pj_m147.2.2.2.2.2.2 = some (.istore 4, 2) := by decide +kernel
theorem pr_147_21 : pj_find 21 pj_m147.2.2.2.2.2.2 = some (.iload 4, 2) := by decide +kernel
theorem pr_147_23 : pj_find 23 pj_m147.2.2.2.2.2.2 = some (.bipush 16, 2) := by decide +kernel
theorem pr_147_25 : pj_find 25 pj_m147.2.2.2.2.2.2 = some (.if_icmp .ge 131, 3) := by decide +kernel
theorem pr_147_28 : pj_find 28 pj_m147.2.2.2.2.2.2 = some (.iconst 0, 1) := by decide +kernel
theorem pr_147_29 : pj_find 29 pj_m147.2.2.2.2.2.2 = some (.istore 5, 2) := by decide +kernel
theorem pr_147_31 : pj_find 31 pj_m147.2.2.2.2.2.2 = some (.iconst 0, 1) := by decide +kernel
theorem pr_147_32 : pj_find 32 pj_m147.2.2.2.2.2.2 = some (.istore 6, 2) := by decide +kernel
theorem pr_147_34 : pj_find 34 pj_m147.2.2.2.2.2.2 = some (.iconst 0, 1) := by decide +kernel
theorem pr_147_35 : pj_find 35 pj_m147.2.2.2.2.2.2 = some (.istore 7, 2) := by decide +kernel
theorem pr_147_37 : pj_find 37 pj_m147.2.2.2.2.2.2 = some (.iload 7, 2) := by decide +kernel
theorem pr_147_39 : pj_find 39 pj_m147.2.2.2.2.2.2 = some (.bipush 80, 2) := by decide +kernel
theorem pr_147_41 : pj_find 41 pj_m147.2.2.2.2.2.2 = some (.if_icmp .ge 45, 3) := by decide +kernel
theorem pr_147_44 : pj_find 44 pj_m147.2.2.2.2.2.2 = some (.aload_n 0, 1) := by decide +kernel
theorem pr_147_45 : pj_find 45 pj_m147.2.2.2.2.2.2 = some (.iload 7, 2) := by decide +kernel
theorem pr_147_47 : pj_find 47 pj_m147.2.2.2.2.2.2 = some (.invokevirtual 146, 3) := by decide +kernel
theorem pr_147_50 : pj_find 50 pj_m147.2.2.2.2.2.2 = some (.ifCond .eq 30, 3) := by decide +kernel
theorem pr_147_53 : pj_find 53 pj_m147.2.2.2.2.2.2 = some (.iinc 5 1, 3) := by decide +kernel
theorem pr_147_56 : pj_find 56 pj_m147.2.2.2.2.2.2 = some (.iload 6, 2) := by decide +kernel
theorem pr_147_58 : pj_find 58 pj_m147.2.2.2.2.2.2 = some (.aload_n 0, 1) := by decide +kernel
theorem pr_147_59 : pj_find 59 pj_m147.2.2.2.2.2.2 = some (.iload 7, 2) := by decide +kernel
theorem pr_147_61 : pj_find 61 pj_m147.2.2.2.2.2.2 = some (.invokevirtual 143, 3) := by decide +kernel
theorem pr_147_64 : pj_find 64 pj_m147.2.2.2.2.2.2 = some (.iload 4, 2) := by decide +kernel
theorem pr_147_66 : pj_find 66 pj_m147.2.2.2.2.2.2 = some (.invokestatic 63, 3) := by decide +kernel
theorem pr_147_69 : pj_find 69 pj_m147.2.2.2.2.2.2 = some (.ifCond .eq 7, 3) := by decide +kernel
theorem pr_147_72 : pj_find 72 pj_m147.2.2.2.2.2.2 = some (.iconst 1, 1) := by decide +kernel
theorem pr_147_73 : pj_find 73 pj_m147.2.2.2.2.2.2 = some (.goto 4, 3) := by decide +kernel
theorem pr_147_76 : pj_find 76 pj_m147.2.2.2.2.2.2 = some (.iconst 0, 1) := by decide +kernel
theorem pr_147_77 : pj_find 77 pj_m147.2.2.2.2.2.2 = some (.iadd, 1) := by decide +kernel
theorem pr_147_78 : pj_find 78 pj_m147.2.2.2.2.2.2 = some (.istore 6, 2) := by decide +kernel
theorem pr_147_80 : pj_find 80 pj_m147.2.2.2.2.2.2 = some (.iinc 7 1, 3) := by decide +kernel
theorem pr_147_83 : pj_find 83 pj_m147.2.2.2.2.2.2 = some (.goto (-46), 3) := by decide +kernel
theorem pr_147_86 : pj_find 86 pj_m147.2.2.2.2.2.2 = some (.iload 6, 2) := by decide +kernel
theorem pr_147_88 : pj_find 88 pj_m147.2.2.2.2.2.2 = some (.iload 5, 2) := by decide +kernel
theorem pr_147_90 : pj_find 90 pj_m147.2.2.2.2.2.2 = some (.iload 6, 2) := by decide +kernel
theorem pr_147_92 : pj_find 92 pj_m147.2.2.2.2.2.2 = some (.isub, 1) := by decide +kernel
theorem pr_147_93 : pj_find 93 pj_m147.2.2.2.2.2.2 = some (.if_icmp .le 8, 3) := by decide +kernel
theorem pr_147_96 : pj_find 96 pj_m147.2.2.2.2.2.2 = some (.iload 6, 2) := by decide +kernel
theorem pr_147_98 : pj_find 98 pj_m147.2.2.2.2.2.2 = some (.goto 8, 3) := by decide +kernel
theorem pr_147_101 : pj_find 101 pj_m147.2.2.2.2.2.2 = some (.iload 5, 2) := by decide +kernel
theorem pr_147_103 : pj_find 103 pj_m147.2.2.2.2.2.2 = some (.iload 6, 2) := by decide +kernel
theorem pr_147_105 : pj_find 105 pj_m147.2.2.2.2.2.2 = some (.isub, 1) := by decide +kernel
theorem pr_147_106 : pj_find 106 pj_m147.2.2.2.2.2.2 = some (.istore 7, 2) := by decide +kernel
theorem pr_147_108 : pj_find 108 pj_m147.2.2.2.2.2.2 = some (.iload 5, 2) := by decide +kernel
theorem pr_147_110 : pj_find 110 pj_m147.2.2.2.2.2.2 = some (.ifCond .le 13, 3) := by decide +kernel
theorem pr_147_113 : pj_find 113 pj_m147.2.2.2.2.2.2 = some (.iload 7, 2) := by decide +kernel
theorem pr_147_115 : pj_find 115 pj_m147.2.2.2.2.2.2 = some (.iload_n 3, 1) := by decide +kernel
theorem pr_147_116 : pj_find 116 pj_m147.2.2.2.2.2.2 = some (.if_icmp .ge 7, 3) := by decide +kernel
theorem pr_147_119 : pj_find 119 pj_m147.2.2.2.2.2.2 = some (.iconst 1, 1) := by decide +kernel
theorem pr_147_120 : pj_find 120 pj_m147.2.2.2.2.2.2 = some (.goto 4, 3) := by decide +kernel
theorem pr_147_123 : pj_find 123 pj_m147.2.2.2.2.2.2 = some (.iconst 0, 1) := by decide +kernel
theorem pr_147_124 : pj_find 124 pj_m147.2.2.2.2.2.2 = some (.istore 8, 2) := by decide +kernel
theorem pr_147_126 : pj_find 126 pj_m147.2.2.2.2.2.2 = some (.iload 8, 2) := by decide +kernel
theorem pr_147_128 : pj_find 128 pj_m147.2.2.2.2.2.2 = some (.ifCond .eq 8, 3) := by decide +kernel
theorem pr_147_131 : pj_find 131 pj_m147.2.2.2.2.2.2 = some (.iload 4, 2) := by decide +kernel
theorem pr_147_133 : pj_find 133 pj_m147.2.2.2.2.2.2 = some (.goto 4, 3) := by decide +kernel
theorem pr_147_136 : pj_find 136 pj_m147.2.2.2.2.2.2 = some (.iload_n 2, 1) := by decide +kernel
theorem pr_147_137 : pj_find 137 pj_m147.2.2.2.2.2.2 = some (.istore_n 2, 1) := by decide +kernel
theorem pr_147_138 : pj_find 138 pj_m147.2.2.2.2.2.2 = some (.iload 8, 2) := by decide +kernel
theorem pr_147_140 : pj_find 140 pj_m147.2.2.2.2.2.2 = some (.ifCond .eq 8, 3) := by decide +kernel
theorem pr_147_143 : pj_find 143 pj_m147.2.2.2.2.2.2 = some (.iload 7, 2) := by decide +kernel
theorem pr_147_145 : pj_find 145 pj_m147.2.2.2.2.2.2 = some (.goto 4, 3) := by decide +kernel
theorem pr_147_148 : pj_find 148 pj_m147.2.2.2.2.2.2 = some (.iload_n 3, 1) := by decide +kernel
theorem pr_147_149 : pj_find 149 pj_m147.2.2.2.2.2.2 = some (.istore_n 3, 1) := by decide +kernel
theorem pr_147_150 : pj_find 150 pj_m147.2.2.2.2.2.2 = some (.iinc 4 1, 3) := by decide +kernel
theorem pr_147_153 : pj_find 153 pj_m147.2.2.2.2.2.2 = some (.goto (-132), 3) := by decide +kernel
theorem pr_147_156 : pj_find 156 pj_m147.2.2.2.2.2.2 = some (.iload_n 2, 1) := by decide +kernel
theorem pr_147_157 : pj_find 157 pj_m147.2.2.2.2.2.2 = some (.ifCond .lt 7, 3) := by decide +kernel
theorem pr_147_160 : pj_find 160 pj_m147.2.2.2.2.2.2 = some (.iload_n 1, 1) := by decide +kernel
theorem pr_147_161 : pj_find 161 pj_m147.2.2.2.2.2.2 = some (.ifCond .ne 7, 3) := by decide +kernel
theorem pr_147_164 : pj_find 164 pj_m147.2.2.2.2.2.2 = some (.iload_n 2, 1) := by decide +kernel
theorem pr_147_165 : pj_find 165 pj_m147.2.2.2.2.2.2 = some (.goto 4, 3) := by decide +kernel
theorem pr_147_168 : pj_find 168 pj_m147.2.2.2.2.2.2 = some (.iload_n 3, 1) := by decide +kernel
theorem pr_147_169 : pj_find 169 pj_m147.2.2.2.2.2.2 = some (.ireturn, 1) := by decide +kernel
theorem pr_148_0 : pj_find 0 pj_m148.2.2.2.2.2.2 = some (.iload_n 1, 1) := by decide +kernel
theorem pr_148_1 : pj_find 1 pj_m148.2.2.2.2.2.2 = some (.iconst 0, 1) := by decide +kernel
theorem pr_148_2 : pj_find 2 pj_m148.2.2.2.2.2.2 = some (.ldc 150, 2) := by decide +kernel
theorem pr_148_4 : pj_find 4 pj_m148.2.2.2.2.2.2 = some (.invokestatic 39, 3) := by decide +kernel
theorem pr_148_7 : pj_find 7 pj_m148.2.2.2.2.2.2 = some (.ifCond .eq 12, 3) := by decide +kernel
theorem pr_148_10 : pj_find 10 pj_m148.2.2.2.2.2.2 = some (.iload_n 2, 1) := by decide +kernel
theorem pr_148_11 : pj_find 11 pj_m148.2.2.2.2.2.2 = some (.iconst 0, 1) := by decide +kernel
theorem pr_148_12 : pj_find 12 pj_m148.2.2.2.2.2.2 = some (.iconst 1, 1) := by decide +kernel
theorem pr_148_13 : pj_find 13 pj_m148.2.2.2.2.2.2 = some (.invokestatic 39, 3) := by decide +kernel
theorem pr_148_16 : pj_find 16 pj_m148.2.2.2.2.2.2 = some (.ifCond .ne 6, 3) := by decide +kernel
theorem pr_148_19 : pj_find 19 pj_m148.2.2.2.2.2.2 = some (.bipush (-2), 2) := by decide +kernel
theorem pr_148_21 : pj_find 21 pj_m148.2.2.2.2.2.2 = some (.ireturn, 1) := by decide +kernel
theorem pr_148_22 : pj_find 22 pj_m148.2.2.2.2.2.2 = some (.iload_n 1, 1) := by decide +kernel
theorem pr_148_23 : pj_find 23 pj_m148.2.2.2.2.2.2 = some (.istore_n 3, 1) := by decide +kernel
theorem pr_148_24 : pj_find 24 pj_m148.2.2.2.2.2.2 = some (.iconst 5, 1) := by decide +kernel
theorem pr_148_25 : pj_find 25 pj_m148.2.2.2.2.2.2 = some (.istore 4, 2) := by decide +kernel
theorem pr_148_27 : pj_find 27 pj_m148.2.2.2.2.2.2 = some (.iload 4, 2) := by decide +kernel
theorem pr_148_29 : pj_find 29 pj_m148.2.2.2.2.2.2 = some (.ifCond .le 25, 3) := by decide +kernel
theorem pr_148_32 : pj_find 32 pj_m148.2.2.2.2.2.2 = some (.aload_n 0, 1) := by decide +kernel
theorem pr_148_33 : pj_find 33 pj_m148.2.2.2.2.2.2 = some (.getfield 26, 3) := by decide +kernel
theorem pr_148_36 : pj_find 36 pj_m148.2.2.2.2.2.2 = some (.iload 4, 2) := by decide +kernel
theorem pr_148_38 : pj_find 38 pj_m148.2.2.2.2.2.2 = some (.iload_n 3, 1) := by decide +kernel
theorem pr_148_39 : pj_find 39 pj_m148.2.2.2.2.2.2 = some (.bipush 10, 2) := by decide +kernel
theorem pr_148_41 : pj_find 41 pj_m148.2.2.2.2.2.2 = some (.irem, 1) := by decide +kernel
theorem pr_148_42 : pj_find 42 pj_m148.2.2.2.2.2.2 = some (.iastore, 1) := by decide +kernel
theorem pr_148_43 : pj_find 43 pj_m148.2.2.2.2.2.2 = some (.iload_n 3, 1) := by decide +kernel
theorem pr_148_44 : pj_find 44 pj_m148.2.2.2.2.2.2 = some (.bipush 10, 2) := by decide +kernel
theorem pr_148_46 : pj_find 46 pj_m148.2.2.2.2.2.2 = some (.idiv, 1) := by decide +kernel
theorem pr_148_47 : pj_find 47 pj_m148.2.2.2.2.2.2 = some (.istore_n 3, 1) := by decide +kernel
theorem pr_148_48 : pj_find 48 pj_m148.2.2.2.2.2.2 = some (.iinc 4 (-1), 3) := by decide +kernel
theorem pr_148_51 : pj_find 51 pj_m148.2.2.2.2.2.2 = some (.goto (-24), 3) := by decide +kernel
theorem pr_148_54 : pj_find 54 pj_m148.2.2.2.2.2.2 = some (.aload_n 0, 1) := by decide +kernel
theorem pr_148_55 : pj_find 55 pj_m148.2.2.2.2.2.2 = some (.getfield 26, 3) := by decide +kernel
theorem pr_148_58 : pj_find 58 pj_m148.2.2.2.2.2.2 = some (.iconst 1, 1) := by decide +kernel
theorem pr_148_59 : pj_find 59 pj_m148.2.2.2.2.2.2 = some (.iaload, 1) := by decide +kernel
theorem pr_148_60 : pj_find 60 pj_m148.2.2.2.2.2.2 = some (.aload_n 0, 1) := by decide +kernel
theorem pr_148_61 : pj_find 61 pj_m148.2.2.2.2.2.2 = some (.getfield 26, 3) := by decide +kernel
theorem pr_148_64 : pj_find 64 pj_m148.2.2.2.2.2.2 = some (.iconst 3, 1) := by decide +kernel
theorem pr_148_65 : pj_find 65 pj_m148.2.2.2.2.2.2 = some (.iaload, 1) := by decide +kernel
theorem pr_148_66 : pj_find 66 pj_m148.2.2.2.2.2.2 = some (.ixor, 1) := by decide +kernel
theorem pr_148_67 : pj_find 67 pj_m148.2.2.2.2.2.2 = some (.aload_n 0, 1) := by decide +kernel
theorem pr_148_68 : pj_find 68 pj_m148.2.2.2.2.2.2 = some (.getfield 26, 3) := by decide +kernel
theorem pr_148_71 : pj_find 71 pj_m148.2.2.2.2.2.2 = some (.iconst 5, 1) := by decide +kernel
theorem pr_148_72 : pj_find 72 pj_m148.2.2.2.2.2.2 = some (.iaload, 1) := by decide +kernel
theorem pr_148_73 : pj_find 73 pj_m148.2.2.2.2.2.2 = some (.ixor, 1) := by decide +kernel
theorem pr_148_74 : pj_find 74 pj_m148.2.2.2.2.2.2 = some (.istore 4, 2) := by decide +kernel
theorem pr_148_76 : pj_find 76 pj_m148.2.2.2.2.2.2 = some (.iconst 1, 1) := by decide +kernel
theorem pr_148_77 : pj_find 77 pj_m148.2.2.2.2.2.2 = some (.istore 5, 2) := by decide +kernel
theorem pr_148_79 : pj_find 79 pj_m148.2.2.2.2.2.2 = some (.iload 5, 2) := by decide +kernel
theorem pr_148_81 : pj_find 81 pj_m148.2.2.2.2.2.2 = some (.bipush 6, 2) := by decide +kernel
theorem pr_148_83 : pj_find 83 pj_m148.2.2.2.2.2.2 = some (.if_icmp .ge 112, 3) := by decide +kernel
theorem pr_148_86 : pj_find 86 pj_m148.2.2.2.2.2.2 = some (.iload_n 2, 1) := by decide +kernel
theorem pr_148_87 : pj_find 87 pj_m148.2.2.2.2.2.2 = some (.iconst 1, 1) := by decide +kernel
theorem pr_148_88 : pj_find 88 pj_m148.2.2.2.2.2.2 = some (.if_icmp .ne 107, 3) := by decide +kernel
theorem pr_148_91 : pj_find 91 pj_m148.2.2.2.2.2.2 = some (.iconst 1, 1) := by decide +kernel
theorem pr_148_92 : pj_find 92 pj_m148.2.2.2.2.2.2 = some (.istore 6, 2) := by decide +kernel
theorem pr_148_94 : pj_find 94 pj_m148.2.2.2.2.2.2 = some (.iload 6, 2) := by decide +kernel
theorem pr_148_96 : pj_find 96 pj_m148.2.2.2.2.2.2 = some (.aload_n 0, 1) := by decide +kernel
theorem pr_148_97 : pj_find 97 pj_m148.2.2.2.2.2.2 = some (.getfield 26, 3) := by decide +kernel
theorem pr_148_100 : pj_find 100 pj_m148.2.2.2.2.2.2 = some (.iload 5, 2) := by decide +kernel
theorem pr_148_102 : pj_find 102 pj_m148.2.2.2.2.2.2 = some (.iaload, 1) := by decide +kernel
theorem pr_148_103 : pj_find 103 pj_m148.2.2.2.2.2.2 = some (.if_icmp .gt 86, 3) := by decide +kernel
theorem pr_148_106 : pj_find 106 pj_m148.2.2.2.2.2.2 = some (.iload 5, 2) := by decide +kernel
theorem pr_148_108 : pj_find 108 pj_m148.2.2.2.2.2.2 = some (.iconst 2, 1) := by decide +kernel
theorem pr_148_109 : pj_find 109 pj_m148.2.2.2.2.2.2 = some (.irem, 1) := by decide +kernel
theorem pr_148_110 : pj_find 110 pj_m148.2.2.2.2.2.2 = some (.iconst 1, 1) := by decide +kernel
theorem pr_148_111 : pj_find 111 pj_m148.2.2.2.2.2.2 = some (.if_icmp .ne 8, 3) := by decide +kernel
theorem pr_148_114 : pj_find 114 pj_m148.2.2.2.2.2.2 = some (.iload 5, 2) := by decide +kernel
theorem pr_148_116 : pj_find 116 pj_m148.2.2.2.2.2.2 = some (.goto 7, 3) := by decide +kernel
theorem pr_148_119 : pj_find 119 pj_m148.2.2.2.2.2.2 = some (.iload 5, 2) := by decide +kernel
theorem pr_148_121 : pj_find 121 pj_m148.2.2.2.2.2.2 = some (.iconst 1, 1) := by decide +kernel
theorem pr_148_122 : pj_find 122 pj_m148.2.2.2.2.2.2 = some (.isub, 1) := by decide +kernel
theorem pr_148_123 : pj_find 123 pj_m148.2.2.2.2.2.2 = some (.istore 7, 2) := by decide +kernel
theorem pr_148_125 : pj_find 125 pj_m148.2.2.2.2.2.2 = some (.iload 5, 2) := by decide +kernel
theorem pr_148_127 : pj_find 127 pj_m148.2.2.2.2.2.2 = some (.iconst 2, 1) := by decide +kernel
theorem pr_148_128 : pj_find 128 pj_m148.2.2.2.2.2.2 = some (.irem, 1) := by decide +kernel
theorem pr_148_129 : pj_find 129 pj_m148.2.2.2.2.2.2 = some (.iconst 1, 1) := by decide +kernel
theorem pr_148_130 : pj_find 130 pj_m148.2.2.2.2.2.2 = some (.if_icmp .ne 16, 3) := by decide +kernel
theorem pr_148_133 : pj_find 133 pj_m148.2.2.2.2.2.2 = some (.aload_n 0, 1) := by decide +kernel
theorem pr_148_134 : pj_find 134 pj_m148.2.2.2.2.2.2 = some (.getfield 26, 3) := by decide +kernel
theorem pr_148_137 : pj_find 137 pj_m148.2.2.2.2.2.2 = some (.iload 7, 2) := by decide +kernel
theorem pr_148_139 : pj_find 139 pj_m148.2.2.2.2.2.2 = some (.iaload, 1) := by decide +kernel
theorem pr_148_140 : pj_find 140 pj_m148.2.2.2.2.2.2 = some (.iload 6, 2) := by decide +kernel
theorem pr_148_142 : pj_find 142 pj_m148.2.2.2.2.2.2 = some (.isub, 1) := by decide +kernel
theorem pr_148_143 : pj_find 143 pj_m148.2.2.2.2.2.2 = some (.goto 13, 3) := by decide +kernel
theorem pr_148_146 : pj_find 146 pj_m148.2.2.2.2.2.2 = some (.aload_n 0, 1) := by decide +kernel
theorem pr_148_147 : pj_find 147 pj_m148.2.2.2.2.2.2 = some (.getfield 26, 3) := by decide +kernel
theorem pr_148_150 : pj_find 150 pj_m148.2.2.2.2.2.2 = some (.iload 7, 2) := by decide +kernel
theorem pr_148_152 : pj_find 152 pj_m148.2.2.2.2.2.2 = some (.iaload, 1) := by decide +kernel
theorem pr_148_153 : pj_find 153 pj_m148.2.2.2.2.2.2 = some (.iload 6, 2) := by decide +kernel
theorem pr_148_155 : pj_find 155 pj_m148.2.2.2.2.2.2 = some (.iadd, 1) := by decide +kernel
theorem pr_148_156 : pj_find 156 pj_m148.2.2.2.2.2.2 = some (.istore 8, 2) := by decide +kernel
theorem pr_148_158 : pj_find 158 pj_m148.2.2.2.2.2.2 = some (.iload 4, 2) := by decide +kernel
theorem pr_148_160 : pj_find 160 pj_m148.2.2.2.2.2.2 = some (.aload_n 0, 1) := by decide +kernel
theorem pr_148_161 : pj_find 161 pj_m148.2.2.2.2.2.2 = some (.getfield 26, 3) := by decide +kernel
theorem pr_148_164 : pj_find 164 pj_m148.2.2.2.2.2.2 = some (.iload 7, 2) := by decide +kernel
theorem pr_148_166 : pj_find 166 pj_m148.2.2.2.2.2.2 = some (.iaload, 1) := by decide +kernel
theorem pr_148_167 : pj_find 167 pj_m148.2.2.2.2.2.2 = some (.ixor, 1) := by decide +kernel
theorem pr_148_168 : pj_find 168 pj_m148.2.2.2.2.2.2 = some (.iload 8, 2) := by decide +kernel
theorem pr_148_170 : pj_find 170 pj_m148.2.2.2.2.2.2 = some (.ixor, 1) := by decide +kernel
theorem pr_148_171 : pj_find 171 pj_m148.2.2.2.2.2.2 = some (.ifCond .ne 12, 3) := by decide +kernel
theorem pr_148_174 : pj_find 174 pj_m148.2.2.2.2.2.2 = some (.bipush 10, 2) := by decide +kernel
theorem pr_148_176 : pj_find 176 pj_m148.2.2.2.2.2.2 = some (.iload 5, 2) := by decide +kernel
theorem pr_148_178 : pj_find 178 pj_m148.2.2.2.2.2.2 = some (.imul, 1) := by decide +kernel
theorem pr_148_179 : pj_find 179 pj_m148.2.2.2.2.2.2 = some (.iload 6, 2) := by decide +kernel
theorem pr_148_181 : pj_find 181 pj_m148.2.2.2.2.2.2 = some (.iadd, 1) := by decide +kernel
theorem pr_148_182 : pj_find 182 pj_m148.2.2.2.2.2.2 = some (.ireturn, 1) := by decide +kernel
theorem pr_148_183 : pj_find 183 pj_m148.2.2.2.2.2.2 = some (.iinc 6 1, 3) := by decide +kernel
theorem pr_148_186 : pj_find 186 pj_m148.2.2.2.2.2.2 = some (.goto (-92), 3) := by decide +kernel
theorem pr_148_189 : pj_find 189 pj_m148.2.2.2.2.2.2 = some (.iinc 5 1, 3) := by decide +kernel
theorem pr_148_192 : pj_find 192 pj_m148.2.2.2.2.2.2 = some (.goto (-113), 3) := by decide +kernel
theorem pr_148_195 : pj_find 195 pj_m148.2.2.2.2.2.2 = some (.iload_n 2, 1) := by decide +kernel
theorem pr_148_196 : pj_find 196 pj_m148.2.2.2.2.2.2 = some (.iconst 1, 1) := by decide +kernel
theorem pr_148_197 : pj_find 197 pj_m148.2.2.2.2.2.2 = some (.if_icmp .ne 8, 3) := by decide +kernel
theorem pr_148_200 : pj_find 200 pj_m148.2.2.2.2.2.2 = some (.bipush (-6), 2) := by decide +kernel
theorem pr_148_202 : pj_find 202 pj_m148.2.2.2.2.2.2 = some (.goto 13, 3) := by decide +kernel
theorem pr_148_205 : pj_find 205 pj_m148.2.2.2.2.2.2 = some (.iload 4, 2) := by decide +kernel
theorem pr_148_207 : pj_find 207 pj_m148.2.2.2.2.2.2 = some (.ifCond .ne 7, 3) := by decide +kernel
theorem pr_148_210 : pj_find 210 pj_m148.2.2.2.2.2.2 = some (.iconst 0, 1) := by decide +kernel
theorem pr_148_211 : pj_find 211 pj_m148.2.2.2.2.2.2 = some (.goto 4, 3) := by decide +kernel
theorem pr_148_214 : pj_find 214 pj_m148.2.2.2.2.2.2 = some (.iconst 1, 1) := by decide +kernel
theorem pr_148_215 : pj_find 215 pj_m148.2.2.2.2.2.2 = some (.ireturn, 1) := by decide +kernel
theorem pr_149_0 : pj_find 0 pj_m149.2.2.2.2.2.2 = some (.iload_n 1, 1) := by decide +kernel
theorem pr_149_1 : pj_find 1 pj_m149.2.2.2.2.2.2 = some (.iconst 0, 1) := by decide +kernel
theorem pr_149_2 : pj_find 2 pj_m149.2.2.2.2.2.2 = some (.bipush 10, 2) := by decide +kernel
theorem pr_149_4 : pj_find 4 pj_m149.2.2.2.2.2.2 = some (.invokestatic 39, 3) := by decide +kernel
theorem pr_149_7 : pj_find 7 pj_m149.2.2.2.2.2.2 = some (.ifCond .eq 32, 3) := by decide +kernel
theorem pr_149_10 : pj_find 10 pj_m149.2.2.2.2.2.2 = some (.iload_n 2, 1) := by decide +kernel
theorem pr_149_11 : pj_find 11 pj_m149.2.2.2.2.2.2 = some (.iconst 0, 1) := by decide +kernel
theorem pr_149_12 : pj_find 12 pj_m149.2.2.2.2.2.2 = some (.bipush 16, 2) := by decide +kernel
theorem pr_149_14 : pj_find 14 pj_m149.2.2.2.2.2.2 = some (.invokestatic 39, 3) := by decide +kernel
theorem pr_149_17 : pj_find 17 pj_m149.2.2.2.2.2.2 = some (.ifCond .eq 22, 3) := by decide +kernel
theorem pr_149_20 : pj_find 20 pj_m149.2.2.2.2.2.2 = some (.iload_n 3, 1) := by decide +kernel
theorem pr_149_21 : pj_find 21 pj_m149.2.2.2.2.2.2 = some (.iconst 0, 1) := by decide +kernel
theorem pr_149_22 : pj_find 22 pj_m149.2.2.2.2.2.2 = some (.iconst 1, 1) := by decide +kernel
theorem pr_149_23 : pj_find 23 pj_m149.2.2.2.2.2.2 = some (.invokestatic 39, 3) := by decide +kernel
theorem pr_149_26 : pj_find 26 pj_m149.2.2.2.2.2.2 = some (.ifCond .eq 13, 3) := by decide +kernel
theorem pr_149_29 : pj_find 29 pj_m149.2.2.2.2.2.2 = some (.iload 4, 2) := by decide +kernel
theorem pr_149_31 : pj_find 31 pj_m149.2.2.2.2.2.2 = some (.iconst 0, 1) := by decide +kernel
theorem pr_149_32 : pj_find 32 pj_m149.2.2.2.2.2.2 = some (.iconst 1, 1) := by decide +kernel
theorem pr_149_33 : pj_find 33 pj_m149.2.2.2.2.2.2 = some (.invokestatic 39, 3) := by decide +kernel
theorem pr_149_36 : pj_find 36 pj_m149.2.2.2.2.2.2 = some (.ifCond .ne 7, 3) := by decide +kernel
theorem pr_149_39 : pj_find 39 pj_m149.2.2.2.2.2.2 = some (.ldc2_w 151, 3) := by decide +kernel
theorem pr_149_42 : pj_find 42 pj_m149.2.2.2.2.2.2 = some (.lreturn, 1) := by decide +kernel
theorem pr_149_43 : pj_find 43 pj_m149.2.2.2.2.2.2 = some (.lconst 1, 1) := by decide +kernel
theorem pr_149_44 : pj_find 44 pj_m149.2.2.2.2.2.2 = some (.lstore 5, 2) := by decide +kernel
theorem pr_149_46 : pj_find 46 pj_m149.2.2.2.2.2.2 = some (.iconst 0, 1) := by decide +kernel
theorem pr_149_47 : pj_find 47 pj_m149.2.2.2.2.2.2 = some (.istore 7, 2) := by decide +kernel
theorem pr_149_49 : pj_find 49 pj_m149.2.2.2.2.2.2 = some (.iload 7, 2) := by decide +kernel
theorem pr_149_51 : pj_find 51 pj_m149.2.2.2.2.2.2 = some (.bipush 18, 2) := by decide +kernel
theorem pr_149_53 : pj_find 53 pj_m149.2.2.2.2.2.2 = some (.if_icmp .ge 26, 3) := by decide +kernel
theorem pr_149_56 : pj_find 56 pj_m149.2.2.2.2.2.2 = some (.aload_n 0, 1) := by decide +kernel
theorem pr_149_57 : pj_find 57 pj_m149.2.2.2.2.2.2 = some (.getfield 29, 3) := by decide +kernel
theorem pr_149_60 : pj_find 60 pj_m149.2.2.2.2.2.2 = some (.iload 7, 2) := by decide +kernel
theorem pr_149_62 : pj_find 62 pj_m149.2.2.2.2.2.2 = some (.iload 7, 2) := by decide +kernel
theorem pr_149_64 : pj_find 64 pj_m149.2.2.2.2.2.2 = some (.ifCond .ne 7, 3) := by decide +kernel
theorem pr_149_67 : pj_find 67 pj_m149.2.2.2.2.2.2 = some (.lconst 1, 1) := by decide +kernel
theorem pr_149_68 : pj_find 68 pj_m149.2.2.2.2.2.2 = some (.goto 4, 3) := by decide +kernel
theorem pr_149_71 : pj_find 71 pj_m149.2.2.2.2.2.2 = some (.lconst 0, 1) := by decide +kernel
theorem pr_149_72 : pj_find 72 pj_m149.2.2.2.2.2.2 = some (.lastore, 1) := by decide +kernel
theorem pr_149_73 : pj_find 73 pj_m149.2.2.2.2.2.2 = some (.iinc 7 1, 3) := by decide +kernel
theorem pr_149_76 : pj_find 76 pj_m149.2.2.2.2.2.2 = some (.goto (-27), 3) := by decide +kernel
theorem pr_149_79 : pj_find 79 pj_m149.2.2.2.2.2.2 = some (.iconst 0, 1) := by decide +kernel
theorem pr_149_80 : pj_find 80 pj_m149.2.2.2.2.2.2 = some (.istore 7, 2) := by decide +kernel
theorem pr_149_82 : pj_find 82 pj_m149.2.2.2.2.2.2 = some (.iload 7, 2) := by decide +kernel
theorem pr_149_84 : pj_find 84 pj_m149.2.2.2.2.2.2 = some (.iload_n 1, 1) := by decide +kernel
theorem pr_149_85 : pj_find 85 pj_m149.2.2.2.2.2.2 = some (.if_icmp .ge 76, 3) := by decide +kernel
theorem pr_149_88 : pj_find 88 pj_m149.2.2.2.2.2.2 = some (.lload 5, 2) := by decide +kernel
theorem pr_149_90 : pj_find 90 pj_m149.2.2.2.2.2.2 = some (.ldc2_w 153, 3) := by decide +kernel
theorem pr_149_93 : pj_find 93 pj_m149.2.2.2.2.2.2 = some (.lmul, 1) := by decide +kernel
theorem pr_149_94 : pj_find 94 pj_m149.2.2.2.2.2.2 = some (.lstore 5, 2) := by decide +kernel
theorem pr_149_96 : pj_find 96 pj_m149.2.2.2.2.2.2 = some (.bipush 16, 2) := by decide +kernel
theorem pr_149_98 : pj_find 98 pj_m149.2.2.2.2.2.2 = some (.istore 8, 2) := by decide +kernel
theorem pr_149_100 : pj_find 100 pj_m149.2.2.2.2.2.2 = some (.iload 8, 2) := by decide +kernel
theorem pr_149_102 : pj_find 102 pj_m149.2.2.2.2.2.2 = some (.ifCond .lt 53, 3) := by decide +kernel
theorem pr_149_105 : pj_find 105 pj_m149.2.2.2.2.2.2 = some (.aload_n 0, 1) := by decide +kernel
theorem pr_149_106 : pj_find 106 pj_m149.2.2.2.2.2.2 = some (.getfield 29, 3) := by decide +kernel
theorem pr_149_109 : pj_find 109 pj_m149.2.2.2.2.2.2 = some (.iload 8, 2) := by decide +kernel
theorem pr_149_111 : pj_find 111 pj_m149.2.2.2.2.2.2 = some (.aload_n 0, 1) := by decide +kernel
theorem pr_149_112 : pj_find 112 pj_m149.2.2.2.2.2.2 = some (.getfield 29, 3) := by decide +kernel
theorem pr_149_115 : pj_find 115 pj_m149.2.2.2.2.2.2 = some (.iload 8, 2) := by decide +kernel
theorem pr_149_117 : pj_find 117 pj_m149.2.2.2.2.2.2 = some (.laload, 1) := by decide +kernel
theorem pr_149_118 : pj_find 118 pj_m149.2.2.2.2.2.2 = some (.iload 8, 2) := by decide +kernel
theorem pr_149_120 : pj_find 120 pj_m149.2.2.2.2.2.2 = some (.i2l, 1) := by decide +kernel
theorem pr_149_121 : pj_find 121 pj_m149.2.2.2.2.2.2 = some (.lmul, 1) := by decide +kernel
theorem pr_149_122 : pj_find 122 pj_m149.2.2.2.2.2.2 = some (.iload 8, 2) := by decide +kernel
theorem pr_149_124 : pj_find 124 pj_m149.2.2.2.2.2.2 = some (.ifCond .le 22, 3) := by decide +kernel
theorem pr_149_127 : pj_find 127 pj_m149.2.2.2.2.2.2 = some (.aload_n 0, 1) := by decide +kernel
theorem pr_149_128 : pj_find 128 pj_m149.2.2.2.2.2.2 = some (.getfield 29, 3) := by decide +kernel
theorem pr_149_131 : pj_find 131 pj_m149.2.2.2.2.2.2 = some (.iload 8, 2) := by decide +kernel
theorem pr_149_133 : pj_find 133 pj_m149.2.2.2.2.2.2 = some (.iconst 1, 1) := by decide +kernel
theorem pr_149_134 : pj_find 134 pj_m149.2.2.2.2.2.2 = some (.isub, 1) := by decide +kernel
theorem pr_149_135 : pj_find 135 pj_m149.2.2.2.2.2.2 = some (.laload, 1) := by decide +kernel
theorem pr_149_136 : pj_find 136 pj_m149.2.2.2.2.2.2 = some (.bipush 17, 2) := by decide +kernel
theorem pr_149_138 : pj_find 138 pj_m149.2.2.2.2.2.2 = some (.iload 8, 2) := by decide +kernel
theorem pr_149_140 : pj_find 140 pj_m149.2.2.2.2.2.2 = some (.isub, 1) := by decide +kernel
theorem pr_149_141 : pj_find 141 pj_m149.2.2.2.2.2.2 = some (.i2l, 1) := by decide +kernel
theorem pr_149_142 : pj_find 142 pj_m149.2.2.2.2.2.2 = some (.lmul, 1) := by decide +kernel
theorem pr_149_143 : pj_find 143 pj_m149.2.2.2.2.2.2 = some (.goto 4, 3) := by decide +kernel
theorem pr_149_146 : pj_find 146 pj_m149.2.2.2.2.2.2 = some (.lconst 0, 1) := by decide +kernel
theorem pr_149_147 : pj_find 147 pj_m149.2.2.2.2.2.2 = some (.ladd, 1) := by decide +kernel
theorem pr_149_148 : pj_find 148 pj_m149.2.2.2.2.2.2 = some (.lastore, 1) := by decide +kernel
theorem pr_149_149 : pj_find 149 pj_m149.2.2.2.2.2.2 = some (.iinc 8 (-1), 3) := by decide +kernel
theorem pr_149_152 : pj_find 152 pj_m149.2.2.2.2.2.2 = some (.goto (-52), 3) := by decide +kernel
theorem pr_149_155 : pj_find 155 pj_m149.2.2.2.2.2.2 = some (.iinc 7 1, 3) := by decide +kernel
theorem pr_149_158 : pj_find 158 pj_m149.2.2.2.2.2.2 = some (.goto (-76), 3) := by decide +kernel
theorem pr_149_161 : pj_find 161 pj_m149.2.2.2.2.2.2 = some (.aload_n 0, 1) := by decide +kernel
theorem pr_149_162 : pj_find 162 pj_m149.2.2.2.2.2.2 = some (.getfield 29, 3) := by decide +kernel
theorem pr_149_165 : pj_find 165 pj_m149.2.2.2.2.2.2 = some (.iload_n 2, 1) := by decide +kernel
theorem pr_149_166 : pj_find 166 pj_m149.2.2.2.2.2.2 = some (.laload, 1) := by decide +kernel
theorem pr_149_167 : pj_find 167 pj_m149.2.2.2.2.2.2 = some (.lstore 7, 2) := by decide +kernel
theorem pr_149_169 : pj_find 169 pj_m149.2.2.2.2.2.2 = some (.iload_n 3, 1) := by decide +kernel
theorem pr_149_170 : pj_find 170 pj_m149.2.2.2.2.2.2 = some (.iconst 1, 1) := by decide +kernel
theorem pr_149_171 : pj_find 171 pj_m149.2.2.2.2.2.2 = some (.if_icmp .ne 38, 3) := by decide +kernel
theorem pr_149_174 : pj_find 174 pj_m149.2.2.2.2.2.2 = some (.lconst 0, 1) := by decide +kernel
theorem pr_149_175 : pj_find 175 pj_m149.2.2.2.2.2.2 = some (.lstore 7, 2) := by decide +kernel
theorem pr_149_177 : pj_find 177 pj_m149.2.2.2.2.2.2 = some (.iconst 0, 1) := by decide +kernel
theorem pr_149_178 : pj_find 178 pj_m149.2.2.2.2.2.2 = some (.istore 9, 2) := by decide +kernel
theorem pr_149_180 : pj_find 180 pj_m149.2.2.2.2.2.2 = some (.iload 9, 2) := by decide +kernel
theorem pr_149_182 : pj_find 182 pj_m149.2.2.2.2.2.2 = some (.bipush 17, 2) := by decide +kernel
theorem pr_149_184 : pj_find 184 pj_m149.2.2.2.2.2.2 = some (.if_icmp .ge 25, 3) := by decide +kernel
theorem pr_149_187 : pj_find 187 pj_m149.2.2.2.2.2.2 = some (.lload 7, 2) := by decide +kernel
theorem pr_149_189 : pj_find 189 pj_m149.2.2.2.2.2.2 = some (.iload 9, 2) := by decide +kernel
theorem pr_149_191 : pj_find 191 pj_m149.2.2.2.2.2.2 = some (.i2l, 1) := by decide +kernel
theorem pr_149_192 : pj_find 192 pj_m149.2.2.2.2.2.2 = some (.aload_n 0, 1) := by decide +kernel
theorem pr_149_193 : pj_find 193 pj_m149.2.2.2.2.2.2 = some (.getfield 29, 3) := by decide +kernel
theorem pr_149_196 : pj_find 196 pj_m149.2.2.2.2.2.2 = some (.iload 9, 2) := by decide +kernel
theorem pr_149_198 : pj_find 198 pj_m149.2.2.2.2.2.2 = some (.laload, 1) := by decide +kernel
theorem pr_149_199 : pj_find 199 pj_m149.2.2.2.2.2.2 = some (.lmul, 1) := by decide +kernel
theorem pr_149_200 : pj_find 200 pj_m149.2.2.2.2.2.2 = some (.ladd, 1) := by decide +kernel
theorem pr_149_201 : pj_find 201 pj_m149.2.2.2.2.2.2 = some (.lstore 7, 2) := by decide +kernel
theorem pr_149_203 : pj_find 203 pj_m149.2.2.2.2.2.2 = some (.iinc 9 1, 3) := by decide +kernel
theorem pr_149_206 : pj_find 206 pj_m149.2.2.2.2.2.2 = some (.goto (-26), 3) := by decide +kernel
theorem pr_149_209 : pj_find 209 pj_m149.2.2.2.2.2.2 = some (.lload 7, 2) := by decide +kernel
theorem pr_149_211 : pj_find 211 pj_m149.2.2.2.2.2.2 = some (.lstore 9, 2) := by decide +kernel
theorem pr_149_213 : pj_find 213 pj_m149.2.2.2.2.2.2 = some (.lload 5, 2) := by decide +kernel
theorem pr_149_215 : pj_find 215 pj_m149.2.2.2.2.2.2 = some (.lstore 11, 2) := by decide +kernel
theorem pr_149_217 : pj_find 217 pj_m149.2.2.2.2.2.2 = some (.lload 11, 2) := by decide +kernel
theorem pr_149_219 : pj_find 219 pj_m149.2.2.2.2.2.2 = some (.lconst 0, 1) := by decide +kernel
theorem pr_149_220 : pj_find 220 pj_m149.2.2.2.2.2.2 = some (.lcmp, 1) := by decide +kernel
theorem pr_149_221 : pj_find 221 pj_m149.2.2.2.2.2.2 = some (.ifCond .eq 21, 3) := by decide +kernel
theorem pr_149_224 : pj_find 224 pj_m149.2.2.2.2.2.2 = some (.lload 9, 2) := by decide +kernel
theorem pr_149_226 : pj_find 226 pj_m149.2.2.2.2.2.2 = some (.lload 11, 2) := by decide +kernel
theorem pr_149_228 : pj_find 228 pj_m149.2.2.2.2.2.2 = some (.lrem, 1) := by decide +kernel
theorem pr_149_229 : pj_find 229 pj_m149.2.2.2.2.2.2 = some (.lstore 13, 2) := by decide +kernel
theorem pr_149_231 : pj_find 231 pj_m149.2.2.2.2.2.2 = some (.lload 11, 2) := by decide +kernel
theorem pr_149_233 : pj_find 233 pj_m149.2.2.2.2.2.2 = some (.lstore 9, 2) := by decide +kernel
theorem pr_149_235 : pj_find 235 pj_m149.2.2.2.2.2.2 = some (.lload 13, 2) := by decide +kernel
theorem pr_149_237 : pj_find 237 pj_m149.2.2.2.2.2.2 = some (.lstore 11, 2) := by decide +kernel
theorem pr_149_239 : pj_find 239 pj_m149.2.2.2.2.2.2 = some (.goto (-22), 3) := by decide +kernel
theorem pr_149_242 : pj_find 242 pj_m149.2.2.2.2.2.2 = some (.iload 4, 2) := by decide +kernel
theorem pr_149_244 : pj_find 244 pj_m149.2.2.2.2.2.2 = some (.ifCond .ne 11, 3) := by decide +kernel
theorem pr_149_247 : pj_find 247 pj_m149.2.2.2.2.2.2 = some (.lload 7, 2) := by decide +kernel
theorem pr_149_249 : pj_find 249 pj_m149.2.2.2.2.2.2 = some (.lload 9, 2) := by decide +kernel
theorem pr_149_251 : pj_find 251 pj_m149.2.2.2.2.2.2 = some (.ldiv, 1) := by decide +kernel
theorem pr_149_252 : pj_find 252 pj_m149.2.2.2.2.2.2 = some (.goto 8, 3) := by decide +kernel
theorem pr_149_255 : pj_find 255 pj_m149.2.2.2.2.2.2 = some (.lload 5, 2) := by decide +kernel
theorem pr_149_257 : pj_find 257 pj_m149.2.2.2.2.2.2 = some (.lload 9, 2) := by decide +kernel
theorem pr_149_259 : pj_find 259 pj_m149.2.2.2.2.2.2 = some (.ldiv, 1) := by decide +kernel
theorem pr_149_260 : pj_find 260 pj_m149.2.2.2.2.2.2 = some (.lreturn, 1) := by decide +kernel
theorem pr_150_0 : pj_find 0 pj_m150.2.2.2.2.2.2 = some (.iload_n 1, 1) := by decide +kernel
theorem pr_150_1 : pj_find 1 pj_m150.2.2.2.2.2.2 = some (.iconst 0, 1) := by decide +kernel
theorem pr_150_2 : pj_find 2 pj_m150.2.2.2.2.2.2 = some (.sipush 9999, 3) := by decide +kernel
theorem pr_150_5 : pj_find 5 pj_m150.2.2.2.2.2.2 = some (.invokestatic 39, 3) := by decide +kernel
theorem pr_150_8 : pj_find 8 pj_m150.2.2.2.2.2.2 = some (.ifCond .eq 22, 3) := by decide +kernel
theorem pr_150_11 : pj_find 11 pj_m150.2.2.2.2.2.2 = some (.iload_n 2, 1) := by decide +kernel
theorem pr_150_12 : pj_find 12 pj_m150.2.2.2.2.2.2 = some (.iconst 1, 1) := by decide +kernel
theorem pr_150_13 : pj_find 13 pj_m150.2.2.2.2.2.2 = some (.bipush 99, 2) := by decide +kernel
theorem pr_150_15 : pj_find 15 pj_m150.2.2.2.2.2.2 = some (.invokestatic 39, 3) := by decide +kernel
theorem pr_150_18 : pj_find 18 pj_m150.2.2.2.2.2.2 = some (.ifCond .eq 12, 3) := by decide +kernel
theorem pr_150_21 : pj_find 21 pj_m150.2.2.2.2.2.2 = some (.iload_n 3, 1) := by decide +kernel
theorem pr_150_22 : pj_find 22 pj_m150.2.2.2.2.2.2 = some (.iconst 0, 1) := by decide +kernel
theorem pr_150_23 : pj_find 23 pj_m150.2.2.2.2.2.2 = some (.iconst 2, 1) := by decide +kernel
theorem pr_150_24 : pj_find 24 pj_m150.2.2.2.2.2.2 = some (.invokestatic 39, 3) := by decide +kernel
theorem pr_150_27 : pj_find 27 pj_m150.2.2.2.2.2.2 = some (.ifCond .ne 6, 3) := by decide +kernel
theorem pr_150_30 : pj_find 30 pj_m150.2.2.2.2.2.2 = some (.bipush (-2), 2) := by decide +kernel
theorem pr_150_32 : pj_find 32 pj_m150.2.2.2.2.2.2 = some (.ireturn, 1) := by decide +kernel
theorem pr_150_33 : pj_find 33 pj_m150.2.2.2.2.2.2 = some (.aload_n 0, 1) := by decide +kernel
theorem pr_150_34 : pj_find 34 pj_m150.2.2.2.2.2.2 = some (.invokevirtual 99, 3) := by decide +kernel
theorem pr_150_37 : pj_find 37 pj_m150.2.2.2.2.2.2 = some (.iload_n 1, 1) := by decide +kernel
theorem pr_150_38 : pj_find 38 pj_m150.2.2.2.2.2.2 = some (.istore 4, 2) := by decide +kernel
theorem pr_150_40 : pj_find 40 pj_m150.2.2.2.2.2.2 = some (.iconst 0, 1) := by decide +kernel
theorem pr_150_41 : pj_find 41 pj_m150.2.2.2.2.2.2 = some (.istore 5, 2) := by decide +kernel
theorem pr_150_43 : pj_find 43 pj_m150.2.2.2.2.2.2 = some (.iload 5, 2) := by decide +kernel
theorem pr_150_45 : pj_find 45 pj_m150.2.2.2.2.2.2 = some (.iload_n 2, 1) := by decide +kernel
theorem pr_150_46 : pj_find 46 pj_m150.2.2.2.2.2.2 = some (.if_icmp .ge 123, 3) := by decide +kernel
theorem pr_150_49 : pj_find 49 pj_m150.2.2.2.2.2.2 = some (.bipush 75, 2) := by decide +kernel
theorem pr_150_51 : pj_find 51 pj_m150.2.2.2.2.2.2 = some (.iload 4, 2) := by decide +kernel
theorem pr_150_53 : pj_find 53 pj_m150.2.2.2.2.2.2 = some (.imul, 1) := by decide +kernel
theorem pr_150_54 : pj_find 54 pj_m150.2.2.2.2.2.2 = some (.bipush 74, 2) := by decide +kernel
theorem pr_150_56 : pj_find 56 pj_m150.2.2.2.2.2.2 = some (.iadd, 1) := by decide +kernel
theorem pr_150_57 : pj_find 57 pj_m150.2.2.2.2.2.2 = some (.ldc 155, 2) := by decide +kernel
theorem pr_150_59 : pj_find 59 pj_m150.2.2.2.2.2.2 = some (.irem, 1) := by decide +kernel
theorem pr_150_60 : pj_find 60 pj_m150.2.2.2.2.2.2 = some (.istore 4, 2) := by decide +kernel
theorem pr_150_62 : pj_find 62 pj_m150.2.2.2.2.2.2 = some (.iload 4, 2) := by decide +kernel
theorem pr_150_64 : pj_find 64 pj_m150.2.2.2.2.2.2 = some (.bipush 8, 2) := by decide +kernel
theorem pr_150_66 : pj_find 66 pj_m150.2.2.2.2.2.2 = some (.irem, 1) := by decide +kernel
theorem pr_150_67 : pj_find 67 pj_m150.2.2.2.2.2.2 = some (.istore 6, 2) := by decide +kernel
theorem pr_150_69 : pj_find 69 pj_m150.2.2.2.2.2.2 = some (.iload 4, 2) := by decide +kernel
theorem pr_150_71 : pj_find 71 pj_m150.2.2.2.2.2.2 = some (.bipush 8, 2) := by decide +kernel
theorem pr_150_73 : pj_find 73 pj_m150.2.2.2.2.2.2 = some (.idiv, 1) := by decide +kernel
theorem pr_150_74 : pj_find 74 pj_m150.2.2.2.2.2.2 = some (.istore 7, 2) := by decide +kernel
theorem pr_150_76 : pj_find 76 pj_m150.2.2.2.2.2.2 = some (.iload 6, 2) := by decide +kernel
theorem pr_150_78 : pj_find 78 pj_m150.2.2.2.2.2.2 = some (.iconst 5, 1) := by decide +kernel
theorem pr_150_79 : pj_find 79 pj_m150.2.2.2.2.2.2 = some (.if_icmp .ge 35, 3) := by decide +kernel
theorem pr_150_82 : pj_find 82 pj_m150.2.2.2.2.2.2 = some (.aload_n 0, 1) := by decide +kernel
theorem pr_150_83 : pj_find 83 pj_m150.2.2.2.2.2.2 = some (.aload_n 0, 1) := by decide +kernel
theorem pr_150_84 : pj_find 84 pj_m150.2.2.2.2.2.2 = some (.iload 7, 2) := by decide +kernel
theorem pr_150_86 : pj_find 86 pj_m150.2.2.2.2.2.2 = some (.bipush 8, 2) := by decide +kernel
theorem pr_150_88 : pj_find 88 pj_m150.2.2.2.2.2.2 = some (.irem, 1) := by decide +kernel
theorem pr_150_89 : pj_find 89 pj_m150.2.2.2.2.2.2 = some (.iload 7, 2) := by decide +kernel
theorem pr_150_91 : pj_find 91 pj_m150.2.2.2.2.2.2 = some (.bipush 8, 2) := by decide +kernel
theorem pr_150_93 : pj_find 93 pj_m150.2.2.2.2.2.2 = some (.idiv, 1) := by decide +kernel
theorem pr_150_94 : pj_find 94 pj_m150.2.2.2.2.2.2 = some (.iconst 4, 1) := by decide +kernel
theorem pr_150_95 : pj_find 95 pj_m150.2.2.2.2.2.2 = some (.irem, 1) := by decide +kernel
theorem pr_150_96 : pj_find 96 pj_m150.2.2.2.2.2.2 = some (.iconst 1, 1) := by decide +kernel
theorem pr_150_97 : pj_find 97 pj_m150.2.2.2.2.2.2 = some (.iload 7, 2) := by decide +kernel
theorem pr_150_99 : pj_find 99 pj_m150.2.2.2.2.2.2 = some (.bipush 32, 2) := by decide +kernel
theorem pr_150_101 : pj_find 101 pj_m150.2.2.2.2.2.2 = some (.idiv, 1) := by decide +kernel
theorem pr_150_102 : pj_find 102 pj_m150.2.2.2.2.2.2 = some (.iconst 5, 1) := by decide +kernel
theorem pr_150_103 : pj_find 103 pj_m150.2.2.2.2.2.2 = some (.irem, 1) := by decide +kernel
theorem pr_150_104 : pj_find 104 pj_m150.2.2.2.2.2.2 = some (.iadd, 1) := by decide +kernel
theorem pr_150_105 : pj_find 105 pj_m150.2.2.2.2.2.2 = some (.invokevirtual 95, 3) := by decide +kernel
theorem pr_150_108 : pj_find 108 pj_m150.2.2.2.2.2.2 = some (.putfield 114, 3) := by decide +kernel
theorem pr_150_111 : pj_find 111 pj_m150.2.2.2.2.2.2 = some (.goto 52, 3) := by decide +kernel
theorem pr_150_114 : pj_find 114 pj_m150.2.2.2.2.2.2 = some (.iload 6, 2) := by decide +kernel
theorem pr_150_116 : pj_find 116 pj_m150.2.2.2.2.2.2 = some (.iconst 5, 1) := by decide +kernel
theorem pr_150_117 : pj_find 117 pj_m150.2.2.2.2.2.2 = some (.if_icmp .ne 19, 3) := by decide +kernel
theorem pr_150_120 : pj_find 120 pj_m150.2.2.2.2.2.2 = some (.aload_n 0, 1) := by decide +kernel
theorem pr_150_121 : pj_find 121 pj_m150.2.2.2.2.2.2 = some (.aload_n 0, 1) := by decide +kernel
theorem pr_150_122 : pj_find 122 pj_m150.2.2.2.2.2.2 = some (.iload 7, 2) := by decide +kernel
theorem pr_150_124 : pj_find 124 pj_m150.2.2.2.2.2.2 = some (.bipush 8, 2) := by decide +kernel
theorem pr_150_126 : pj_find 126 pj_m150.2.2.2.2.2.2 = some (.irem, 1) := by decide +kernel
theorem pr_150_127 : pj_find 127 pj_m150.2.2.2.2.2.2 = some (.invokevirtual 92, 3) := by decide +kernel
theorem pr_150_130 : pj_find 130 pj_m150.2.2.2.2.2.2 = some (.putfield 114, 3) := by decide +kernel
theorem pr_150_133 : pj_find 133 pj_m150.2.2.2.2.2.2 = some (.goto 30, 3) := by decide +kernel
theorem pr_150_136 : pj_find 136 pj_m150.2.2.2.2.2.2 = some (.aload_n 0, 1) := by decide +kernel
theorem pr_150_137 : pj_find 137 pj_m150.2.2.2.2.2.2 = some (.iload 6, 2) := by decide +kernel
theorem pr_150_139 : pj_find 139 pj_m150.2.2.2.2.2.2 = some (.bipush 6, 2) := by decide +kernel
theorem pr_150_141 : pj_find 141 pj_m150.2.2.2.2.2.2 = some (.if_icmp .ne 15, 3) := by decide +kernel
theorem pr_150_144 : pj_find 144 pj_m150.2.2.2.2.2.2 = some (.aload_n 0, 1) := by decide +kernel
theorem pr_150_145 : pj_find 145 pj_m150.2.2.2.2.2.2 = some (.iload 7, 2) := by decide +kernel
theorem pr_150_147 : pj_find 147 pj_m150.2.2.2.2.2.2 = some (.bipush 16, 2) := by decide +kernel
theorem pr_150_149 : pj_find 149 pj_m150.2.2.2.2.2.2 = some (.irem, 1) := by decide +kernel
theorem pr_150_150 : pj_find 150 pj_m150.2.2.2.2.2.2 = some (.invokevirtual 89, 3) := by decide +kernel
theorem pr_150_153 : pj_find 153 pj_m150.2.2.2.2.2.2 = some (.goto 7, 3) := by decide +kernel
theorem pr_150_156 : pj_find 156 pj_m150.2.2.2.2.2.2 = some (.aload_n 0, 1) := by decide +kernel
theorem pr_150_157 : pj_find 157 pj_m150.2.2.2.2.2.2 = some (.invokevirtual 108, 3) := by decide +kernel
theorem pr_150_160 : pj_find 160 pj_m150.2.2.2.2.2.2 = some (.putfield 114, 3) := by decide +kernel
theorem pr_150_163 : pj_find 163 pj_m150.2.2.2.2.2.2 = some (.iinc 5 1, 3) := by decide +kernel
theorem pr_150_166 : pj_find 166 pj_m150.2.2.2.2.2.2 = some (.goto (-123), 3) := by decide +kernel
theorem pr_150_169 : pj_find 169 pj_m150.2.2.2.2.2.2 = some (.iload_n 3, 1) := by decide +kernel
theorem pr_150_170 : pj_find 170 pj_m150.2.2.2.2.2.2 = some (.ifCond .ne 15, 3) := by decide +kernel
theorem pr_150_173 : pj_find 173 pj_m150.2.2.2.2.2.2 = some (.aload_n 0, 1) := by decide +kernel
theorem pr_150_174 : pj_find 174 pj_m150.2.2.2.2.2.2 = some (.bipush 6, 2) := by decide +kernel
theorem pr_150_176 : pj_find 176 pj_m150.2.2.2.2.2.2 = some (.invokevirtual 105, 3) := by decide +kernel
theorem pr_150_179 : pj_find 179 pj_m150.2.2.2.2.2.2 = some (.invokestatic 86, 3) := by decide +kernel
theorem pr_150_182 : pj_find 182 pj_m150.2.2.2.2.2.2 = some (.goto 23, 3) := by decide +kernel
theorem pr_150_185 : pj_find 185 pj_m150.2.2.2.2.2.2 = some (.iload_n 3, 1) := by decide +kernel
theorem pr_150_186 : pj_find 186 pj_m150.2.2.2.2.2.2 = some (.iconst 1, 1) := by decide +kernel
theorem pr_150_187 : pj_find 187 pj_m150.2.2.2.2.2.2 = some (.if_icmp .ne 14, 3) := by decide +kernel
theorem pr_150_190 : pj_find 190 pj_m150.2.2.2.2.2.2 = some (.aload_n 0, 1) := by decide +kernel
theorem pr_150_191 : pj_find 191 pj_m150.2.2.2.2.2.2 = some (.iconst 0, 1) := by decide +kernel
theorem pr_150_192 : pj_find 192 pj_m150.2.2.2.2.2.2 = some (.invokevirtual 105, 3) := by decide +kernel
theorem pr_150_195 : pj_find 195 pj_m150.2.2.2.2.2.2 = some (.invokestatic 86, 3) := by decide +kernel
theorem pr_150_198 : pj_find 198 pj_m150.2.2.2.2.2.2 = some (.goto 7, 3) := by decide +kernel
theorem pr_150_201 : pj_find 201 pj_m150.2.2.2.2.2.2 = some (.aload_n 0, 1) := by decide +kernel
theorem pr_150_202 : pj_find 202 pj_m150.2.2.2.2.2.2 = some (.getfield 77, 3) := by decide +kernel
theorem pr_150_205 : pj_find 205 pj_m150.2.2.2.2.2.2 = some (.ireturn, 1) := by decide +kernel
theorem pr_151_0 : pj_find 0 pj_m151.2.2.2.2.2.2 = some (.iload_n 1, 1) := by decide +kernel
theorem pr_151_1 : pj_find 1 pj_m151.2.2.2.2.2.2 = some (.iconst 0, 1) := by decide +kernel
theorem pr_151_2 : pj_find 2 pj_m151.2.2.2.2.2.2 = some (.iconst 1, 1) := by decide +kernel
theorem pr_151_3 : pj_find 3 pj_m151.2.2.2.2.2.2 = some (.invokestatic 39, 3) := by decide +kernel
theorem pr_151_6 : pj_find 6 pj_m151.2.2.2.2.2.2 = some (.ifCond .ne 6, 3) := by decide +kernel
theorem pr_151_9 : pj_find 9 pj_m151.2.2.2.2.2.2 = some (.bipush (-2), 2) := by decide +kernel
theorem pr_151_11 : pj_find 11 pj_m151.2.2.2.2.2.2 = some (.ireturn, 1) := by decide +kernel
theorem pr_151_12 : pj_find 12 pj_m151.2.2.2.2.2.2 = some (.bipush 50, 2) := by decide +kernel
theorem pr_151_14 : pj_find 14 pj_m151.2.2.2.2.2.2 = some (.iload_n 1, 1) := by decide +kernel
theorem pr_151_15 : pj_find 15 pj_m151.2.2.2.2.2.2 = some (.imul, 1) := by decide +kernel
theorem pr_151_16 : pj_find 16 pj_m151.2.2.2.2.2.2 = some (.istore_n 2, 1) := by decide +kernel
theorem pr_151_17 : pj_find 17 pj_m151.2.2.2.2.2.2 = some (.iconst 0, 1) := by decide +kernel
theorem pr_151_18 : pj_find 18 pj_m151.2.2.2.2.2.2 = some (.istore_n 3, 1) := by decide +kernel
theorem pr_151_19 : pj_find 19 pj_m151.2.2.2.2.2.2 = some (.iload_n 3, 1) := by decide +kernel
theorem pr_151_20 : pj_find 20 pj_m151.2.2.2.2.2.2 = some (.bipush 32, 2) := by decide +kernel
theorem pr_151_22 : pj_find 22 pj_m151.2.2.2.2.2.2 = some (.if_icmp .ge 23, 3) := by decide +kernel
theorem pr_151_25 : pj_find 25 pj_m151.2.2.2.2.2.2 = some (.aload_n 0, 1) := by decide +kernel
theorem pr_151_26 : pj_find 26 pj_m151.2.2.2.2.2.2 = some (.getfield 32, 3) := by decide +kernel
theorem pr_151_29 : pj_find 29 pj_m151.2.2.2.2.2.2 = some (.iload_n 2, 1) := by decide +kernel
theorem pr_151_30 : pj_find 30 pj_m151.2.2.2.2.2.2 = some (.iload_n 3, 1) := by decide +kernel
theorem pr_151_31 : pj_find 31 pj_m151.2.2.2.2.2.2 = some (.iadd, 1) := by decide +kernel
theorem pr_151_32 : pj_find 32 pj_m151.2.2.2.2.2.2 = some (.aload_n 0, 1) := by decide +kernel
theorem pr_151_33 : pj_find 33 pj_m151.2.2.2.2.2.2 = some (.getfield 7, 3) := by decide +kernel
theorem pr_151_36 : pj_find 36 pj_m151.2.2.2.2.2.2 = some (.iload_n 3, 1) := by decide +kernel
theorem pr_151_37 : pj_find 37 pj_m151.2.2.2.2.2.2 = some (.iaload, 1) := by decide +kernel
theorem pr_151_38 : pj_find 38 pj_m151.2.2.2.2.2.2 = some (.iastore, 1) := by decide +kernel
theorem pr_151_39 : pj_find 39 pj_m151.2.2.2.2.2.2 = some (.iinc 3 1, 3) := by decide +kernel
theorem pr_151_42 : pj_find 42 pj_m151.2.2.2.2.2.2 = some (.goto (-23), 3) := by decide +kernel
theorem pr_151_45 : pj_find 45 pj_m151.2.2.2.2.2.2 = some (.iconst 0, 1) := by decide +kernel
theorem pr_151_46 : pj_find 46 pj_m151.2.2.2.2.2.2 = some (.istore_n 3, 1) := by decide +kernel
theorem pr_151_47 : pj_find 47 pj_m151.2.2.2.2.2.2 = some (.iload_n 3, 1) := by decide +kernel
theorem pr_151_48 : pj_find 48 pj_m151.2.2.2.2.2.2 = some (.bipush 16, 2) := by decide +kernel
theorem pr_151_50 : pj_find 50 pj_m151.2.2.2.2.2.2 = some (.if_icmp .ge 26, 3) := by decide +kernel
theorem pr_151_53 : pj_find 53 pj_m151.2.2.2.2.2.2 = some (.aload_n 0, 1) := by decide +kernel
theorem pr_151_54 : pj_find 54 pj_m151.2.2.2.2.2.2 = some (.getfield 32, 3) := by decide +kernel
theorem pr_151_57 : pj_find 57 pj_m151.2.2.2.2.2.2 = some (.iload_n 2, 1) := by decide +kernel
theorem pr_151_58 : pj_find 58 pj_m151.2.2.2.2.2.2 = some (.bipush 32, 2) := by decide +kernel
theorem pr_151_60 : pj_find 60 pj_m151.2.2.2.2.2.2 = some (.iadd, 1) := by decide +kernel
theorem pr_151_61 : pj_find 61 pj_m151.2.2.2.2.2.2 = some (.iload_n 3, 1) := by decide +kernel
theorem pr_151_62 : pj_find 62 pj_m151.2.2.2.2.2.2 = some (.iadd, 1) := by decide +kernel
theorem pr_151_63 : pj_find 63 pj_m151.2.2.2.2.2.2 = some (.aload_n 0, 1) := by decide +kernel
theorem pr_151_64 : pj_find 64 pj_m151.2.2.2.2.2.2 = some (.getfield 16, 3) := by decide +kernel
theorem pr_151_67 : pj_find 67 pj_m151.2.2.2.2.2.2 = some (.iload_n 3, 1) := by decide +kernel
theorem pr_151_68 : pj_find 68 pj_m151.2.2.2.2.2.2 = some (.iaload, 1) := by decide +kernel
theorem pr_151_69 : pj_find 69 pj_m151.2.2.2.2.2.2 = some (.iastore, 1) := by decide +kernel
theorem pr_151_70 : pj_find 70 pj_m151.2.2.2.2.2.2 = some (.iinc 3 1, 3) := by decide +kernel
theorem pr_151_73 : pj_find 73 pj_m151.2.2.2.2.2.2 = some (.goto (-26), 3) := by decide +kernel
theorem pr_151_76 : pj_find 76 pj_m151.2.2.2.2.2.2 = some (.aload_n 0, 1) := by decide +kernel
theorem pr_151_77 : pj_find 77 pj_m151.2.2.2.2.2.2 = some (.getfield 32, 3) := by decide +kernel
theorem pr_151_80 : pj_find 80 pj_m151.2.2.2.2.2.2 = some (.iload_n 2, 1) := by decide +kernel
theorem pr_151_81 : pj_find 81 pj_m151.2.2.2.2.2.2 = some (.bipush 49, 2) := by decide +kernel
theorem pr_151_83 : pj_find 83 pj_m151.2.2.2.2.2.2 = some (.iadd, 1) := by decide +kernel
theorem pr_151_84 : pj_find 84 pj_m151.2.2.2.2.2.2 = some (.aload_n 0, 1) := by decide +kernel
theorem pr_151_85 : pj_find 85 pj_m151.2.2.2.2.2.2 = some (.getfield 140, 3) := by decide +kernel
theorem pr_151_88 : pj_find 88 pj_m151.2.2.2.2.2.2 = some (.iastore, 1) := by decide +kernel
theorem pr_151_89 : pj_find 89 pj_m151.2.2.2.2.2.2 = some (.aload_n 0, 1) := by decide +kernel
theorem pr_151_90 : pj_find 90 pj_m151.2.2.2.2.2.2 = some (.getfield 35, 3) := by decide +kernel
theorem pr_151_93 : pj_find 93 pj_m151.2.2.2.2.2.2 = some (.iload_n 1, 1) := by decide +kernel
theorem pr_151_94 : pj_find 94 pj_m151.2.2.2.2.2.2 = some (.iconst 1, 1) := by decide +kernel
theorem pr_151_95 : pj_find 95 pj_m151.2.2.2.2.2.2 = some (.bastore, 1) := by decide +kernel
theorem pr_151_96 : pj_find 96 pj_m151.2.2.2.2.2.2 = some (.iconst 1, 1) := by decide +kernel
theorem pr_151_97 : pj_find 97 pj_m151.2.2.2.2.2.2 = some (.ireturn, 1) := by decide +kernel
theorem pr_152_0 : pj_find 0 pj_m152.2.2.2.2.2.2 = some (.iload_n 1, 1) := by decide +kernel
theorem pr_152_1 : pj_find 1 pj_m152.2.2.2.2.2.2 = some (.iconst 0, 1) := by decide +kernel
theorem pr_152_2 : pj_find 2 pj_m152.2.2.2.2.2.2 = some (.iconst 1, 1) := by decide +kernel
theorem pr_152_3 : pj_find 3 pj_m152.2.2.2.2.2.2 = some (.invokestatic 39, 3) := by decide +kernel
theorem pr_152_6 : pj_find 6 pj_m152.2.2.2.2.2.2 = some (.ifCond .ne 6, 3) := by decide +kernel
theorem pr_152_9 : pj_find 9 pj_m152.2.2.2.2.2.2 = some (.bipush (-2), 2) := by decide +kernel
theorem pr_152_11 : pj_find 11 pj_m152.2.2.2.2.2.2 = some (.ireturn, 1) := by decide +kernel
theorem pr_152_12 : pj_find 12 pj_m152.2.2.2.2.2.2 = some (.aload_n 0, 1) := by decide +kernel
theorem pr_152_13 : pj_find 13 pj_m152.2.2.2.2.2.2 = some (.getfield 35, 3) := by decide +kernel
theorem pr_152_16 : pj_find 16 pj_m152.2.2.2.2.2.2 = some (.iload_n 1, 1) := by decide +kernel
theorem pr_152_17 : pj_find 17 pj_m152.2.2.2.2.2.2 = some (.baload, 1) := by decide +kernel
theorem pr_152_18 : pj_find 18 pj_m152.2.2.2.2.2.2 = some (.ifCond .ne 6, 3) := by decide +kernel
theorem pr_152_21 : pj_find 21 pj_m152.2.2.2.2.2.2 = some (.bipush (-3), 2) := by decide +kernel
theorem pr_152_23 : pj_find 23 pj_m152.2.2.2.2.2.2 = some (.ireturn, 1) := by decide +kernel
theorem pr_152_24 : pj_find 24 pj_m152.2.2.2.2.2.2 = some (.bipush 50, 2) := by decide +kernel
theorem pr_152_26 : pj_find 26 pj_m152.2.2.2.2.2.2 = some (.iload_n 1, 1) := by decide +kernel
theorem pr_152_27 : pj_find 27 pj_m152.2.2.2.2.2.2 = some (.imul, 1) := by decide +kernel
theorem pr_152_28 : pj_find 28 pj_m152.2.2.2.2.2.2 = some (.istore_n 2, 1) := by decide +kernel
theorem pr_152_29 : pj_find 29 pj_m152.2.2.2.2.2.2 = some (.iconst 0, 1) := by decide +kernel
theorem pr_152_30 : pj_find 30 pj_m152.2.2.2.2.2.2 = some (.istore_n 3, 1) := by decide +kernel
theorem pr_152_31 : pj_find 31 pj_m152.2.2.2.2.2.2 = some (.iload_n 3, 1) := by decide +kernel
theorem pr_152_32 : pj_find 32 pj_m152.2.2.2.2.2.2 = some (.bipush 32, 2) := by decide +kernel
theorem pr_152_34 : pj_find 34 pj_m152.2.2.2.2.2.2 = some (.if_icmp .ge 23, 3) := by decide +kernel
theorem pr_152_37 : pj_find 37 pj_m152.2.2.2.2.2.2 = some (.aload_n 0, 1) := by decide +kernel
theorem pr_152_38 : pj_find 38 pj_m152.2.2.2.2.2.2 = some (.getfield 7, 3) := by decide +kernel
theorem pr_152_41 : pj_find 41 pj_m152.2.2.2.2.2.2 = some (.iload_n 3, 1) := by decide +kernel
theorem pr_152_42 : pj_find 42 pj_m152.2.2.2.2.2.2 = some (.aload_n 0, 1) := by decide +kernel
theorem pr_152_43 : pj_find 43 pj_m152.2.2.2.2.2.2 = some (.getfield 32, 3) := by decide +kernel
theorem pr_152_46 : pj_find 46 pj_m152.2.2.2.2.2.2 = some (.iload_n 2, 1) := by decide +kernel
theorem pr_152_47 : pj_find 47 pj_m152.2.2.2.2.2.2 = some (.iload_n 3, 1) := by decide +kernel
theorem pr_152_48 : pj_find 48 pj_m152.2.2.2.2.2.2 = some (.iadd, 1) := by decide +kernel
theorem pr_152_49 : pj_find 49 pj_m152.2.2.2.2.2.2 = some (.iaload, 1) := by decide +kernel
theorem pr_152_50 : pj_find 50 pj_m152.2.2.2.2.2.2 = some (.iastore, 1) := by decide +kernel
theorem pr_152_51 : pj_find 51 pj_m152.2.2.2.2.2.2 = some (.iinc 3 1, 3) := by decide +kernel
theorem pr_152_54 : pj_find 54 pj_m152.2.2.2.2.2.2 = some (.goto (-23), 3) := by decide +kernel
theorem pr_152_57 : pj_find 57 pj_m152.2.2.2.2.2.2 = some (.iconst 0, 1) := by decide +kernel
theorem pr_152_58 : pj_find 58 pj_m152.2.2.2.2.2.2 = some (.istore_n 3, 1) := by decide +kernel
theorem pr_152_59 : pj_find 59 pj_m152.2.2.2.2.2.2 = some (.iload_n 3, 1) := by decide +kernel
theorem pr_152_60 : pj_find 60 pj_m152.2.2.2.2.2.2 = some (.bipush 16, 2) := by decide +kernel
theorem pr_152_62 : pj_find 62 pj_m152.2.2.2.2.2.2 = some (.if_icmp .ge 26, 3) := by decide +kernel
theorem pr_152_65 : pj_find 65 pj_m152.2.2.2.2.2.2 = some (.aload_n 0, 1) := by decide +kernel
theorem pr_152_66 : pj_find 66 pj_m152.2.2.2.2.2.2 = some (.getfield 16, 3) := by decide +kernel
theorem pr_152_69 : pj_find 69 pj_m152.2.2.2.2.2.2 = some (.iload_n 3, 1) := by decide +kernel
theorem pr_152_70 : pj_find 70 pj_m152.2.2.2.2.2.2 = some (.aload_n 0, 1) := by decide +kernel
theorem pr_152_71 : pj_find 71 pj_m152.2.2.2.2.2.2 = some (.getfield 32, 3) := by decide +kernel
theorem pr_152_74 : pj_find 74 pj_m152.2.2.2.2.2.2 = some (.iload_n 2, 1) := by decide +kernel
theorem pr_152_75 : pj_find 75 pj_m152.2.2.2.2.2.2 = some (.bipush 32, 2) := by decide +kernel
theorem pr_152_77 : pj_find 77 pj_m152.2.2.2.2.2.2 = some (.iadd, 1) := by decide +kernel
theorem pr_152_78 : pj_find 78 pj_m152.2.2.2.2.2.2 = some (.iload_n 3, 1) := by decide +kernel
theorem pr_152_79 : pj_find 79 pj_m152.2.2.2.2.2.2 = some (.iadd, 1) := by decide +kernel
theorem pr_152_80 : pj_find 80 pj_m152.2.2.2.2.2.2 = some (.iaload, 1) := by decide +kernel
theorem pr_152_81 : pj_find 81 pj_m152.2.2.2.2.2.2 = some (.iastore, 1) := by decide +kernel
theorem pr_152_82 : pj_find 82 pj_m152.2.2.2.2.2.2 = some (.iinc 3 1, 3) := by decide +kernel
theorem pr_152_85 : pj_find 85 pj_m152.2.2.2.2.2.2 = some (.goto (-26), 3) := by decide +kernel
theorem pr_152_88 : pj_find 88 pj_m152.2.2.2.2.2.2 = some (.aload_n 0, 1) := by decide +kernel
theorem pr_152_89 : pj_find 89 pj_m152.2.2.2.2.2.2 = some (.aload_n 0, 1) := by decide +kernel
theorem pr_152_90 : pj_find 90 pj_m152.2.2.2.2.2.2 = some (.getfield 32, 3) := by decide +kernel
theorem pr_152_93 : pj_find 93 pj_m152.2.2.2.2.2.2 = some (.iload_n 2, 1) := by decide +kernel
theorem pr_152_94 : pj_find 94 pj_m152.2.2.2.2.2.2 = some (.bipush 49, 2) := by decide +kernel
theorem pr_152_96 : pj_find 96 pj_m152.2.2.2.2.2.2 = some (.iadd, 1) := by decide +kernel
theorem pr_152_97 : pj_find 97 pj_m152.2.2.2.2.2.2 = some (.iaload, 1) := by decide +kernel
theorem pr_152_98 : pj_find 98 pj_m152.2.2.2.2.2.2 = some (.putfield 140, 3) := by decide +kernel
theorem pr_152_101 : pj_find 101 pj_m152.2.2.2.2.2.2 = some (.iconst 1, 1) := by decide +kernel
theorem pr_152_102 : pj_find 102 pj_m152.2.2.2.2.2.2 = some (.ireturn, 1) := by decide +kernel
theorem pr_153_0 : pj_find 0 pj_m153.2.2.2.2.2.2 = some (.iload_n 1, 1) := by decide +kernel
theorem pr_153_1 : pj_find 1 pj_m153.2.2.2.2.2.2 = some (.bipush 40, 2) := by decide +kernel
theorem pr_153_3 : pj_find 3 pj_m153.2.2.2.2.2.2 = some (.if_icmp .lt 29, 3) := by decide +kernel
theorem pr_153_6 : pj_find 6 pj_m153.2.2.2.2.2.2 = some (.iload_n 1, 1) := by decide +kernel
theorem pr_153_7 : pj_find 7 pj_m153.2.2.2.2.2.2 = some (.bipush 41, 2) := by decide +kernel
theorem pr_153_9 : pj_find 9 pj_m153.2.2.2.2.2.2 = some (.bipush 45, 2) := by decide +kernel
theorem pr_153_11 : pj_find 11 pj_m153.2.2.2.2.2.2 = some (.invokestatic 39, 3) := by decide +kernel
theorem pr_153_14 : pj_find 14 pj_m153.2.2.2.2.2.2 = some (.ifCond .eq 15, 3) := by decide +kernel
theorem pr_153_17 : pj_find 17 pj_m153.2.2.2.2.2.2 = some (.aload_n 0, 1) := by decide +kernel
theorem pr_153_18 : pj_find 18 pj_m153.2.2.2.2.2.2 = some (.getfield 7, 3) := by decide +kernel
theorem pr_153_21 : pj_find 21 pj_m153.2.2.2.2.2.2 = some (.iload_n 1, 1) := by decide +kernel
theorem pr_153_22 : pj_find 22 pj_m153.2.2.2.2.2.2 = some (.bipush 16, 2) := by decide +kernel
theorem pr_153_24 : pj_find 24 pj_m153.2.2.2.2.2.2 = some (.isub, 1) := by decide +kernel
theorem pr_153_25 : pj_find 25 pj_m153.2.2.2.2.2.2 = some (.iaload, 1) := by decide +kernel
theorem pr_153_26 : pj_find 26 pj_m153.2.2.2.2.2.2 = some (.goto 5, 3) := by decide +kernel
theorem pr_153_29 : pj_find 29 pj_m153.2.2.2.2.2.2 = some (.bipush (-2), 2) := by decide +kernel
theorem pr_153_31 : pj_find 31 pj_m153.2.2.2.2.2.2 = some (.ireturn, 1) := by decide +kernel
theorem pr_153_32 : pj_find 32 pj_m153.2.2.2.2.2.2 = some (.iload_n 1, 1) := by decide +kernel
theorem pr_153_33 : pj_find 33 pj_m153.2.2.2.2.2.2 = some (.bipush 30, 2) := by decide +kernel
theorem pr_153_35 : pj_find 35 pj_m153.2.2.2.2.2.2 = some (.if_icmp .lt 24, 3) := by decide +kernel
theorem pr_153_38 : pj_find 38 pj_m153.2.2.2.2.2.2 = some (.iload_n 1, 1) := by decide +kernel
theorem pr_153_39 : pj_find 39 pj_m153.2.2.2.2.2.2 = some (.bipush 38, 2) := by decide +kernel
theorem pr_153_41 : pj_find 41 pj_m153.2.2.2.2.2.2 = some (.if_icmp .ge 15, 3) := by decide +kernel
theorem pr_153_44 : pj_find 44 pj_m153.2.2.2.2.2.2 = some (.aload_n 0, 1) := by decide +kernel
theorem pr_153_45 : pj_find 45 pj_m153.2.2.2.2.2.2 = some (.getfield 7, 3) := by decide +kernel
theorem pr_153_48 : pj_find 48 pj_m153.2.2.2.2.2.2 = some (.iload_n 1, 1) := by decide +kernel
theorem pr_153_49 : pj_find 49 pj_m153.2.2.2.2.2.2 = some (.bipush 14, 2) := by decide +kernel
theorem pr_153_51 : pj_find 51 pj_m153.2.2.2.2.2.2 = some (.isub, 1) := by decide +kernel
theorem pr_153_52 : pj_find 52 pj_m153.2.2.2.2.2.2 = some (.iaload, 1) := by decide +kernel
theorem pr_153_53 : pj_find 53 pj_m153.2.2.2.2.2.2 = some (.goto 5, 3) := by decide +kernel
theorem pr_153_56 : pj_find 56 pj_m153.2.2.2.2.2.2 = some (.bipush (-2), 2) := by decide +kernel
theorem pr_153_58 : pj_find 58 pj_m153.2.2.2.2.2.2 = some (.ireturn, 1) := by decide +kernel
theorem pr_153_59 : pj_find 59 pj_m153.2.2.2.2.2.2 = some (.iload_n 1, 1) := by decide +kernel
theorem pr_153_60 : pj_find 60 pj_m153.2.2.2.2.2.2 = some (.bipush 10, 2) := by decide +kernel
theorem pr_153_62 : pj_find 62 pj_m153.2.2.2.2.2.2 = some (.if_icmp .lt 24, 3) := by decide +kernel
theorem pr_153_65 : pj_find 65 pj_m153.2.2.2.2.2.2 = some (.iload_n 1, 1) := by decide +kernel
theorem pr_153_66 : pj_find 66 pj_m153.2.2.2.2.2.2 = some (.bipush 26, 2) := by decide +kernel
theorem pr_153_68 : pj_find 68 pj_m153.2.2.2.2.2.2 = some (.if_icmp .ge 15, 3) := by decide +kernel
theorem pr_153_71 : pj_find 71 pj_m153.2.2.2.2.2.2 = some (.aload_n 0, 1) := by decide +kernel
theorem pr_153_72 : pj_find 72 pj_m153.2.2.2.2.2.2 = some (.getfield 7, 3) := by decide +kernel
theorem pr_153_75 : pj_find 75 pj_m153.2.2.2.2.2.2 = some (.iload_n 1, 1) := by decide +kernel
theorem pr_153_76 : pj_find 76 pj_m153.2.2.2.2.2.2 = some (.bipush 10, 2) := by decide +kernel
theorem pr_153_78 : pj_find 78 pj_m153.2.2.2.2.2.2 = some (.isub, 1) := by decide +kernel
theorem pr_153_79 : pj_find 79 pj_m153.2.2.2.2.2.2 = some (.iaload, 1) := by decide +kernel
theorem pr_153_80 : pj_find 80 pj_m153.2.2.2.2.2.2 = some (.goto 5, 3) := by decide +kernel
theorem pr_153_83 : pj_find 83 pj_m153.2.2.2.2.2.2 = some (.bipush (-2), 2) := by decide +kernel
theorem pr_153_85 : pj_find 85 pj_m153.2.2.2.2.2.2 = some (.ireturn, 1) := by decide +kernel
theorem pr_153_86 : pj_find 86 pj_m153.2.2.2.2.2.2 = some (.iload_n 1, 1) := by decide +kernel
theorem pr_153_87 : pj_find 87 pj_m153.2.2.2.2.2.2 = some (.tableswitch 40 0 2 #[25, 30, 30], 25) := by decide +kernel
theorem pr_153_112 : pj_find 112 pj_m153.2.2.2.2.2.2 = some (.aload_n 0, 1) := by decide +kernel
theorem pr_153_113 : pj_find 113 pj_m153.2.2.2.2.2.2 = some (.getfield 51, 3) := by decide +kernel
theorem pr_153_116 : pj_find 116 pj_m153.2.2.2.2.2.2 = some (.ireturn, 1) := by decide +kernel
theorem pr_153_117 : pj_find 117 pj_m153.2.2.2.2.2.2 = some (.aload_n 0, 1) := by decide +kernel
theorem pr_153_118 : pj_find 118 pj_m153.2.2.2.2.2.2 = some (.getfield 7, 3) := by decide +kernel
theorem pr_153_121 : pj_find 121 pj_m153.2.2.2.2.2.2 = some (.bipush 29, 2) := by decide +kernel
theorem pr_153_123 : pj_find 123 pj_m153.2.2.2.2.2.2 = some (.iload_n 1, 1) := by decide +kernel
theorem pr_153_124 : pj_find 124 pj_m153.2.2.2.2.2.2 = some (.iadd, 1) := by decide +kernel
theorem pr_153_125 : pj_find 125 pj_m153.2.2.2.2.2.2 = some (.iaload, 1) := by decide +kernel
theorem pr_153_126 : pj_find 126 pj_m153.2.2.2.2.2.2 = some (.ireturn, 1) := by decide +kernel
theorem pr_153_127 : pj_find 127 pj_m153.2.2.2.2.2.2 = some (.iload_n 1, 1) := by decide +kernel
theorem pr_153_128 : pj_find 128 pj_m153.2.2.2.2.2.2 = some (.iconst 3, 1) := by decide +kernel
theorem pr_153_129 : pj_find 129 pj_m153.2.2.2.2.2.2 = some (.if_icmp .ne 10, 3) := by decide +kernel
theorem pr_153_132 : pj_find 132 pj_m153.2.2.2.2.2.2 = some (.aload_n 0, 1) := by decide +kernel
theorem pr_153_133 : pj_find 133 pj_m153.2.2.2.2.2.2 = some (.getfield 140, 3) := by decide +kernel
theorem pr_153_136 : pj_find 136 pj_m153.2.2.2.2.2.2 = some (.goto 5, 3) := by decide +kernel
theorem pr_153_139 : pj_find 139 pj_m153.2.2.2.2.2.2 = some (.bipush (-2), 2) := by decide +kernel
theorem pr_153_141 : pj_find 141 pj_m153.2.2.2.2.2.2 = some (.ireturn, 1) := by decide +kernel
theorem pr_154_0 : pj_find 0 pj_m154.2.2.2.2.2.2 = some (.iload_n 0, 1) := by decide +kernel
theorem pr_154_1 : pj_find 1 pj_m154.2.2.2.2.2.2 = some (.iconst (-1), 1) := by decide +kernel
theorem pr_154_2 : pj_find 2 pj_m154.2.2.2.2.2.2 = some (.ixor, 1) := by decide +kernel
theorem pr_154_3 : pj_find 3 pj_m154.2.2.2.2.2.2 = some (.iload_n 0, 1) := by decide +kernel
theorem pr_154_4 : pj_find 4 pj_m154.2.2.2.2.2.2 = some (.iconst 1, 1) := by decide +kernel
theorem pr_154_5 : pj_find 5 pj_m154.2.2.2.2.2.2 = some (.isub, 1) := by decide +kernel
theorem pr_154_6 : pj_find 6 pj_m154.2.2.2.2.2.2 = some (.iand, 1) := by decide +kernel
theorem pr_154_7 : pj_find 7 pj_m154.2.2.2.2.2.2 = some (.istore_n 0, 1) := by decide +kernel
theorem pr_154_8 : pj_find 8 pj_m154.2.2.2.2.2.2 = some (.iload_n 0, 1) := by decide +kernel
theorem pr_154_9 : pj_find 9 pj_m154.2.2.2.2.2.2 = some (.ifCond .gt 8, 3) := by decide +kernel
theorem pr_154_12 : pj_find 12 pj_m154.2.2.2.2.2.2 = some (.iload_n 0, 1) := by decide +kernel
theorem pr_154_13 : pj_find 13 pj_m154.2.2.2.2.2.2 = some (.bipush 32, 2) := by decide +kernel
theorem pr_154_15 : pj_find 15 pj_m154.2.2.2.2.2.2 = some (.iand, 1) := by decide +kernel
theorem pr_154_16 : pj_find 16 pj_m154.2.2.2.2.2.2 = some (.ireturn, 1) := by decide +kernel
theorem pr_154_17 : pj_find 17 pj_m154.2.2.2.2.2.2 = some (.iconst 1, 1) := by decide +kernel
theorem pr_154_18 : pj_find 18 pj_m154.2.2.2.2.2.2 = some (.istore_n 1, 1) := by decide +kernel
theorem pr_154_19 : pj_find 19 pj_m154.2.2.2.2.2.2 = some (.iload_n 0, 1) := by decide +kernel
theorem pr_154_20 : pj_find 20 pj_m154.2.2.2.2.2.2 = some (.ldc_w 264, 3) := by decide +kernel
theorem pr_154_23 : pj_find 23 pj_m154.2.2.2.2.2.2 = some (.if_icmp .le 11, 3) := by decide +kernel
theorem pr_154_26 : pj_find 26 pj_m154.2.2.2.2.2.2 = some (.iinc 1 16, 3) := by decide +kernel
theorem pr_154_29 : pj_find 29 pj_m154.2.2.2.2.2.2 = some (.iload_n 0, 1) := by decide +kernel
theorem pr_154_30 : pj_find 30 pj_m154.2.2.2.2.2.2 = some (.bipush 16, 2) := by decide +kernel
theorem pr_154_32 : pj_find 32 pj_m154.2.2.2.2.2.2 = some (.iushr, 1) := by decide +kernel
theorem pr_154_33 : pj_find 33 pj_m154.2.2.2.2.2.2 = some (.istore_n 0, 1) := by decide +kernel
theorem pr_154_34 : pj_find 34 pj_m154.2.2.2.2.2.2 = some (.iload_n 0, 1) := by decide +kernel
theorem pr_154_35 : pj_find 35 pj_m154.2.2.2.2.2.2 = some (.sipush 256, 3) := by decide +kernel
theorem pr_154_38 : pj_find 38 pj_m154.2.2.2.2.2.2 = some (.if_icmp .le 11, 3) := by decide +kernel
theorem pr_154_41 : pj_find 41 pj_m154.2.2.2.2.2.2 = some (.iinc 1 8, 3) := by decide +kernel
theorem pr_154_44 : pj_find 44 pj_m154.2.2.2.2.2.2 = some (.iload_n 0, 1) := by decide +kernel
theorem pr_154_45 : pj_find 45 pj_m154.2.2.2.2.2.2 = some (.bipush 8, 2) := by decide +kernel
theorem pr_154_47 : pj_find 47 pj_m154.2.2.2.2.2.2 = some (.iushr, 1) := by decide +kernel
theorem pr_154_48 : pj_find 48 pj_m154.2.2.2.2.2.2 = some (.istore_n 0, 1) := by decide +kernel
theorem pr_154_49 : pj_find 49 pj_m154.2.2.2.2.2.2 = some (.iload_n 0, 1) := by decide +kernel
theorem pr_154_50 : pj_find 50 pj_m154.2.2.2.2.2.2 = some (.bipush 16, 2) := by decide +kernel
theorem pr_154_52 : pj_find 52 pj_m154.2.2.2.2.2.2 = some (.if_icmp .le 10, 3) := by decide +kernel
theorem pr_154_55 : pj_find 55 pj_m154.2.2.2.2.2.2 = some (.iinc 1 4, 3) := by decide +kernel
theorem pr_154_58 : pj_find 58 pj_m154.2.2.2.2.2.2 = some (.iload_n 0, 1) := by decide +kernel
theorem pr_154_59 : pj_find 59 pj_m154.2.2.2.2.2.2 = some (.iconst 4, 1) := by decide +kernel
theorem pr_154_60 : pj_find 60 pj_m154.2.2.2.2.2.2 = some (.iushr, 1) := by decide +kernel
theorem pr_154_61 : pj_find 61 pj_m154.2.2.2.2.2.2 = some (.istore_n 0, 1) := by decide +kernel
theorem pr_154_62 : pj_find 62 pj_m154.2.2.2.2.2.2 = some (.iload_n 0, 1) := by decide +kernel
theorem pr_154_63 : pj_find 63 pj_m154.2.2.2.2.2.2 = some (.iconst 4, 1) := by decide +kernel
theorem pr_154_64 : pj_find 64 pj_m154.2.2.2.2.2.2 = some (.if_icmp .le 10, 3) := by decide +kernel
theorem pr_154_67 : pj_find 67 pj_m154.2.2.2.2.2.2 = some (.iinc 1 2, 3) := by decide +kernel
theorem pr_154_70 : pj_find 70 pj_m154.2.2.2.2.2.2 = some (.iload_n 0, 1) := by decide +kernel
theorem pr_154_71 : pj_find 71 pj_m154.2.2.2.2.2.2 = some (.iconst 2, 1) := by decide +kernel
theorem pr_154_72 : pj_find 72 pj_m154.2.2.2.2.2.2 = some (.iushr, 1) := by decide +kernel
theorem pr_154_73 : pj_find 73 pj_m154.2.2.2.2.2.2 = some (.istore_n 0, 1) := by decide +kernel
theorem pr_154_74 : pj_find 74 pj_m154.2.2.2.2.2.2 = some (.iload_n 1, 1) := by decide +kernel
theorem pr_154_75 : pj_find 75 pj_m154.2.2.2.2.2.2 = some (.iload_n 0, 1) := by decide +kernel
theorem pr_154_76 : pj_find 76 pj_m154.2.2.2.2.2.2 = some (.iconst 1, 1) := by decide +kernel
theorem pr_154_77 : pj_find 77 pj_m154.2.2.2.2.2.2 = some (.iushr, 1) := by decide +kernel
theorem pr_154_78 : pj_find 78 pj_m154.2.2.2.2.2.2 = some (.iadd, 1) := by decide +kernel
theorem pr_154_79 : pj_find 79 pj_m154.2.2.2.2.2.2 = some (.ireturn, 1) := by decide +kernel
theorem pr_155_0 : pj_find 0 pj_m155.2.2.2.2.2.2 = some (.iload_n 0, 1) := by decide +kernel
theorem pr_155_1 : pj_find 1 pj_m155.2.2.2.2.2.2 = some (.iload_n 0, 1) := by decide +kernel
theorem pr_155_2 : pj_find 2 pj_m155.2.2.2.2.2.2 = some (.iconst 1, 1) := by decide +kernel
theorem pr_155_3 : pj_find 3 pj_m155.2.2.2.2.2.2 = some (.iushr, 1) := by decide +kernel
theorem pr_155_4 : pj_find 4 pj_m155.2.2.2.2.2.2 = some (.ldc_w 265, 3) := by decide +kernel
theorem pr_155_7 : pj_find 7 pj_m155.2.2.2.2.2.2 = some (.iand, 1) := by decide +kernel
theorem pr_155_8 : pj_find 8 pj_m155.2.2.2.2.2.2 = some (.isub, 1) := by decide +kernel
theorem pr_155_9 : pj_find 9 pj_m155.2.2.2.2.2.2 = some (.istore_n 0, 1) := by decide +kernel
theorem pr_155_10 : pj_find 10 pj_m155.2.2.2.2.2.2 = some (.iload_n 0, 1) := by decide +kernel
theorem pr_155_11 : pj_find 11 pj_m155.2.2.2.2.2.2 = some (.ldc_w 266, 3) := by decide +kernel
theorem pr_155_14 : pj_find 14 pj_m155.2.2.2.2.2.2 = some (.iand, 1) := by decide +kernel
theorem pr_155_15 : pj_find 15 pj_m155.2.2.2.2.2.2 = some (.iload_n 0, 1) := by decide +kernel
theorem pr_155_16 : pj_find 16 pj_m155.2.2.2.2.2.2 = some (.iconst 2, 1) := by decide +kernel
theorem pr_155_17 : pj_find 17 pj_m155.2.2.2.2.2.2 = some (.iushr, 1) := by decide +kernel
theorem pr_155_18 : pj_find 18 pj_m155.2.2.2.2.2.2 = some (.ldc_w 266, 3) := by decide +kernel
theorem pr_155_21 : pj_find 21 pj_m155.2.2.2.2.2.2 = some (.iand, 1) := by decide +kernel
theorem pr_155_22 : pj_find 22 pj_m155.2.2.2.2.2.2 = some (.iadd, 1) := by decide +kernel
theorem pr_155_23 : pj_find 23 pj_m155.2.2.2.2.2.2 = some (.istore_n 0, 1) := by decide +kernel
theorem pr_155_24 : pj_find 24 pj_m155.2.2.2.2.2.2 = some (.iload_n 0, 1) := by decide +kernel
theorem pr_155_25 : pj_find 25 pj_m155.2.2.2.2.2.2 = some (.iload_n 0, 1) := by decide +kernel
theorem pr_155_26 : pj_find 26 pj_m155.2.2.2.2.2.2 = some (.iconst 4, 1) := by decide +kernel
theorem pr_155_27 : pj_find 27 pj_m155.2.2.2.2.2.2 = some (.iushr, 1) := by decide +kernel
theorem pr_155_28 : pj_find 28 pj_m155.2.2.2.2.2.2 = some (.iadd, 1) := by decide +kernel
theorem pr_155_29 : pj_find 29 pj_m155.2.2.2.2.2.2 = some (.ldc_w 267, 3) := by decide +kernel
theorem pr_155_32 : pj_find 32 pj_m155.2.2.2.2.2.2 = some (.iand, 1) := by decide +kernel
theorem pr_155_33 : pj_find 33 pj_m155.2.2.2.2.2.2 = some (.istore_n 0, 1) := by decide +kernel
theorem pr_155_34 : pj_find 34 pj_m155.2.2.2.2.2.2 = some (.iload_n 0, 1) := by decide +kernel
theorem pr_155_35 : pj_find 35 pj_m155.2.2.2.2.2.2 = some (.iload_n 0, 1) := by decide +kernel
theorem pr_155_36 : pj_find 36 pj_m155.2.2.2.2.2.2 = some (.bipush 8, 2) := by decide +kernel
theorem pr_155_38 : pj_find 38 pj_m155.2.2.2.2.2.2 = some (.iushr, 1) := by decide +kernel
theorem pr_155_39 : pj_find 39 pj_m155.2.2.2.2.2.2 = some (.iadd, 1) := by decide +kernel
theorem pr_155_40 : pj_find 40 pj_m155.2.2.2.2.2.2 = some (.istore_n 0, 1) := by decide +kernel
theorem pr_155_41 : pj_find 41 pj_m155.2.2.2.2.2.2 = some (.iload_n 0, 1) := by decide +kernel
theorem pr_155_42 : pj_find 42 pj_m155.2.2.2.2.2.2 = some (.iload_n 0, 1) := by decide +kernel
theorem pr_155_43 : pj_find 43 pj_m155.2.2.2.2.2.2 = some (.bipush 16, 2) := by decide +kernel
theorem pr_155_45 : pj_find 45 pj_m155.2.2.2.2.2.2 = some (.iushr, 1) := by decide +kernel
theorem pr_155_46 : pj_find 46 pj_m155.2.2.2.2.2.2 = some (.iadd, 1) := by decide +kernel
theorem pr_155_47 : pj_find 47 pj_m155.2.2.2.2.2.2 = some (.istore_n 0, 1) := by decide +kernel
theorem pr_155_48 : pj_find 48 pj_m155.2.2.2.2.2.2 = some (.iload_n 0, 1) := by decide +kernel
theorem pr_155_49 : pj_find 49 pj_m155.2.2.2.2.2.2 = some (.bipush 63, 2) := by decide +kernel
theorem pr_155_51 : pj_find 51 pj_m155.2.2.2.2.2.2 = some (.iand, 1) := by decide +kernel
theorem pr_155_52 : pj_find 52 pj_m155.2.2.2.2.2.2 = some (.ireturn, 1) := by decide +kernel
theorem pr_156_0 : pj_find 0 pj_m156.2.2.2.2.2.2 = some (.iconst 0, 1) := by decide +kernel
theorem pr_156_1 : pj_find 1 pj_m156.2.2.2.2.2.2 = some (.istore_n 3, 1) := by decide +kernel
theorem pr_156_2 : pj_find 2 pj_m156.2.2.2.2.2.2 = some (.aload_n 0, 1) := by decide +kernel
theorem pr_156_3 : pj_find 3 pj_m156.2.2.2.2.2.2 = some (.arraylength, 1) := by decide +kernel
theorem pr_156_4 : pj_find 4 pj_m156.2.2.2.2.2.2 = some (.istore 4, 2) := by decide +kernel
theorem pr_156_6 : pj_find 6 pj_m156.2.2.2.2.2.2 = some (.iload_n 3, 1) := by decide +kernel
theorem pr_156_7 : pj_find 7 pj_m156.2.2.2.2.2.2 = some (.iload 4, 2) := by decide +kernel
theorem pr_156_9 : pj_find 9 pj_m156.2.2.2.2.2.2 = some (.if_icmp .ge 13, 3) := by decide +kernel
theorem pr_156_12 : pj_find 12 pj_m156.2.2.2.2.2.2 = some (.aload_n 0, 1) := by decide +kernel
theorem pr_156_13 : pj_find 13 pj_m156.2.2.2.2.2.2 = some (.iload_n 3, 1) := by decide +kernel
theorem pr_156_14 : pj_find 14 pj_m156.2.2.2.2.2.2 = some (.lload_n 1, 1) := by decide +kernel
theorem pr_156_15 : pj_find 15 pj_m156.2.2.2.2.2.2 = some (.lastore, 1) := by decide +kernel
theorem pr_156_16 : pj_find 16 pj_m156.2.2.2.2.2.2 = some (.iinc 3 1, 3) := by decide +kernel
theorem pr_156_19 : pj_find 19 pj_m156.2.2.2.2.2.2 = some (.goto (-13), 3) := by decide +kernel
theorem pr_156_22 : pj_find 22 pj_m156.2.2.2.2.2.2 = some (.return_, 1) := by decide +kernel
theorem pr_157_0 : pj_find 0 pj_m157.2.2.2.2.2.2 = some (.iconst 0, 1) := by decide +kernel
theorem pr_157_1 : pj_find 1 pj_m157.2.2.2.2.2.2 = some (.istore_n 2, 1) := by decide +kernel
theorem pr_157_2 : pj_find 2 pj_m157.2.2.2.2.2.2 = some (.aload_n 0, 1) := by decide +kernel
theorem pr_157_3 : pj_find 3 pj_m157.2.2.2.2.2.2 = some (.arraylength, 1) := by decide +kernel
theorem pr_157_4 : pj_find 4 pj_m157.2.2.2.2.2.2 = some (.istore_n 3, 1) := by decide +kernel
theorem pr_157_5 : pj_find 5 pj_m157.2.2.2.2.2.2 = some (.iload_n 2, 1) := by decide +kernel
theorem pr_157_6 : pj_find 6 pj_m157.2.2.2.2.2.2 = some (.iload_n 3, 1) := by decide +kernel
theorem pr_157_7 : pj_find 7 pj_m157.2.2.2.2.2.2 = some (.if_icmp .ge 13, 3) := by decide +kernel
theorem pr_157_10 : pj_find 10 pj_m157.2.2.2.2.2.2 = some (.aload_n 0, 1) := by decide +kernel
theorem pr_157_11 : pj_find 11 pj_m157.2.2.2.2.2.2 = some (.iload_n 2, 1) := by decide +kernel
theorem pr_157_12 : pj_find 12 pj_m157.2.2.2.2.2.2 = some (.iload_n 1, 1) := by decide +kernel
theorem pr_157_13 : pj_find 13 pj_m157.2.2.2.2.2.2 = some (.iastore, 1) := by decide +kernel
theorem pr_157_14 : pj_find 14 pj_m157.2.2.2.2.2.2 = some (.iinc 2 1, 3) := by decide +kernel
theorem pr_157_17 : pj_find 17 pj_m157.2.2.2.2.2.2 = some (.goto (-12), 3) := by decide +kernel
theorem pr_157_20 : pj_find 20 pj_m157.2.2.2.2.2.2 = some (.return_, 1) := by decide +kernel
theorem pr_158_0 : pj_find 0 pj_mL.2.2.2.2.2.2 = some (.new 7, 3) := by decide +kernel
theorem pr_158_3 : pj_find 3 pj_mL.2.2.2.2.2.2 = some (.dup, 1) := by decide +kernel
theorem pr_158_4 : pj_find 4 pj_mL.2.2.2.2.2.2 = some (.invokespecial 9, 3) := by decide +kernel
theorem pr_158_7 : pj_find 7 pj_mL.2.2.2.2.2.2 = some (.astore_n 1, 1) := by decide +kernel
theorem pr_158_8 : pj_find 8 pj_mL.2.2.2.2.2.2 = some (.new 10, 3) := by decide +kernel
theorem pr_158_11 : pj_find 11 pj_mL.2.2.2.2.2.2 = some (.dup, 1) := by decide +kernel
theorem pr_158_12 : pj_find 12 pj_mL.2.2.2.2.2.2 = some (.invokespecial 12, 3) := by decide +kernel
theorem pr_158_15 : pj_find 15 pj_mL.2.2.2.2.2.2 = some (.astore_n 2, 1) := by decide +kernel
theorem pr_158_16 : pj_find 16 pj_mL.2.2.2.2.2.2 = some (.iconst 0, 1) := by decide +kernel
theorem pr_158_17 : pj_find 17 pj_mL.2.2.2.2.2.2 = some (.istore_n 3, 1) := by decide +kernel
theorem pr_158_18 : pj_find 18 pj_mL.2.2.2.2.2.2 = some (.iload_n 3, 1) := by decide +kernel
theorem pr_158_19 : pj_find 19 pj_mL.2.2.2.2.2.2 = some (.aload_n 0, 1) := by decide +kernel
theorem pr_158_20 : pj_find 20 pj_mL.2.2.2.2.2.2 = some (.arraylength, 1) := by decide +kernel
theorem pr_158_21 : pj_find 21 pj_mL.2.2.2.2.2.2 = some (.iconst 5, 1) := by decide +kernel
theorem pr_158_22 : pj_find 22 pj_mL.2.2.2.2.2.2 = some (.isub, 1) := by decide +kernel
theorem pr_158_23 : pj_find 23 pj_mL.2.2.2.2.2.2 = some (.if_icmp .gt 867, 3) := by decide +kernel
theorem pr_158_26 : pj_find 26 pj_mL.2.2.2.2.2.2 = some (.aload_n 0, 1) := by decide +kernel
theorem pr_158_27 : pj_find 27 pj_mL.2.2.2.2.2.2 = some (.iload_n 3, 1) := by decide +kernel
theorem pr_158_28 : pj_find 28 pj_mL.2.2.2.2.2.2 = some (.iaload, 1) := by decide +kernel
theorem pr_158_29 : pj_find 29 pj_mL.2.2.2.2.2.2 = some (.bipush 31, 2) := by decide +kernel
theorem pr_158_31 : pj_find 31 pj_mL.2.2.2.2.2.2 = some (.iand, 1) := by decide +kernel
theorem pr_158_32 : pj_find 32 pj_mL.2.2.2.2.2.2 = some (.tableswitch 852 0 26 #[124, 167, 200, 233, 256, 269, 282, 305, 318, 351, 374, 397, 430, 453, 476, 509, 522, 545, 594, 607, 630, 653, 686, 740, 783, 806, 829], 124) := by decide +kernel
theorem pr_158_156 : pj_find 156 pj_mL.2.2.2.2.2.2 = some (.aload_n 1, 1) := by decide +kernel
theorem pr_158_157 : pj_find 157 pj_mL.2.2.2.2.2.2 = some (.aload_n 0, 1) := by decide +kernel
theorem pr_158_158 : pj_find 158 pj_mL.2.2.2.2.2.2 = some (.iload_n 3, 1) := by decide +kernel
theorem pr_158_159 : pj_find 159 pj_mL.2.2.2.2.2.2 = some (.iconst 1, 1) := by decide +kernel
theorem pr_158_160 : pj_find 160 pj_mL.2.2.2.2.2.2 = some (.iadd, 1) := by decide +kernel
theorem pr_158_161 : pj_find 161 pj_mL.2.2.2.2.2.2 = some (.iaload, 1) := by decide +kernel
theorem pr_158_162 : pj_find 162 pj_mL.2.2.2.2.2.2 = some (.aload_n 0, 1) := by decide +kernel
theorem pr_158_163 : pj_find 163 pj_mL.2.2.2.2.2.2 = some (.iload_n 3, 1) := by decide +kernel
theorem pr_158_164 : pj_find 164 pj_mL.2.2.2.2.2.2 = some (.iconst 2, 1) := by decide +kernel
theorem pr_158_165 : pj_find 165 pj_mL.2.2.2.2.2.2 = some (.iadd, 1) := by decide +kernel
theorem pr_158_166 : pj_find 166 pj_mL.2.2.2.2.2.2 = some (.iaload, 1) := by decide +kernel
theorem pr_158_167 : pj_find 167 pj_mL.2.2.2.2.2.2 = some (.aload_n 0, 1) := by decide +kernel
theorem pr_158_168 : pj_find 168 pj_mL.2.2.2.2.2.2 = some (.iload_n 3, 1) := by decide +kernel
theorem pr_158_169 : pj_find 169 pj_mL.2.2.2.2.2.2 = some (.iconst 3, 1) := by decide +kernel
theorem pr_158_170 : pj_find 170 pj_mL.2.2.2.2.2.2 = some (.iadd, 1) := by decide +kernel
theorem pr_158_171 : pj_find 171 pj_mL.2.2.2.2.2.2 = some (.iaload, 1) := by decide +kernel
theorem pr_158_172 : pj_find 172 pj_mL.2.2.2.2.2.2 = some (.invokevirtual 13, 3) := by decide +kernel
theorem pr_158_175 : pj_find 175 pj_mL.2.2.2.2.2.2 = some (.aload_n 2, 1) := by decide +kernel
theorem pr_158_176 : pj_find 176 pj_mL.2.2.2.2.2.2 = some (.aload_n 0, 1) := by decide +kernel
theorem pr_158_177 : pj_find 177 pj_mL.2.2.2.2.2.2 = some (.iload_n 3, 1) := by decide +kernel
theorem pr_158_178 : pj_find 178 pj_mL.2.2.2.2.2.2 = some (.iconst 1, 1) := by decide +kernel
theorem pr_158_179 : pj_find 179 pj_mL.2.2.2.2.2.2 = some (.iadd, 1) := by decide +kernel
theorem pr_158_180 : pj_find 180 pj_mL.2.2.2.2.2.2 = some (.iaload, 1) := by decide +kernel
theorem pr_158_181 : pj_find 181 pj_mL.2.2.2.2.2.2 = some (.aload_n 0, 1) := by decide +kernel
theorem pr_158_182 : pj_find 182 pj_mL.2.2.2.2.2.2 = some (.iload_n 3, 1) := by decide +kernel
theorem pr_158_183 : pj_find 183 pj_mL.2.2.2.2.2.2 = some (.iconst 2, 1) := by decide +kernel
theorem pr_158_184 : pj_find 184 pj_mL.2.2.2.2.2.2 = some (.iadd, 1) := by decide +kernel
theorem pr_158_185 : pj_find 185 pj_mL.2.2.2.2.2.2 = some (.iaload, 1) := by decide +kernel
theorem pr_158_186 : pj_find 186 pj_mL.2.2.2.2.2.2 = some (.aload_n 0, 1) := by decide +kernel
theorem pr_158_187 : pj_find 187 pj_mL.2.2.2.2.2.2 = some (.iload_n 3, 1) := by decide +kernel
theorem pr_158_188 : pj_find 188 pj_mL.2.2.2.2.2.2 = some (.iconst 3, 1) := by decide +kernel
theorem pr_158_189 : pj_find 189 pj_mL.2.2.2.2.2.2 = some (.iadd, 1) := by decide +kernel
theorem pr_158_190 : pj_find 190 pj_mL.2.2.2.2.2.2 = some (.iaload, 1) := by decide +kernel
theorem pr_158_191 : pj_find 191 pj_mL.2.2.2.2.2.2 = some (.invokevirtual 17, 3) := by decide +kernel
theorem pr_158_194 : pj_find 194 pj_mL.2.2.2.2.2.2 = some (.if_icmp .eq 690, 3) := by decide +kernel
theorem pr_158_197 : pj_find 197 pj_mL.2.2.2.2.2.2 = some (.iconst 0, 1) := by decide +kernel
theorem pr_158_198 : pj_find 198 pj_mL.2.2.2.2.2.2 = some (.ireturn, 1) := by decide +kernel
theorem pr_158_199 : pj_find 199 pj_mL.2.2.2.2.2.2 = some (.aload_n 1, 1) := by decide +kernel
theorem pr_158_200 : pj_find 200 pj_mL.2.2.2.2.2.2 = some (.aload_n 0, 1) := by decide +kernel
theorem pr_158_201 : pj_find 201 pj_mL.2.2.2.2.2.2 = some (.iload_n 3, 1) := by decide +kernel
theorem pr_158_202 : pj_find 202 pj_mL.2.2.2.2.2.2 = some (.iconst 1, 1) := by decide +kernel
theorem pr_158_203 : pj_find 203 pj_mL.2.2.2.2.2.2 = some (.iadd, 1) := by decide +kernel
theorem pr_158_204 : pj_find 204 pj_mL.2.2.2.2.2.2 = some (.iaload, 1) := by decide +kernel
theorem pr_158_205 : pj_find 205 pj_mL.2.2.2.2.2.2 = some (.aload_n 0, 1) := by decide +kernel
theorem pr_158_206 : pj_find 206 pj_mL.2.2.2.2.2.2 = some (.iload_n 3, 1) := by decide +kernel
theorem pr_158_207 : pj_find 207 pj_mL.2.2.2.2.2.2 = some (.iconst 2, 1) := by decide +kernel
theorem pr_158_208 : pj_find 208 pj_mL.2.2.2.2.2.2 = some (.iadd, 1) := by decide +kernel
theorem pr_158_209 : pj_find 209 pj_mL.2.2.2.2.2.2 = some (.iaload, 1) := by decide +kernel
theorem pr_158_210 : pj_find 210 pj_mL.2.2.2.2.2.2 = some (.invokevirtual 18, 3) := by decide +kernel
theorem pr_158_213 : pj_find 213 pj_mL.2.2.2.2.2.2 = some (.aload_n 2, 1) := by decide +kernel
theorem pr_158_214 : pj_find 214 pj_mL.2.2.2.2.2.2 = some (.aload_n 0, 1) := by decide +kernel
theorem pr_158_215 : pj_find 215 pj_mL.2.2.2.2.2.2 = some (.iload_n 3, 1) := by decide +kernel
theorem pr_158_216 : pj_find 216 pj_mL.2.2.2.2.2.2 = some (.iconst 1, 1) := by decide +kernel
theorem pr_158_217 : pj_find 217 pj_mL.2.2.2.2.2.2 = some (.iadd, 1) := by decide +kernel
theorem pr_158_218 : pj_find 218 pj_mL.2.2.2.2.2.2 = some (.iaload, 1) := by decide +kernel
theorem pr_158_219 : pj_find 219 pj_mL.2.2.2.2.2.2 = some (.aload_n 0, 1) := by decide +kernel
theorem pr_158_220 : pj_find 220 pj_mL.2.2.2.2.2.2 = some (.iload_n 3, 1) := by decide +kernel
theorem pr_158_221 : pj_find 221 pj_mL.2.2.2.2.2.2 = some (.iconst 2, 1) := by decide +kernel
theorem pr_158_222 : pj_find 222 pj_mL.2.2.2.2.2.2 = some (.iadd, 1) := by decide +kernel
theorem pr_158_223 : pj_find 223 pj_mL.2.2.2.2.2.2 = some (.iaload, 1) := by decide +kernel
theorem pr_158_224 : pj_find 224 pj_mL.2.2.2.2.2.2 = some (.invokevirtual 22, 3) := by decide +kernel
theorem pr_158_227 : pj_find 227 pj_mL.2.2.2.2.2.2 = some (.if_icmp .eq 657, 3) := by decide +kernel
theorem pr_158_230 : pj_find 230 pj_mL.2.2.2.2.2.2 = some (.iconst 0, 1) := by decide +kernel
theorem pr_158_231 : pj_find 231 pj_mL.2.2.2.2.2.2 = some (.ireturn, 1) := by decide +kernel
theorem pr_158_232 : pj_find 232 pj_mL.2.2.2.2.2.2 = some (.aload_n 1, 1) := by decide +kernel
theorem pr_158_233 : pj_find 233 pj_mL.2.2.2.2.2.2 = some (.aload_n 0, 1) := by decide +kernel
theorem pr_158_234 : pj_find 234 pj_mL.2.2.2.2.2.2 = some (.iload_n 3, 1) := by decide +kernel
theorem pr_158_235 : pj_find 235 pj_mL.2.2.2.2.2.2 = some (.iconst 1, 1) := by decide +kernel
theorem pr_158_236 : pj_find 236 pj_mL.2.2.2.2.2.2 = some (.iadd, 1) := by decide +kernel
theorem pr_158_237 : pj_find 237 pj_mL.2.2.2.2.2.2 = some (.iaload, 1) := by decide +kernel
theorem pr_158_238 : pj_find 238 pj_mL.2.2.2.2.2.2 = some (.aload_n 0, 1) := by decide +kernel
theorem pr_158_239 : pj_find 239 pj_mL.2.2.2.2.2.2 = some (.iload_n 3, 1) := by decide +kernel
theorem pr_158_240 : pj_find 240 pj_mL.2.2.2.2.2.2 = some (.iconst 2, 1) := by decide +kernel
theorem pr_158_241 : pj_find 241 pj_mL.2.2.2.2.2.2 = some (.iadd, 1) := by decide +kernel
theorem pr_158_242 : pj_find 242 pj_mL.2.2.2.2.2.2 = some (.iaload, 1) := by decide +kernel
theorem pr_158_243 : pj_find 243 pj_mL.2.2.2.2.2.2 = some (.invokevirtual 23, 3) := by decide +kernel
theorem pr_158_246 : pj_find 246 pj_mL.2.2.2.2.2.2 = some (.aload_n 2, 1) := by decide +kernel
theorem pr_158_247 : pj_find 247 pj_mL.2.2.2.2.2.2 = some (.aload_n 0, 1) := by decide +kernel
theorem pr_158_248 : pj_find 248 pj_mL.2.2.2.2.2.2 = some (.iload_n 3, 1) := by decide +kernel
theorem pr_158_249 : pj_find 249 pj_mL.2.2.2.2.2.2 = some (.iconst 1, 1) := by decide +kernel
theorem pr_158_250 : pj_find 250 pj_mL.2.2.2.2.2.2 = some (.iadd, 1) := by decide +kernel
theorem pr_158_251 : pj_find 251 pj_mL.2.2.2.2.2.2 = some (.iaload, 1) := by decide +kernel
theorem pr_158_252 : pj_find 252 pj_mL.2.2.2.2.2.2 = some (.aload_n 0, 1) := by decide +kernel
theorem pr_158_253 : pj_find 253 pj_mL.2.2.2.2.2.2 = some (.iload_n 3, 1) := by decide +kernel
theorem pr_158_254 : pj_find 254 pj_mL.2.2.2.2.2.2 = some (.iconst 2, 1) := by decide +kernel
theorem pr_158_255 : pj_find 255 pj_mL.2.2.2.2.2.2 = some (.iadd, 1) := by decide +kernel
theorem pr_158_256 : pj_find 256 pj_mL.2.2.2.2.2.2 = some (.iaload, 1) := by decide +kernel
theorem pr_158_257 : pj_find 257 pj_mL.2.2.2.2.2.2 = some (.invokevirtual 26, 3) := by decide +kernel
theorem pr_158_260 : pj_find 260 pj_mL.2.2.2.2.2.2 = some (.if_icmp .eq 624, 3) := by decide +kernel
theorem pr_158_263 : pj_find 263 pj_mL.2.2.2.2.2.2 = some (.iconst 0, 1) := by decide +kernel
theorem pr_158_264 : pj_find 264 pj_mL.2.2.2.2.2.2 = some (.ireturn, 1) := by decide +kernel
theorem pr_158_265 : pj_find 265 pj_mL.2.2.2.2.2.2 = some (.aload_n 1, 1) := by decide +kernel
theorem pr_158_266 : pj_find 266 pj_mL.2.2.2.2.2.2 = some (.aload_n 0, 1) := by decide +kernel
theorem pr_158_267 : pj_find 267 pj_mL.2.2.2.2.2.2 = some (.iload_n 3, 1) := by decide +kernel
theorem pr_158_268 : pj_find 268 pj_mL.2.2.2.2.2.2 = some (.iconst 1, 1) := by decide +kernel
theorem pr_158_269 : pj_find 269 pj_mL.2.2.2.2.2.2 = some (.iadd, 1) := by decide +kernel
theorem pr_158_270 : pj_find 270 pj_mL.2.2.2.2.2.2 = some (.iaload, 1) := by decide +kernel
theorem pr_158_271 : pj_find 271 pj_mL.2.2.2.2.2.2 = some (.invokevirtual 27, 3) := by decide +kernel
theorem pr_158_274 : pj_find 274 pj_mL.2.2.2.2.2.2 = some (.aload_n 2, 1) := by decide +kernel
theorem pr_158_275 : pj_find 275 pj_mL.2.2.2.2.2.2 = some (.aload_n 0, 1) := by decide +kernel
theorem pr_158_276 : pj_find 276 pj_mL.2.2.2.2.2.2 = some (.iload_n 3, 1) := by decide +kernel
theorem pr_158_277 : pj_find 277 pj_mL.2.2.2.2.2.2 = some (.iconst 1, 1) := by decide +kernel
theorem pr_158_278 : pj_find 278 pj_mL.2.2.2.2.2.2 = some (.iadd, 1) := by decide +kernel
theorem pr_158_279 : pj_find 279 pj_mL.2.2.2.2.2.2 = some (.iaload, 1) := by decide +kernel
theorem pr_158_280 : pj_find 280 pj_mL.2.2.2.2.2.2 = some (.invokevirtual 31, 3) := by decide +kernel
theorem pr_158_283 : pj_find 283 pj_mL.2.2.2.2.2.2 = some (.if_icmp .eq 601, 3) := by decide +kernel
theorem pr_158_286 : pj_find 286 pj_mL.2.2.2.2.2.2 = some (.iconst 0, 1) := by decide +kernel
theorem pr_158_287 : pj_find 287 pj_mL.2.2.2.2.2.2 = some (.ireturn, 1) := by decide +kernel
theorem pr_158_288 : pj_find 288 pj_mL.2.2.2.2.2.2 = some (.aload_n 1, 1) := by decide +kernel
theorem pr_158_289 : pj_find 289 pj_mL.2.2.2.2.2.2 = some (.invokevirtual 32, 3) := by decide +kernel
theorem pr_158_292 : pj_find 292 pj_mL.2.2.2.2.2.2 = some (.aload_n 2, 1) := by decide +kernel
theorem pr_158_293 : pj_find 293 pj_mL.2.2.2.2.2.2 = some (.invokevirtual 36, 3) := by decide +kernel
theorem pr_158_296 : pj_find 296 pj_mL.2.2.2.2.2.2 = some (.if_icmp .eq 588, 3) := by decide +kernel
theorem pr_158_299 : pj_find 299 pj_mL.2.2.2.2.2.2 = some (.iconst 0, 1) := by decide +kernel
theorem pr_158_300 : pj_find 300 pj_mL.2.2.2.2.2.2 = some (.ireturn, 1) := by decide +kernel
theorem pr_158_301 : pj_find 301 pj_mL.2.2.2.2.2.2 = some (.aload_n 1, 1) := by decide +kernel
theorem pr_158_302 : pj_find 302 pj_mL.2.2.2.2.2.2 = some (.invokevirtual 37, 3) := by decide +kernel
theorem pr_158_305 : pj_find 305 pj_mL.2.2.2.2.2.2 = some (.aload_n 2, 1) := by decide +kernel
theorem pr_158_306 : pj_find 306 pj_mL.2.2.2.2.2.2 = some (.invokevirtual 40, 3) := by decide +kernel
theorem pr_158_309 : pj_find 309 pj_mL.2.2.2.2.2.2 = some (.if_icmp .eq 575, 3) := by decide +kernel
theorem pr_158_312 : pj_find 312 pj_mL.2.2.2.2.2.2 = some (.iconst 0, 1) := by decide +kernel
theorem pr_158_313 : pj_find 313 pj_mL.2.2.2.2.2.2 = some (.ireturn, 1) := by decide +kernel
theorem pr_158_314 : pj_find 314 pj_mL.2.2.2.2.2.2 = some (.aload_n 1, 1) := by decide +kernel
theorem pr_158_315 : pj_find 315 pj_mL.2.2.2.2.2.2 = some (.aload_n 0, 1) := by decide +kernel
theorem pr_158_316 : pj_find 316 pj_mL.2.2.2.2.2.2 = some (.iload_n 3, 1) := by decide +kernel
theorem pr_158_317 : pj_find 317 pj_mL.2.2.2.2.2.2 = some (.iconst 1, 1) := by decide +kernel
theorem pr_158_318 : pj_find 318 pj_mL.2.2.2.2.2.2 = some (.iadd, 1) := by decide +kernel
theorem pr_158_319 : pj_find 319 pj_mL.2.2.2.2.2.2 = some (.iaload, 1) := by decide +kernel
theorem pr_158_320 : pj_find 320 pj_mL.2.2.2.2.2.2 = some (.invokevirtual 41, 3) := by decide +kernel
theorem pr_158_323 : pj_find 323 pj_mL.2.2.2.2.2.2 = some (.aload_n 2, 1) := by decide +kernel
theorem pr_158_324 : pj_find 324 pj_mL.2.2.2.2.2.2 = some (.aload_n 0, 1) := by decide +kernel
theorem pr_158_325 : pj_find 325 pj_mL.2.2.2.2.2.2 = some (.iload_n 3, 1) := by decide +kernel
theorem pr_158_326 : pj_find 326 pj_mL.2.2.2.2.2.2 = some (.iconst 1, 1) := by decide +kernel
theorem pr_158_327 : pj_find 327 pj_mL.2.2.2.2.2.2 = some (.iadd, 1) := by decide +kernel
theorem pr_158_328 : pj_find 328 pj_mL.2.2.2.2.2.2 = some (.iaload, 1) := by decide +kernel
theorem pr_158_329 : pj_find 329 pj_mL.2.2.2.2.2.2 = some (.invokevirtual 44, 3) := by decide +kernel
theorem pr_158_332 : pj_find 332 pj_mL.2.2.2.2.2.2 = some (.if_icmp .eq 552, 3) := by decide +kernel
theorem pr_158_335 : pj_find 335 pj_mL.2.2.2.2.2.2 = some (.iconst 0, 1) := by decide +kernel
theorem pr_158_336 : pj_find 336 pj_mL.2.2.2.2.2.2 = some (.ireturn, 1) := by decide +kernel
theorem pr_158_337 : pj_find 337 pj_mL.2.2.2.2.2.2 = some (.aload_n 1, 1) := by decide +kernel
theorem pr_158_338 : pj_find 338 pj_mL.2.2.2.2.2.2 = some (.invokevirtual 45, 3) := by decide +kernel
theorem pr_158_341 : pj_find 341 pj_mL.2.2.2.2.2.2 = some (.aload_n 2, 1) := by decide +kernel
theorem pr_158_342 : pj_find 342 pj_mL.2.2.2.2.2.2 = some (.invokevirtual 48, 3) := by decide +kernel
theorem pr_158_345 : pj_find 345 pj_mL.2.2.2.2.2.2 = some (.if_icmp .eq 539, 3) := by decide +kernel
theorem pr_158_348 : pj_find 348 pj_mL.2.2.2.2.2.2 = some (.iconst 0, 1) := by decide +kernel
theorem pr_158_349 : pj_find 349 pj_mL.2.2.2.2.2.2 = some (.ireturn, 1) := by decide +kernel
theorem pr_158_350 : pj_find 350 pj_mL.2.2.2.2.2.2 = some (.aload_n 1, 1) := by decide +kernel
theorem pr_158_351 : pj_find 351 pj_mL.2.2.2.2.2.2 = some (.aload_n 0, 1) := by decide +kernel
theorem pr_158_352 : pj_find 352 pj_mL.2.2.2.2.2.2 = some (.iload_n 3, 1) := by decide +kernel
theorem pr_158_353 : pj_find 353 pj_mL.2.2.2.2.2.2 = some (.iconst 1, 1) := by decide +kernel
theorem pr_158_354 : pj_find 354 pj_mL.2.2.2.2.2.2 = some (.iadd, 1) := by decide +kernel
theorem pr_158_355 : pj_find 355 pj_mL.2.2.2.2.2.2 = some (.iaload, 1) := by decide +kernel
theorem pr_158_356 : pj_find 356 pj_mL.2.2.2.2.2.2 = some (.aload_n 0, 1) := by decide +kernel
theorem pr_158_357 : pj_find 357 pj_mL.2.2.2.2.2.2 = some (.iload_n 3, 1) := by decide +kernel
theorem pr_158_358 : pj_find 358 pj_mL.2.2.2.2.2.2 = some (.iconst 2, 1) := by decide +kernel
theorem pr_158_359 : pj_find 359 pj_mL.2.2.2.2.2.2 = some (.iadd, 1) := by decide +kernel
theorem pr_158_360 : pj_find 360 pj_mL.2.2.2.2.2.2 = some (.iaload, 1) := by decide +kernel
theorem pr_158_361 : pj_find 361 pj_mL.2.2.2.2.2.2 = some (.invokevirtual 49, 3) := by decide +kernel
theorem pr_158_364 : pj_find 364 pj_mL.2.2.2.2.2.2 = some (.aload_n 2, 1) := by decide +kernel
theorem pr_158_365 : pj_find 365 pj_mL.2.2.2.2.2.2 = some (.aload_n 0, 1) := by decide +kernel
theorem pr_158_366 : pj_find 366 pj_mL.2.2.2.2.2.2 = some (.iload_n 3, 1) := by decide +kernel
theorem pr_158_367 : pj_find 367 pj_mL.2.2.2.2.2.2 = some (.iconst 1, 1) := by decide +kernel
theorem pr_158_368 : pj_find 368 pj_mL.2.2.2.2.2.2 = some (.iadd, 1) := by decide +kernel
theorem pr_158_369 : pj_find 369 pj_mL.2.2.2.2.2.2 = some (.iaload, 1) := by decide +kernel
theorem pr_158_370 : pj_find 370 pj_mL.2.2.2.2.2.2 = some (.aload_n 0, 1) := by decide +kernel
theorem pr_158_371 : pj_find 371 pj_mL.2.2.2.2.2.2 = some (.iload_n 3, 1) := by decide +kernel
theorem pr_158_372 : pj_find 372 pj_mL.2.2.2.2.2.2 = some (.iconst 2, 1) := by decide +kernel
theorem pr_158_373 : pj_find 373 pj_mL.2.2.2.2.2.2 = some (.iadd, 1) := by decide +kernel
theorem pr_158_374 : pj_find 374 pj_mL.2.2.2.2.2.2 = some (.iaload, 1) := by decide +kernel
theorem pr_158_375 : pj_find 375 pj_mL.2.2.2.2.2.2 = some (.invokevirtual 52, 3) := by decide +kernel
theorem pr_158_378 : pj_find 378 pj_mL.2.2.2.2.2.2 = some (.if_icmp .eq 506, 3) := by decide +kernel
theorem pr_158_381 : pj_find 381 pj_mL.2.2.2.2.2.2 = some (.iconst 0, 1) := by decide +kernel
theorem pr_158_382 : pj_find 382 pj_mL.2.2.2.2.2.2 = some (.ireturn, 1) := by decide +kernel
theorem pr_158_383 : pj_find 383 pj_mL.2.2.2.2.2.2 = some (.aload_n 1, 1) := by decide +kernel
theorem pr_158_384 : pj_find 384 pj_mL.2.2.2.2.2.2 = some (.aload_n 0, 1) := by decide +kernel
theorem pr_158_385 : pj_find 385 pj_mL.2.2.2.2.2.2 = some (.iload_n 3, 1) := by decide +kernel
theorem pr_158_386 : pj_find 386 pj_mL.2.2.2.2.2.2 = some (.iconst 1, 1) := by decide +kernel
theorem pr_158_387 : pj_find 387 pj_mL.2.2.2.2.2.2 = some (.iadd, 1) := by decide +kernel
theorem pr_158_388 : pj_find 388 pj_mL.2.2.2.2.2.2 = some (.iaload, 1) := by decide +kernel
theorem pr_158_389 : pj_find 389 pj_mL.2.2.2.2.2.2 = some (.invokevirtual 53, 3) := by decide +kernel
theorem pr_158_392 : pj_find 392 pj_mL.2.2.2.2.2.2 = some (.aload_n 2, 1) := by decide +kernel
theorem pr_158_393 : pj_find 393 pj_mL.2.2.2.2.2.2 = some (.aload_n 0, 1) := by decide +kernel
theorem pr_158_394 : pj_find 394 pj_mL.2.2.2.2.2.2 = some (.iload_n 3, 1) := by decide +kernel
theorem pr_158_395 : pj_find 395 pj_mL.2.2.2.2.2.2 = some (.iconst 1, 1) := by decide +kernel
theorem pr_158_396 : pj_find 396 pj_mL.2.2.2.2.2.2 = some (.iadd, 1) := by decide +kernel
theorem pr_158_397 : pj_find 397 pj_mL.2.2.2.2.2.2 = some (.iaload, 1) := by decide +kernel
theorem pr_158_398 : pj_find 398 pj_mL.2.2.2.2.2.2 = some (.invokevirtual 56, 3) := by decide +kernel
theorem pr_158_401 : pj_find 401 pj_mL.2.2.2.2.2.2 = some (.if_icmp .eq 483, 3) := by decide +kernel
theorem pr_158_404 : pj_find 404 pj_mL.2.2.2.2.2.2 = some (.iconst 0, 1) := by decide +kernel
theorem pr_158_405 : pj_find 405 pj_mL.2.2.2.2.2.2 = some (.ireturn, 1) := by decide +kernel
theorem pr_158_406 : pj_find 406 pj_mL.2.2.2.2.2.2 = some (.aload_n 1, 1) := by decide +kernel
theorem pr_158_407 : pj_find 407 pj_mL.2.2.2.2.2.2 = some (.aload_n 0, 1) := by decide +kernel
theorem pr_158_408 : pj_find 408 pj_mL.2.2.2.2.2.2 = some (.iload_n 3, 1) := by decide +kernel
theorem pr_158_409 : pj_find 409 pj_mL.2.2.2.2.2.2 = some (.iconst 1, 1) := by decide +kernel
theorem pr_158_410 : pj_find 410 pj_mL.2.2.2.2.2.2 = some (.iadd, 1) := by decide +kernel
theorem pr_158_411 : pj_find 411 pj_mL.2.2.2.2.2.2 = some (.iaload, 1) := by decide +kernel
theorem pr_158_412 : pj_find 412 pj_mL.2.2.2.2.2.2 = some (.invokevirtual 57, 3) := by decide +kernel
theorem pr_158_415 : pj_find 415 pj_mL.2.2.2.2.2.2 = some (.aload_n 2, 1) := by decide +kernel
theorem pr_158_416 : pj_find 416 pj_mL.2.2.2.2.2.2 = some (.aload_n 0, 1) := by decide +kernel
theorem pr_158_417 : pj_find 417 pj_mL.2.2.2.2.2.2 = some (.iload_n 3, 1) := by decide +kernel
theorem pr_158_418 : pj_find 418 pj_mL.2.2.2.2.2.2 = some (.iconst 1, 1) := by decide +kernel
theorem pr_158_419 : pj_find 419 pj_mL.2.2.2.2.2.2 = some (.iadd, 1) := by decide +kernel
theorem pr_158_420 : pj_find 420 pj_mL.2.2.2.2.2.2 = some (.iaload, 1) := by decide +kernel
theorem pr_158_421 : pj_find 421 pj_mL.2.2.2.2.2.2 = some (.invokevirtual 60, 3) := by decide +kernel
theorem pr_158_424 : pj_find 424 pj_mL.2.2.2.2.2.2 = some (.if_icmp .eq 460, 3) := by decide +kernel
theorem pr_158_427 : pj_find 427 pj_mL.2.2.2.2.2.2 = some (.iconst 0, 1) := by decide +kernel
theorem pr_158_428 : pj_find 428 pj_mL.2.2.2.2.2.2 = some (.ireturn, 1) := by decide +kernel
theorem pr_158_429 : pj_find 429 pj_mL.2.2.2.2.2.2 = some (.aload_n 1, 1) := by decide +kernel
theorem pr_158_430 : pj_find 430 pj_mL.2.2.2.2.2.2 = some (.aload_n 0, 1) := by decide +kernel
theorem pr_158_431 : pj_find 431 pj_mL.2.2.2.2.2.2 = some (.iload_n 3, 1) := by decide +kernel
theorem pr_158_432 : pj_find 432 pj_mL.2.2.2.2.2.2 = some (.iconst 1, 1) := by decide +kernel
theorem pr_158_433 : pj_find 433 pj_mL.2.2.2.2.2.2 = some (.iadd, 1) := by decide +kernel
theorem pr_158_434 : pj_find 434 pj_mL.2.2.2.2.2.2 = some (.iaload, 1) := by decide +kernel
theorem pr_158_435 : pj_find 435 pj_mL.2.2.2.2.2.2 = some (.aload_n 0, 1) := by decide +kernel
theorem pr_158_436 : pj_find 436 pj_mL.2.2.2.2.2.2 = some (.iload_n 3, 1) := by decide +kernel
theorem pr_158_437 : pj_find 437 pj_mL.2.2.2.2.2.2 = some (.iconst 2, 1) := by decide +kernel
theorem pr_158_438 : pj_find 438 pj_mL.2.2.2.2.2.2 = some (.iadd, 1) := by decide +kernel
theorem pr_158_439 : pj_find 439 pj_mL.2.2.2.2.2.2 = some (.iaload, 1) := by decide +kernel
theorem pr_158_440 : pj_find 440 pj_mL.2.2.2.2.2.2 = some (.invokevirtual 61, 3) := by decide +kernel
theorem pr_158_443 : pj_find 443 pj_mL.2.2.2.2.2.2 = some (.aload_n 2, 1) := by decide +kernel
theorem pr_158_444 : pj_find 444 pj_mL.2.2.2.2.2.2 = some (.aload_n 0, 1) := by decide +kernel
theorem pr_158_445 : pj_find 445 pj_mL.2.2.2.2.2.2 = some (.iload_n 3, 1) := by decide +kernel
theorem pr_158_446 : pj_find 446 pj_mL.2.2.2.2.2.2 = some (.iconst 1, 1) := by decide +kernel
theorem pr_158_447 : pj_find 447 pj_mL.2.2.2.2.2.2 = some (.iadd, 1) := by decide +kernel
theorem pr_158_448 : pj_find 448 pj_mL.2.2.2.2.2.2 = some (.iaload, 1) := by decide +kernel
theorem pr_158_449 : pj_find 449 pj_mL.2.2.2.2.2.2 = some (.aload_n 0, 1) := by decide +kernel
theorem pr_158_450 : pj_find 450 pj_mL.2.2.2.2.2.2 = some (.iload_n 3, 1) := by decide +kernel
theorem pr_158_451 : pj_find 451 pj_mL.2.2.2.2.2.2 = some (.iconst 2, 1) := by decide +kernel
theorem pr_158_452 : pj_find 452 pj_mL.2.2.2.2.2.2 = some (.iadd, 1) := by decide +kernel
theorem pr_158_453 : pj_find 453 pj_mL.2.2.2.2.2.2 = some (.iaload, 1) := by decide +kernel
theorem pr_158_454 : pj_find 454 pj_mL.2.2.2.2.2.2 = some (.invokevirtual 64, 3) := by decide +kernel
theorem pr_158_457 : pj_find 457 pj_mL.2.2.2.2.2.2 = some (.if_icmp .eq 427, 3) := by decide +kernel
theorem pr_158_460 : pj_find 460 pj_mL.2.2.2.2.2.2 = some (.iconst 0, 1) := by decide +kernel
theorem pr_158_461 : pj_find 461 pj_mL.2.2.2.2.2.2 = some (.ireturn, 1) := by decide +kernel
theorem pr_158_462 : pj_find 462 pj_mL.2.2.2.2.2.2 = some (.aload_n 1, 1) := by decide +kernel
theorem pr_158_463 : pj_find 463 pj_mL.2.2.2.2.2.2 = some (.aload_n 0, 1) := by decide +kernel
theorem pr_158_464 : pj_find 464 pj_mL.2.2.2.2.2.2 = some (.iload_n 3, 1) := by decide +kernel
theorem pr_158_465 : pj_find 465 pj_mL.2.2.2.2.2.2 = some (.iconst 1, 1) := by decide +kernel
theorem pr_158_466 : pj_find 466 pj_mL.2.2.2.2.2.2 = some (.iadd, 1) := by decide +kernel
theorem pr_158_467 : pj_find 467 pj_mL.2.2.2.2.2.2 = some (.iaload, 1) := by decide +kernel
theorem pr_158_468 : pj_find 468 pj_mL.2.2.2.2.2.2 = some (.invokevirtual 65, 3) := by decide +kernel
theorem pr_158_471 : pj_find 471 pj_mL.2.2.2.2.2.2 = some (.aload_n 2, 1) := by decide +kernel
theorem pr_158_472 : pj_find 472 pj_mL.2.2.2.2.2.2 = some (.aload_n 0, 1) := by decide +kernel
theorem pr_158_473 : pj_find 473 pj_mL.2.2.2.2.2.2 = some (.iload_n 3, 1) := by decide +kernel
theorem pr_158_474 : pj_find 474 pj_mL.2.2.2.2.2.2 = some (.iconst 1, 1) := by decide +kernel
theorem pr_158_475 : pj_find 475 pj_mL.2.2.2.2.2.2 = some (.iadd, 1) := by decide +kernel
theorem pr_158_476 : pj_find 476 pj_mL.2.2.2.2.2.2 = some (.iaload, 1) := by decide +kernel
theorem pr_158_477 : pj_find 477 pj_mL.2.2.2.2.2.2 = some (.invokevirtual 68, 3) := by decide +kernel
theorem pr_158_480 : pj_find 480 pj_mL.2.2.2.2.2.2 = some (.if_icmp .eq 404, 3) := by decide +kernel
theorem pr_158_483 : pj_find 483 pj_mL.2.2.2.2.2.2 = some (.iconst 0, 1) := by decide +kernel
theorem pr_158_484 : pj_find 484 pj_mL.2.2.2.2.2.2 = some (.ireturn, 1) := by decide +kernel
theorem pr_158_485 : pj_find 485 pj_mL.2.2.2.2.2.2 = some (.aload_n 1, 1) := by decide +kernel
theorem pr_158_486 : pj_find 486 pj_mL.2.2.2.2.2.2 = some (.aload_n 0, 1) := by decide +kernel
theorem pr_158_487 : pj_find 487 pj_mL.2.2.2.2.2.2 = some (.iload_n 3, 1) := by decide +kernel
theorem pr_158_488 : pj_find 488 pj_mL.2.2.2.2.2.2 = some (.iconst 1, 1) := by decide +kernel
theorem pr_158_489 : pj_find 489 pj_mL.2.2.2.2.2.2 = some (.iadd, 1) := by decide +kernel
theorem pr_158_490 : pj_find 490 pj_mL.2.2.2.2.2.2 = some (.iaload, 1) := by decide +kernel
theorem pr_158_491 : pj_find 491 pj_mL.2.2.2.2.2.2 = some (.invokevirtual 69, 3) := by decide +kernel
theorem pr_158_494 : pj_find 494 pj_mL.2.2.2.2.2.2 = some (.aload_n 2, 1) := by decide +kernel
theorem pr_158_495 : pj_find 495 pj_mL.2.2.2.2.2.2 = some (.aload_n 0, 1) := by decide +kernel
theorem pr_158_496 : pj_find 496 pj_mL.2.2.2.2.2.2 = some (.iload_n 3, 1) := by decide +kernel
theorem pr_158_497 : pj_find 497 pj_mL.2.2.2.2.2.2 = some (.iconst 1, 1) := by decide +kernel
theorem pr_158_498 : pj_find 498 pj_mL.2.2.2.2.2.2 = some (.iadd, 1) := by decide +kernel
theorem pr_158_499 : pj_find 499 pj_mL.2.2.2.2.2.2 = some (.iaload, 1) := by decide +kernel
theorem pr_158_500 : pj_find 500 pj_mL.2.2.2.2.2.2 = some (.invokevirtual 72, 3) := by decide +kernel
theorem pr_158_503 : pj_find 503 pj_mL.2.2.2.2.2.2 = some (.if_icmp .eq 381, 3) := by decide +kernel
theorem pr_158_506 : pj_find 506 pj_mL.2.2.2.2.2.2 = some (.iconst 0, 1) := by decide +kernel
theorem pr_158_507 : pj_find 507 pj_mL.2.2.2.2.2.2 = some (.ireturn, 1) := by decide +kernel
theorem pr_158_508 : pj_find 508 pj_mL.2.2.2.2.2.2 = some (.aload_n 1, 1) := by decide +kernel
theorem pr_158_509 : pj_find 509 pj_mL.2.2.2.2.2.2 = some (.aload_n 0, 1) := by decide +kernel
theorem pr_158_510 : pj_find 510 pj_mL.2.2.2.2.2.2 = some (.iload_n 3, 1) := by decide +kernel
theorem pr_158_511 : pj_find 511 pj_mL.2.2.2.2.2.2 = some (.iconst 1, 1) := by decide +kernel
theorem pr_158_512 : pj_find 512 pj_mL.2.2.2.2.2.2 = some (.iadd, 1) := by decide +kernel
theorem pr_158_513 : pj_find 513 pj_mL.2.2.2.2.2.2 = some (.iaload, 1) := by decide +kernel
theorem pr_158_514 : pj_find 514 pj_mL.2.2.2.2.2.2 = some (.aload_n 0, 1) := by decide +kernel
theorem pr_158_515 : pj_find 515 pj_mL.2.2.2.2.2.2 = some (.iload_n 3, 1) := by decide +kernel
theorem pr_158_516 : pj_find 516 pj_mL.2.2.2.2.2.2 = some (.iconst 2, 1) := by decide +kernel
theorem pr_158_517 : pj_find 517 pj_mL.2.2.2.2.2.2 = some (.iadd, 1) := by decide +kernel
theorem pr_158_518 : pj_find 518 pj_mL.2.2.2.2.2.2 = some (.iaload, 1) := by decide +kernel
theorem pr_158_519 : pj_find 519 pj_mL.2.2.2.2.2.2 = some (.invokevirtual 73, 3) := by decide +kernel
theorem pr_158_522 : pj_find 522 pj_mL.2.2.2.2.2.2 = some (.aload_n 2, 1) := by decide +kernel
theorem pr_158_523 : pj_find 523 pj_mL.2.2.2.2.2.2 = some (.aload_n 0, 1) := by decide +kernel
theorem pr_158_524 : pj_find 524 pj_mL.2.2.2.2.2.2 = some (.iload_n 3, 1) := by decide +kernel
theorem pr_158_525 : pj_find 525 pj_mL.2.2.2.2.2.2 = some (.iconst 1, 1) := by decide +kernel
theorem pr_158_526 : pj_find 526 pj_mL.2.2.2.2.2.2 = some (.iadd, 1) := by decide +kernel
theorem pr_158_527 : pj_find 527 pj_mL.2.2.2.2.2.2 = some (.iaload, 1) := by decide +kernel
theorem pr_158_528 : pj_find 528 pj_mL.2.2.2.2.2.2 = some (.aload_n 0, 1) := by decide +kernel
theorem pr_158_529 : pj_find 529 pj_mL.2.2.2.2.2.2 = some (.iload_n 3, 1) := by decide +kernel
theorem pr_158_530 : pj_find 530 pj_mL.2.2.2.2.2.2 = some (.iconst 2, 1) := by decide +kernel
theorem pr_158_531 : pj_find 531 pj_mL.2.2.2.2.2.2 = some (.iadd, 1) := by decide +kernel
theorem pr_158_532 : pj_find 532 pj_mL.2.2.2.2.2.2 = some (.iaload, 1) := by decide +kernel
theorem pr_158_533 : pj_find 533 pj_mL.2.2.2.2.2.2 = some (.invokevirtual 76, 3) := by decide +kernel
theorem pr_158_536 : pj_find 536 pj_mL.2.2.2.2.2.2 = some (.if_icmp .eq 348, 3) := by decide +kernel
theorem pr_158_539 : pj_find 539 pj_mL.2.2.2.2.2.2 = some (.iconst 0, 1) := by decide +kernel
theorem pr_158_540 : pj_find 540 pj_mL.2.2.2.2.2.2 = some (.ireturn, 1) := by decide +kernel
theorem pr_158_541 : pj_find 541 pj_mL.2.2.2.2.2.2 = some (.aload_n 1, 1) := by decide +kernel
theorem pr_158_542 : pj_find 542 pj_mL.2.2.2.2.2.2 = some (.invokevirtual 77, 3) := by decide +kernel
theorem pr_158_545 : pj_find 545 pj_mL.2.2.2.2.2.2 = some (.aload_n 2, 1) := by decide +kernel
theorem pr_158_546 : pj_find 546 pj_mL.2.2.2.2.2.2 = some (.invokevirtual 80, 3) := by decide +kernel
theorem pr_158_549 : pj_find 549 pj_mL.2.2.2.2.2.2 = some (.if_icmp .eq 335, 3) := by decide +kernel
theorem pr_158_552 : pj_find 552 pj_mL.2.2.2.2.2.2 = some (.iconst 0, 1) := by decide +kernel
theorem pr_158_553 : pj_find 553 pj_mL.2.2.2.2.2.2 = some (.ireturn, 1) := by decide +kernel
theorem pr_158_554 : pj_find 554 pj_mL.2.2.2.2.2.2 = some (.aload_n 1, 1) := by decide +kernel
theorem pr_158_555 : pj_find 555 pj_mL.2.2.2.2.2.2 = some (.aload_n 0, 1) := by decide +kernel
theorem pr_158_556 : pj_find 556 pj_mL.2.2.2.2.2.2 = some (.iload_n 3, 1) := by decide +kernel
theorem pr_158_557 : pj_find 557 pj_mL.2.2.2.2.2.2 = some (.iconst 1, 1) := by decide +kernel
theorem pr_158_558 : pj_find 558 pj_mL.2.2.2.2.2.2 = some (.iadd, 1) := by decide +kernel
theorem pr_158_559 : pj_find 559 pj_mL.2.2.2.2.2.2 = some (.iaload, 1) := by decide +kernel
theorem pr_158_560 : pj_find 560 pj_mL.2.2.2.2.2.2 = some (.invokevirtual 81, 3) := by decide +kernel
theorem pr_158_563 : pj_find 563 pj_mL.2.2.2.2.2.2 = some (.aload_n 2, 1) := by decide +kernel
theorem pr_158_564 : pj_find 564 pj_mL.2.2.2.2.2.2 = some (.aload_n 0, 1) := by decide +kernel
theorem pr_158_565 : pj_find 565 pj_mL.2.2.2.2.2.2 = some (.iload_n 3, 1) := by decide +kernel
theorem pr_158_566 : pj_find 566 pj_mL.2.2.2.2.2.2 = some (.iconst 1, 1) := by decide +kernel
theorem pr_158_567 : pj_find 567 pj_mL.2.2.2.2.2.2 = some (.iadd, 1) := by decide +kernel
theorem pr_158_568 : pj_find 568 pj_mL.2.2.2.2.2.2 = some (.iaload, 1) := by decide +kernel
theorem pr_158_569 : pj_find 569 pj_mL.2.2.2.2.2.2 = some (.invokevirtual 84, 3) := by decide +kernel
theorem pr_158_572 : pj_find 572 pj_mL.2.2.2.2.2.2 = some (.if_icmp .eq 312, 3) := by decide +kernel
theorem pr_158_575 : pj_find 575 pj_mL.2.2.2.2.2.2 = some (.iconst 0, 1) := by decide +kernel
theorem pr_158_576 : pj_find 576 pj_mL.2.2.2.2.2.2 = some (.ireturn, 1) := by decide +kernel
theorem pr_158_577 : pj_find 577 pj_mL.2.2.2.2.2.2 = some (.aload_n 1, 1) := by decide +kernel
theorem pr_158_578 : pj_find 578 pj_mL.2.2.2.2.2.2 = some (.aload_n 0, 1) := by decide +kernel
theorem pr_158_579 : pj_find 579 pj_mL.2.2.2.2.2.2 = some (.iload_n 3, 1) := by decide +kernel
theorem pr_158_580 : pj_find 580 pj_mL.2.2.2.2.2.2 = some (.iconst 1, 1) := by decide +kernel
theorem pr_158_581 : pj_find 581 pj_mL.2.2.2.2.2.2 = some (.iadd, 1) := by decide +kernel
theorem pr_158_582 : pj_find 582 pj_mL.2.2.2.2.2.2 = some (.iaload, 1) := by decide +kernel
theorem pr_158_583 : pj_find 583 pj_mL.2.2.2.2.2.2 = some (.aload_n 0, 1) := by decide +kernel
theorem pr_158_584 : pj_find 584 pj_mL.2.2.2.2.2.2 = some (.iload_n 3, 1) := by decide +kernel
theorem pr_158_585 : pj_find 585 pj_mL.2.2.2.2.2.2 = some (.iconst 2, 1) := by decide +kernel
theorem pr_158_586 : pj_find 586 pj_mL.2.2.2.2.2.2 = some (.iadd, 1) := by decide +kernel
theorem pr_158_587 : pj_find 587 pj_mL.2.2.2.2.2.2 = some (.iaload, 1) := by decide +kernel
theorem pr_158_588 : pj_find 588 pj_mL.2.2.2.2.2.2 = some (.ifCond .eq 7, 3) := by decide +kernel
theorem pr_158_591 : pj_find 591 pj_mL.2.2.2.2.2.2 = some (.iconst 1, 1) := by decide +kernel
theorem pr_158_592 : pj_find 592 pj_mL.2.2.2.2.2.2 = some (.goto 4, 3) := by decide +kernel
theorem pr_158_595 : pj_find 595 pj_mL.2.2.2.2.2.2 = some (.iconst 0, 1) := by decide +kernel
theorem pr_158_596 : pj_find 596 pj_mL.2.2.2.2.2.2 = some (.invokevirtual 85, 3) := by decide +kernel
theorem pr_158_599 : pj_find 599 pj_mL.2.2.2.2.2.2 = some (.aload_n 2, 1) := by decide +kernel
theorem pr_158_600 : pj_find 600 pj_mL.2.2.2.2.2.2 = some (.aload_n 0, 1) := by decide +kernel
theorem pr_158_601 : pj_find 601 pj_mL.2.2.2.2.2.2 = some (.iload_n 3, 1) := by decide +kernel
theorem pr_158_602 : pj_find 602 pj_mL.2.2.2.2.2.2 = some (.iconst 1, 1) := by decide +kernel
theorem pr_158_603 : pj_find 603 pj_mL.2.2.2.2.2.2 = some (.iadd, 1) := by decide +kernel
theorem pr_158_604 : pj_find 604 pj_mL.2.2.2.2.2.2 = some (.iaload, 1) := by decide +kernel
theorem pr_158_605 : pj_find 605 pj_mL.2.2.2.2.2.2 = some (.aload_n 0, 1) := by decide +kernel
theorem pr_158_606 : pj_find 606 pj_mL.2.2.2.2.2.2 = some (.iload_n 3, 1) := by decide +kernel
theorem pr_158_607 : pj_find 607 pj_mL.2.2.2.2.2.2 = some (.iconst 2, 1) := by decide +kernel
theorem pr_158_608 : pj_find 608 pj_mL.2.2.2.2.2.2 = some (.iadd, 1) := by decide +kernel
theorem pr_158_609 : pj_find 609 pj_mL.2.2.2.2.2.2 = some (.iaload, 1) := by decide +kernel
theorem pr_158_610 : pj_find 610 pj_mL.2.2.2.2.2.2 = some (.ifCond .eq 7, 3) := by decide +kernel
theorem pr_158_613 : pj_find 613 pj_mL.2.2.2.2.2.2 = some (.iconst 1, 1) := by decide +kernel
theorem pr_158_614 : pj_find 614 pj_mL.2.2.2.2.2.2 = some (.goto 4, 3) := by decide +kernel
theorem pr_158_617 : pj_find 617 pj_mL.2.2.2.2.2.2 = some (.iconst 0, 1) := by decide +kernel
theorem pr_158_618 : pj_find 618 pj_mL.2.2.2.2.2.2 = some (.invokevirtual 89, 3) := by decide +kernel
theorem pr_158_621 : pj_find 621 pj_mL.2.2.2.2.2.2 = some (.if_icmp .eq 263, 3) := by decide +kernel
theorem pr_158_624 : pj_find 624 pj_mL.2.2.2.2.2.2 = some (.iconst 0, 1) := by decide +kernel
theorem pr_158_625 : pj_find 625 pj_mL.2.2.2.2.2.2 = some (.ireturn, 1) := by decide +kernel
theorem pr_158_626 : pj_find 626 pj_mL.2.2.2.2.2.2 = some (.aload_n 1, 1) := by decide +kernel
theorem pr_158_627 : pj_find 627 pj_mL.2.2.2.2.2.2 = some (.invokevirtual 90, 3) := by decide +kernel
theorem pr_158_630 : pj_find 630 pj_mL.2.2.2.2.2.2 = some (.aload_n 2, 1) := by decide +kernel
theorem pr_158_631 : pj_find 631 pj_mL.2.2.2.2.2.2 = some (.invokevirtual 93, 3) := by decide +kernel
theorem pr_158_634 : pj_find 634 pj_mL.2.2.2.2.2.2 = some (.if_icmp .eq 250, 3) := by decide +kernel
theorem pr_158_637 : pj_find 637 pj_mL.2.2.2.2.2.2 = some (.iconst 0, 1) := by decide +kernel
theorem pr_158_638 : pj_find 638 pj_mL.2.2.2.2.2.2 = some (.ireturn, 1) := by decide +kernel
theorem pr_158_639 : pj_find 639 pj_mL.2.2.2.2.2.2 = some (.aload_n 1, 1) := by decide +kernel
theorem pr_158_640 : pj_find 640 pj_mL.2.2.2.2.2.2 = some (.aload_n 0, 1) := by decide +kernel
theorem pr_158_641 : pj_find 641 pj_mL.2.2.2.2.2.2 = some (.iload_n 3, 1) := by decide +kernel
theorem pr_158_642 : pj_find 642 pj_mL.2.2.2.2.2.2 = some (.iconst 1, 1) := by decide +kernel
theorem pr_158_643 : pj_find 643 pj_mL.2.2.2.2.2.2 = some (.iadd, 1) := by decide +kernel
theorem pr_158_644 : pj_find 644 pj_mL.2.2.2.2.2.2 = some (.iaload, 1) := by decide +kernel
theorem pr_158_645 : pj_find 645 pj_mL.2.2.2.2.2.2 = some (.invokevirtual 94, 3) := by decide +kernel
theorem pr_158_648 : pj_find 648 pj_mL.2.2.2.2.2.2 = some (.aload_n 2, 1) := by decide +kernel
theorem pr_158_649 : pj_find 649 pj_mL.2.2.2.2.2.2 = some (.aload_n 0, 1) := by decide +kernel
theorem pr_158_650 : pj_find 650 pj_mL.2.2.2.2.2.2 = some (.iload_n 3, 1) := by decide +kernel
theorem pr_158_651 : pj_find 651 pj_mL.2.2.2.2.2.2 = some (.iconst 1, 1) := by decide +kernel
theorem pr_158_652 : pj_find 652 pj_mL.2.2.2.2.2.2 = some (.iadd, 1) := by decide +kernel
theorem pr_158_653 : pj_find 653 pj_mL.2.2.2.2.2.2 = some (.iaload, 1) := by decide +kernel
theorem pr_158_654 : pj_find 654 pj_mL.2.2.2.2.2.2 = some (.invokevirtual 97, 3) := by decide +kernel
theorem pr_158_657 : pj_find 657 pj_mL.2.2.2.2.2.2 = some (.if_icmp .eq 227, 3) := by decide +kernel
theorem pr_158_660 : pj_find 660 pj_mL.2.2.2.2.2.2 = some (.iconst 0, 1) := by decide +kernel
theorem pr_158_661 : pj_find 661 pj_mL.2.2.2.2.2.2 = some (.ireturn, 1) := by decide +kernel
theorem pr_158_662 : pj_find 662 pj_mL.2.2.2.2.2.2 = some (.aload_n 1, 1) := by decide +kernel
theorem pr_158_663 : pj_find 663 pj_mL.2.2.2.2.2.2 = some (.aload_n 0, 1) := by decide +kernel
theorem pr_158_664 : pj_find 664 pj_mL.2.2.2.2.2.2 = some (.iload_n 3, 1) := by decide +kernel
theorem pr_158_665 : pj_find 665 pj_mL.2.2.2.2.2.2 = some (.iconst 1, 1) := by decide +kernel
theorem pr_158_666 : pj_find 666 pj_mL.2.2.2.2.2.2 = some (.iadd, 1) := by decide +kernel
theorem pr_158_667 : pj_find 667 pj_mL.2.2.2.2.2.2 = some (.iaload, 1) := by decide +kernel
theorem pr_158_668 : pj_find 668 pj_mL.2.2.2.2.2.2 = some (.invokevirtual 98, 3) := by decide +kernel
theorem pr_158_671 : pj_find 671 pj_mL.2.2.2.2.2.2 = some (.aload_n 2, 1) := by decide +kernel
theorem pr_158_672 : pj_find 672 pj_mL.2.2.2.2.2.2 = some (.aload_n 0, 1) := by decide +kernel
theorem pr_158_673 : pj_find 673 pj_mL.2.2.2.2.2.2 = some (.iload_n 3, 1) := by decide +kernel
theorem pr_158_674 : pj_find 674 pj_mL.2.2.2.2.2.2 = some (.iconst 1, 1) := by decide +kernel
theorem pr_158_675 : pj_find 675 pj_mL.2.2.2.2.2.2 = some (.iadd, 1) := by decide +kernel
theorem pr_158_676 : pj_find 676 pj_mL.2.2.2.2.2.2 = some (.iaload, 1) := by decide +kernel
theorem pr_158_677 : pj_find 677 pj_mL.2.2.2.2.2.2 = some (.invokevirtual 101, 3) := by decide +kernel
theorem pr_158_680 : pj_find 680 pj_mL.2.2.2.2.2.2 = some (.if_icmp .eq 204, 3) := by decide +kernel
theorem pr_158_683 : pj_find 683 pj_mL.2.2.2.2.2.2 = some (.iconst 0, 1) := by decide +kernel
theorem pr_158_684 : pj_find 684 pj_mL.2.2.2.2.2.2 = some (.ireturn, 1) := by decide +kernel
theorem pr_158_685 : pj_find 685 pj_mL.2.2.2.2.2.2 = some (.aload_n 1, 1) := by decide +kernel
theorem pr_158_686 : pj_find 686 pj_mL.2.2.2.2.2.2 = some (.aload_n 0, 1) := by decide +kernel
theorem pr_158_687 : pj_find 687 pj_mL.2.2.2.2.2.2 = some (.iload_n 3, 1) := by decide +kernel
theorem pr_158_688 : pj_find 688 pj_mL.2.2.2.2.2.2 = some (.iconst 1, 1) := by decide +kernel
theorem pr_158_689 : pj_find 689 pj_mL.2.2.2.2.2.2 = some (.iadd, 1) := by decide +kernel
theorem pr_158_690 : pj_find 690 pj_mL.2.2.2.2.2.2 = some (.iaload, 1) := by decide +kernel
theorem pr_158_691 : pj_find 691 pj_mL.2.2.2.2.2.2 = some (.aload_n 0, 1) := by decide +kernel
theorem pr_158_692 : pj_find 692 pj_mL.2.2.2.2.2.2 = some (.iload_n 3, 1) := by decide +kernel
theorem pr_158_693 : pj_find 693 pj_mL.2.2.2.2.2.2 = some (.iconst 2, 1) := by decide +kernel
theorem pr_158_694 : pj_find 694 pj_mL.2.2.2.2.2.2 = some (.iadd, 1) := by decide +kernel
theorem pr_158_695 : pj_find 695 pj_mL.2.2.2.2.2.2 = some (.iaload, 1) := by decide +kernel
theorem pr_158_696 : pj_find 696 pj_mL.2.2.2.2.2.2 = some (.invokevirtual 102, 3) := by decide +kernel
theorem pr_158_699 : pj_find 699 pj_mL.2.2.2.2.2.2 = some (.aload_n 2, 1) := by decide +kernel
theorem pr_158_700 : pj_find 700 pj_mL.2.2.2.2.2.2 = some (.aload_n 0, 1) := by decide +kernel
theorem pr_158_701 : pj_find 701 pj_mL.2.2.2.2.2.2 = some (.iload_n 3, 1) := by decide +kernel
theorem pr_158_702 : pj_find 702 pj_mL.2.2.2.2.2.2 = some (.iconst 1, 1) := by decide +kernel
theorem pr_158_703 : pj_find 703 pj_mL.2.2.2.2.2.2 = some (.iadd, 1) := by decide +kernel
theorem pr_158_704 : pj_find 704 pj_mL.2.2.2.2.2.2 = some (.iaload, 1) := by decide +kernel
theorem pr_158_705 : pj_find 705 pj_mL.2.2.2.2.2.2 = some (.aload_n 0, 1) := by decide +kernel
theorem pr_158_706 : pj_find 706 pj_mL.2.2.2.2.2.2 = some (.iload_n 3, 1) := by decide +kernel
theorem pr_158_707 : pj_find 707 pj_mL.2.2.2.2.2.2 = some (.iconst 2, 1) := by decide +kernel
theorem pr_158_708 : pj_find 708 pj_mL.2.2.2.2.2.2 = some (.iadd, 1) := by decide +kernel
theorem pr_158_709 : pj_find 709 pj_mL.2.2.2.2.2.2 = some (.iaload, 1) := by decide +kernel
theorem pr_158_710 : pj_find 710 pj_mL.2.2.2.2.2.2 = some (.invokevirtual 105, 3) := by decide +kernel
theorem pr_158_713 : pj_find 713 pj_mL.2.2.2.2.2.2 = some (.if_icmp .eq 171, 3) := by decide +kernel
theorem pr_158_716 : pj_find 716 pj_mL.2.2.2.2.2.2 = some (.iconst 0, 1) := by decide +kernel
theorem pr_158_717 : pj_find 717 pj_mL.2.2.2.2.2.2 = some (.ireturn, 1) := by decide +kernel
theorem pr_158_718 : pj_find 718 pj_mL.2.2.2.2.2.2 = some (.aload_n 1, 1) := by decide +kernel
theorem pr_158_719 : pj_find 719 pj_mL.2.2.2.2.2.2 = some (.aload_n 0, 1) := by decide +kernel
theorem pr_158_720 : pj_find 720 pj_mL.2.2.2.2.2.2 = some (.iload_n 3, 1) := by decide +kernel
theorem pr_158_721 : pj_find 721 pj_mL.2.2.2.2.2.2 = some (.iconst 1, 1) := by decide +kernel
theorem pr_158_722 : pj_find 722 pj_mL.2.2.2.2.2.2 = some (.iadd, 1) := by decide +kernel
theorem pr_158_723 : pj_find 723 pj_mL.2.2.2.2.2.2 = some (.iaload, 1) := by decide +kernel
theorem pr_158_724 : pj_find 724 pj_mL.2.2.2.2.2.2 = some (.aload_n 0, 1) := by decide +kernel
theorem pr_158_725 : pj_find 725 pj_mL.2.2.2.2.2.2 = some (.iload_n 3, 1) := by decide +kernel
theorem pr_158_726 : pj_find 726 pj_mL.2.2.2.2.2.2 = some (.iconst 2, 1) := by decide +kernel
theorem pr_158_727 : pj_find 727 pj_mL.2.2.2.2.2.2 = some (.iadd, 1) := by decide +kernel
theorem pr_158_728 : pj_find 728 pj_mL.2.2.2.2.2.2 = some (.iaload, 1) := by decide +kernel
theorem pr_158_729 : pj_find 729 pj_mL.2.2.2.2.2.2 = some (.aload_n 0, 1) := by decide +kernel
theorem pr_158_730 : pj_find 730 pj_mL.2.2.2.2.2.2 = some (.iload_n 3, 1) := by decide +kernel
theorem pr_158_731 : pj_find 731 pj_mL.2.2.2.2.2.2 = some (.iconst 3, 1) := by decide +kernel
theorem pr_158_732 : pj_find 732 pj_mL.2.2.2.2.2.2 = some (.iadd, 1) := by decide +kernel
theorem pr_158_733 : pj_find 733 pj_mL.2.2.2.2.2.2 = some (.iaload, 1) := by decide +kernel
theorem pr_158_734 : pj_find 734 pj_mL.2.2.2.2.2.2 = some (.aload_n 0, 1) := by decide +kernel
theorem pr_158_735 : pj_find 735 pj_mL.2.2.2.2.2.2 = some (.iload_n 3, 1) := by decide +kernel
theorem pr_158_736 : pj_find 736 pj_mL.2.2.2.2.2.2 = some (.iconst 4, 1) := by decide +kernel
theorem pr_158_737 : pj_find 737 pj_mL.2.2.2.2.2.2 = some (.iadd, 1) := by decide +kernel
theorem pr_158_738 : pj_find 738 pj_mL.2.2.2.2.2.2 = some (.iaload, 1) := by decide +kernel
theorem pr_158_739 : pj_find 739 pj_mL.2.2.2.2.2.2 = some (.invokevirtual 106, 3) := by decide +kernel
theorem pr_158_742 : pj_find 742 pj_mL.2.2.2.2.2.2 = some (.aload_n 2, 1) := by decide +kernel
theorem pr_158_743 : pj_find 743 pj_mL.2.2.2.2.2.2 = some (.aload_n 0, 1) := by decide +kernel
theorem pr_158_744 : pj_find 744 pj_mL.2.2.2.2.2.2 = some (.iload_n 3, 1) := by decide +kernel
theorem pr_158_745 : pj_find 745 pj_mL.2.2.2.2.2.2 = some (.iconst 1, 1) := by decide +kernel
theorem pr_158_746 : pj_find 746 pj_mL.2.2.2.2.2.2 = some (.iadd, 1) := by decide +kernel
theorem pr_158_747 : pj_find 747 pj_mL.2.2.2.2.2.2 = some (.iaload, 1) := by decide +kernel
theorem pr_158_748 : pj_find 748 pj_mL.2.2.2.2.2.2 = some (.aload_n 0, 1) := by decide +kernel
theorem pr_158_749 : pj_find 749 pj_mL.2.2.2.2.2.2 = some (.iload_n 3, 1) := by decide +kernel
theorem pr_158_750 : pj_find 750 pj_mL.2.2.2.2.2.2 = some (.iconst 2, 1) := by decide +kernel
theorem pr_158_751 : pj_find 751 pj_mL.2.2.2.2.2.2 = some (.iadd, 1) := by decide +kernel
theorem pr_158_752 : pj_find 752 pj_mL.2.2.2.2.2.2 = some (.iaload, 1) := by decide +kernel
theorem pr_158_753 : pj_find 753 pj_mL.2.2.2.2.2.2 = some (.aload_n 0, 1) := by decide +kernel
theorem pr_158_754 : pj_find 754 pj_mL.2.2.2.2.2.2 = some (.iload_n 3, 1) := by decide +kernel
theorem pr_158_755 : pj_find 755 pj_mL.2.2.2.2.2.2 = some (.iconst 3, 1) := by decide +kernel
theorem pr_158_756 : pj_find 756 pj_mL.2.2.2.2.2.2 = some (.iadd, 1) := by decide +kernel
theorem pr_158_757 : pj_find 757 pj_mL.2.2.2.2.2.2 = some (.iaload, 1) := by decide +kernel
theorem pr_158_758 : pj_find 758 pj_mL.2.2.2.2.2.2 = some (.aload_n 0, 1) := by decide +kernel
theorem pr_158_759 : pj_find 759 pj_mL.2.2.2.2.2.2 = some (.iload_n 3, 1) := by decide +kernel
theorem pr_158_760 : pj_find 760 pj_mL.2.2.2.2.2.2 = some (.iconst 4, 1) := by decide +kernel
theorem pr_158_761 : pj_find 761 pj_mL.2.2.2.2.2.2 = some (.iadd, 1) := by decide +kernel
theorem pr_158_762 : pj_find 762 pj_mL.2.2.2.2.2.2 = some (.iaload, 1) := by decide +kernel
theorem pr_158_763 : pj_find 763 pj_mL.2.2.2.2.2.2 = some (.invokevirtual 110, 3) := by decide +kernel
theorem pr_158_766 : pj_find 766 pj_mL.2.2.2.2.2.2 = some (.lcmp, 1) := by decide +kernel
theorem pr_158_767 : pj_find 767 pj_mL.2.2.2.2.2.2 = some (.ifCond .eq 117, 3) := by decide +kernel
theorem pr_158_770 : pj_find 770 pj_mL.2.2.2.2.2.2 = some (.iconst 0, 1) := by decide +kernel
theorem pr_158_771 : pj_find 771 pj_mL.2.2.2.2.2.2 = some (.ireturn, 1) := by decide +kernel
theorem pr_158_772 : pj_find 772 pj_mL.2.2.2.2.2.2 = some (.aload_n 1, 1) := by decide +kernel
theorem pr_158_773 : pj_find 773 pj_mL.2.2.2.2.2.2 = some (.aload_n 0, 1) := by decide +kernel
theorem pr_158_774 : pj_find 774 pj_mL.2.2.2.2.2.2 = some (.iload_n 3, 1) := by decide +kernel
theorem pr_158_775 : pj_find 775 pj_mL.2.2.2.2.2.2 = some (.iconst 1, 1) := by decide +kernel
theorem pr_158_776 : pj_find 776 pj_mL.2.2.2.2.2.2 = some (.iadd, 1) := by decide +kernel
theorem pr_158_777 : pj_find 777 pj_mL.2.2.2.2.2.2 = some (.iaload, 1) := by decide +kernel
theorem pr_158_778 : pj_find 778 pj_mL.2.2.2.2.2.2 = some (.aload_n 0, 1) := by decide +kernel
theorem pr_158_779 : pj_find 779 pj_mL.2.2.2.2.2.2 = some (.iload_n 3, 1) := by decide +kernel
theorem pr_158_780 : pj_find 780 pj_mL.2.2.2.2.2.2 = some (.iconst 2, 1) := by decide +kernel
theorem pr_158_781 : pj_find 781 pj_mL.2.2.2.2.2.2 = some (.iadd, 1) := by decide +kernel
theorem pr_158_782 : pj_find 782 pj_mL.2.2.2.2.2.2 = some (.iaload, 1) := by decide +kernel
theorem pr_158_783 : pj_find 783 pj_mL.2.2.2.2.2.2 = some (.aload_n 0, 1) := by decide +kernel
theorem pr_158_784 : pj_find 784 pj_mL.2.2.2.2.2.2 = some (.iload_n 3, 1) := by decide +kernel
theorem pr_158_785 : pj_find 785 pj_mL.2.2.2.2.2.2 = some (.iconst 3, 1) := by decide +kernel
theorem pr_158_786 : pj_find 786 pj_mL.2.2.2.2.2.2 = some (.iadd, 1) := by decide +kernel
theorem pr_158_787 : pj_find 787 pj_mL.2.2.2.2.2.2 = some (.iaload, 1) := by decide +kernel
theorem pr_158_788 : pj_find 788 pj_mL.2.2.2.2.2.2 = some (.invokevirtual 111, 3) := by decide +kernel
theorem pr_158_791 : pj_find 791 pj_mL.2.2.2.2.2.2 = some (.aload_n 2, 1) := by decide +kernel
theorem pr_158_792 : pj_find 792 pj_mL.2.2.2.2.2.2 = some (.aload_n 0, 1) := by decide +kernel
theorem pr_158_793 : pj_find 793 pj_mL.2.2.2.2.2.2 = some (.iload_n 3, 1) := by decide +kernel
theorem pr_158_794 : pj_find 794 pj_mL.2.2.2.2.2.2 = some (.iconst 1, 1) := by decide +kernel
theorem pr_158_795 : pj_find 795 pj_mL.2.2.2.2.2.2 = some (.iadd, 1) := by decide +kernel
theorem pr_158_796 : pj_find 796 pj_mL.2.2.2.2.2.2 = some (.iaload, 1) := by decide +kernel
theorem pr_158_797 : pj_find 797 pj_mL.2.2.2.2.2.2 = some (.aload_n 0, 1) := by decide +kernel
theorem pr_158_798 : pj_find 798 pj_mL.2.2.2.2.2.2 = some (.iload_n 3, 1) := by decide +kernel
theorem pr_158_799 : pj_find 799 pj_mL.2.2.2.2.2.2 = some (.iconst 2, 1) := by decide +kernel
theorem pr_158_800 : pj_find 800 pj_mL.2.2.2.2.2.2 = some (.iadd, 1) := by decide +kernel
theorem pr_158_801 : pj_find 801 pj_mL.2.2.2.2.2.2 = some (.iaload, 1) := by decide +kernel
theorem pr_158_802 : pj_find 802 pj_mL.2.2.2.2.2.2 = some (.aload_n 0, 1) := by decide +kernel
theorem pr_158_803 : pj_find 803 pj_mL.2.2.2.2.2.2 = some (.iload_n 3, 1) := by decide +kernel
theorem pr_158_804 : pj_find 804 pj_mL.2.2.2.2.2.2 = some (.iconst 3, 1) := by decide +kernel
theorem pr_158_805 : pj_find 805 pj_mL.2.2.2.2.2.2 = some (.iadd, 1) := by decide +kernel
theorem pr_158_806 : pj_find 806 pj_mL.2.2.2.2.2.2 = some (.iaload, 1) := by decide +kernel
theorem pr_158_807 : pj_find 807 pj_mL.2.2.2.2.2.2 = some (.invokevirtual 114, 3) := by decide +kernel
theorem pr_158_810 : pj_find 810 pj_mL.2.2.2.2.2.2 = some (.if_icmp .eq 74, 3) := by decide +kernel
theorem pr_158_813 : pj_find 813 pj_mL.2.2.2.2.2.2 = some (.iconst 0, 1) := by decide +kernel
theorem pr_158_814 : pj_find 814 pj_mL.2.2.2.2.2.2 = some (.ireturn, 1) := by decide +kernel
theorem pr_158_815 : pj_find 815 pj_mL.2.2.2.2.2.2 = some (.aload_n 1, 1) := by decide +kernel
theorem pr_158_816 : pj_find 816 pj_mL.2.2.2.2.2.2 = some (.aload_n 0, 1) := by decide +kernel
theorem pr_158_817 : pj_find 817 pj_mL.2.2.2.2.2.2 = some (.iload_n 3, 1) := by decide +kernel
theorem pr_158_818 : pj_find 818 pj_mL.2.2.2.2.2.2 = some (.iconst 1, 1) := by decide +kernel
theorem pr_158_819 : pj_find 819 pj_mL.2.2.2.2.2.2 = some (.iadd, 1) := by decide +kernel
theorem pr_158_820 : pj_find 820 pj_mL.2.2.2.2.2.2 = some (.iaload, 1) := by decide +kernel
theorem pr_158_821 : pj_find 821 pj_mL.2.2.2.2.2.2 = some (.invokevirtual 115, 3) := by decide +kernel
theorem pr_158_824 : pj_find 824 pj_mL.2.2.2.2.2.2 = some (.aload_n 2, 1) := by decide +kernel
theorem pr_158_825 : pj_find 825 pj_mL.2.2.2.2.2.2 = some (.aload_n 0, 1) := by decide +kernel
theorem pr_158_826 : pj_find 826 pj_mL.2.2.2.2.2.2 = some (.iload_n 3, 1) := by decide +kernel
theorem pr_158_827 : pj_find 827 pj_mL.2.2.2.2.2.2 = some (.iconst 1, 1) := by decide +kernel
theorem pr_158_828 : pj_find 828 pj_mL.2.2.2.2.2.2 = some (.iadd, 1) := by decide +kernel
theorem pr_158_829 : pj_find 829 pj_mL.2.2.2.2.2.2 = some (.iaload, 1) := by decide +kernel
theorem pr_158_830 : pj_find 830 pj_mL.2.2.2.2.2.2 = some (.invokevirtual 118, 3) := by decide +kernel
theorem pr_158_833 : pj_find 833 pj_mL.2.2.2.2.2.2 = some (.if_icmp .eq 51, 3) := by decide +kernel
theorem pr_158_836 : pj_find 836 pj_mL.2.2.2.2.2.2 = some (.iconst 0, 1) := by decide +kernel
theorem pr_158_837 : pj_find 837 pj_mL.2.2.2.2.2.2 = some (.ireturn, 1) := by decide +kernel
theorem pr_158_838 : pj_find 838 pj_mL.2.2.2.2.2.2 = some (.aload_n 1, 1) := by decide +kernel
theorem pr_158_839 : pj_find 839 pj_mL.2.2.2.2.2.2 = some (.aload_n 0, 1) := by decide +kernel
theorem pr_158_840 : pj_find 840 pj_mL.2.2.2.2.2.2 = some (.iload_n 3, 1) := by decide +kernel
theorem pr_158_841 : pj_find 841 pj_mL.2.2.2.2.2.2 = some (.iconst 1, 1) := by decide +kernel
theorem pr_158_842 : pj_find 842 pj_mL.2.2.2.2.2.2 = some (.iadd, 1) := by decide +kernel
theorem pr_158_843 : pj_find 843 pj_mL.2.2.2.2.2.2 = some (.iaload, 1) := by decide +kernel
theorem pr_158_844 : pj_find 844 pj_mL.2.2.2.2.2.2 = some (.invokevirtual 119, 3) := by decide +kernel
theorem pr_158_847 : pj_find 847 pj_mL.2.2.2.2.2.2 = some (.aload_n 2, 1) := by decide +kernel
theorem pr_158_848 : pj_find 848 pj_mL.2.2.2.2.2.2 = some (.aload_n 0, 1) := by decide +kernel
theorem pr_158_849 : pj_find 849 pj_mL.2.2.2.2.2.2 = some (.iload_n 3, 1) := by decide +kernel
theorem pr_158_850 : pj_find 850 pj_mL.2.2.2.2.2.2 = some (.iconst 1, 1) := by decide +kernel
theorem pr_158_851 : pj_find 851 pj_mL.2.2.2.2.2.2 = some (.iadd, 1) := by decide +kernel
theorem pr_158_852 : pj_find 852 pj_mL.2.2.2.2.2.2 = some (.iaload, 1) := by decide +kernel
theorem pr_158_853 : pj_find 853 pj_mL.2.2.2.2.2.2 = some (.invokevirtual 122, 3) := by decide +kernel
theorem pr_158_856 : pj_find 856 pj_mL.2.2.2.2.2.2 = some (.if_icmp .eq 28, 3) := by decide +kernel
theorem pr_158_859 : pj_find 859 pj_mL.2.2.2.2.2.2 = some (.iconst 0, 1) := by decide +kernel
theorem pr_158_860 : pj_find 860 pj_mL.2.2.2.2.2.2 = some (.ireturn, 1) := by decide +kernel
theorem pr_158_861 : pj_find 861 pj_mL.2.2.2.2.2.2 = some (.aload_n 1, 1) := by decide +kernel
theorem pr_158_862 : pj_find 862 pj_mL.2.2.2.2.2.2 = some (.aload_n 0, 1) := by decide +kernel
theorem pr_158_863 : pj_find 863 pj_mL.2.2.2.2.2.2 = some (.iload_n 3, 1) := by decide +kernel
theorem pr_158_864 : pj_find 864 pj_mL.2.2.2.2.2.2 = some (.iconst 1, 1) := by decide +kernel
theorem pr_158_865 : pj_find 865 pj_mL.2.2.2.2.2.2 = some (.iadd, 1) := by decide +kernel
theorem pr_158_866 : pj_find 866 pj_mL.2.2.2.2.2.2 = some (.iaload, 1) := by decide +kernel
theorem pr_158_867 : pj_find 867 pj_mL.2.2.2.2.2.2 = some (.invokevirtual 123, 3) := by decide +kernel
theorem pr_158_870 : pj_find 870 pj_mL.2.2.2.2.2.2 = some (.aload_n 2, 1) := by decide +kernel
theorem pr_158_871 : pj_find 871 pj_mL.2.2.2.2.2.2 = some (.aload_n 0, 1) := by decide +kernel
theorem pr_158_872 : pj_find 872 pj_mL.2.2.2.2.2.2 = some (.iload_n 3, 1) := by decide +kernel
theorem pr_158_873 : pj_find 873 pj_mL.2.2.2.2.2.2 = some (.iconst 1, 1) := by decide +kernel
theorem pr_158_874 : pj_find 874 pj_mL.2.2.2.2.2.2 = some (.iadd, 1) := by decide +kernel
theorem pr_158_875 : pj_find 875 pj_mL.2.2.2.2.2.2 = some (.iaload, 1) := by decide +kernel
theorem pr_158_876 : pj_find 876 pj_mL.2.2.2.2.2.2 = some (.invokevirtual 126, 3) := by decide +kernel
theorem pr_158_879 : pj_find 879 pj_mL.2.2.2.2.2.2 = some (.if_icmp .eq 5, 3) := by decide +kernel
theorem pr_158_882 : pj_find 882 pj_mL.2.2.2.2.2.2 = some (.iconst 0, 1) := by decide +kernel
theorem pr_158_883 : pj_find 883 pj_mL.2.2.2.2.2.2 = some (.ireturn, 1) := by decide +kernel
theorem pr_158_884 : pj_find 884 pj_mL.2.2.2.2.2.2 = some (.iinc 3 5, 3) := by decide +kernel
theorem pr_158_887 : pj_find 887 pj_mL.2.2.2.2.2.2 = some (.goto (-869), 3) := by decide +kernel
theorem pr_158_890 : pj_find 890 pj_mL.2.2.2.2.2.2 = some (.iconst 1, 1) := by decide +kernel
theorem pr_158_891 : pj_find 891 pj_mL.2.2.2.2.2.2 = some (.ireturn, 1) := by decide +kernel
/-! truth as 0 or 1; branches -/
def pz (c : Prop) [Decidable c] : Int32 := if c then 1 else 0
theorem pz_t {c : Prop} [Decidable c] (h : c) : pz c = 1 := if_pos h
theorem pz_f {c : Prop} [Decidable c] (h : ¬ c) : pz c = 0 := if_neg h
theorem pz_nt {c : Prop} [Decidable c] (h : c) : pz (¬ c) = 0 := if_neg (fun n => n h)
theorem pz_and_t {c d : Prop} [Decidable c] [Decidable d] (h : c) : pz (c ∧ d) = pz d := by by_cases k : d <;> simp [pz, h, k]
theorem pz_and_f {c d : Prop} [Decidable c] [Decidable d] (h : ¬ c) : pz (c ∧ d) = 0 := by simp [pz, h]
theorem pz_nand_f {c d : Prop} [Decidable c] [Decidable d] (h : c) : pz (¬ c ∧ d) = 0 := by simp [pz, h]
theorem pz_or_t {c d : Prop} [Decidable c] [Decidable d] (h : c) : pz (c ∨ d) = 1 := by simp [pz, h]
theorem pz_or_f {c d : Prop} [Decidable c] [Decidable d] (h : ¬ c) : pz (c ∨ d) = pz d := by by_cases k : d <;> simp [pz, h, k]
theorem pz_nor_f {c d : Prop} [Decidable c] [Decidable d] (h : c) : pz (¬ c ∨ d) = pz d := by by_cases k : d <;> simp [pz, h, k]
theorem pz_01 {c : Prop} [Decidable c] : pz c = 0 ∨ pz c = 1 := by by_cases k : c <;> simp [pz, k]
theorem pz_cne {c : Prop} [Decidable c] : pj_cond .ne (pz c) 0 = decide c := by by_cases k : c <;> simp [pz, pj_cond, k]
theorem pz_ceq {c : Prop} [Decidable c] : pj_cond .eq (pz c) 0 = decide (¬ c) := by by_cases k : c <;> simp [pz, pj_cond, k]
theorem pj_up_self (f : Nat → Nat → Int32) (k j : Nat) : pj_up f k j (f k j) = f := by
  funext a b
  by_cases h1 : a = k
  · subst h1
    by_cases h2 : b = j
    · subst h2; simp [pj_up, upd]
    · simp [pj_up, upd, h2]
  · simp [pj_up, h1]
theorem pj_uL_self (f : Nat → Nat → Int64) (k j : Nat) : pj_uL f k j (f k j) = f := by
  funext a b
  by_cases h1 : a = k
  · subst h1
    by_cases h2 : b = j
    · subst h2; simp [pj_uL, vp_updL]
    · simp [pj_uL, vp_updL, h2]
  · simp [pj_uL, h1]
theorem pe_neI {x v : Int32} {k : Int} (h : ¬ x = v) (hk : v.toInt = k) : ¬ x.toInt = k := fun e => h (Int32.toInt_inj.mp (by rw [hk]; exact e))
theorem pe_two {c X C : Prop} [Decidable c] (h1 : c → X = C) (h2 : ¬ c → X = C) : X = C := by
  by_cases k : c
  · exact h1 k
  · exact h2 k
theorem pe_case {c X A B : Prop} [Decidable c] (h1 : c → X = A) (h2 : ¬ c → X = B) : X = (if c then A else B) := by
  by_cases k : c
  · rw [if_pos k]; exact h1 k
  · rw [if_neg k]; exact h2 k
theorem pe_tabEq {q : pj_M} {pc : Nat} {ls : pj_L} {st : List Value} {h : pj_H} {o : Option Value × pj_H} {dflt lo hi : Int} {offs : Array Int} {len t : Nat} {x v : Int32} {off : Int} (hf : pj_find pc q.2.2.2.2.2.2 = some (.tableswitch dflt lo hi offs, len)) (hx : x = v) (hv : ¬ (v.toInt < lo ∨ hi < v.toInt)) (ho : offs[(v.toInt - lo).toNat]? = some off) (ht : pj_tgt pc off = some t) : pe_E q pc ls (.int x :: st) h o = pe_E q t ls st h o := pe_tabIn hf (by rw [hx]; exact hv) (by rw [hx]; exact ho) ht
theorem pe_lookE {q : pj_M} {pc : Nat} {ls : pj_L} {st : List Value} {h : pj_H} {o : Option Value × pj_H} {dflt off : Int} {ps : Array (Int × Int)} {len t : Nat} {x : Int32} (hf : pj_find pc q.2.2.2.2.2.2 = some (.lookupswitch dflt ps, len)) (hs : (ps.toList.zip (ps.toList.drop 1)).all (fun (a, next) => a.1 < next.1) = true) (ho : Op.lookupswitch.offset ps.toList dflt x.toInt = off) (ht : pj_tgt pc off = some t) : pe_E q pc ls (.int x :: st) h o = pe_E q t ls st h o := pe_look hf hs (by rw [ho]; exact ht)
theorem pe_mrg {c A B C : Prop} [Decidable c] (h1 : c → A = C) (h2 : ¬ c → B = C) : (if c then A else B) = C := by
  by_cases k : c
  · rw [if_pos k]; exact h1 k
  · rw [if_neg k]; exact h2 k
theorem pe_cng {c A B A' B' : Prop} [Decidable c] (h1 : c → A = A') (h2 : ¬ c → B = B') : (if c then A else B) = (if c then A' else B') := by
  by_cases k : c
  · rw [if_pos k, if_pos k]; exact h1 k
  · rw [if_neg k, if_neg k]; exact h2 k
