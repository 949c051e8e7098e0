/-! ===== a year ===== -/
theorem pt_ndiv {a d : Nat} (ha : a < 2147483648) (hd0 : 0 < d) (hd : d < 2147483648) : nI a / nI d = nI (a / d) := by
  rw [pt_eq, pt_div (by rw [pt_nI hd]; omega), pt_nI ha, pt_nI hd, pt_nI (Nat.lt_of_le_of_lt (Nat.div_le_self _ _) ha)]
  exact (Int.ofNat_tdiv a d).symm
theorem pt_nmod {a d : Nat} (ha : a < 2147483648) (hd0 : 0 < d) (hd : d < 2147483648) : nI a - nI a / nI d * nI d = nI (a % d) := by
  rw [pt_eq, pt_rem (by rw [pt_nI hd]; omega), pt_nI ha, pt_nI hd, pt_nI (Nat.lt_of_le_of_lt (Nat.mod_le _ _) ha)]
  exact (Int.ofNat_tmod a d).symm
theorem pt_nmul (a b : Nat) : nI a * nI b = nI (a * b) := (Int32.ofNat_mul a b).symm
theorem py_x {x : Nat} (hx : x < 65537) : pf_yx (nI x) = nI ((75 * x + 74) % 65537) := by
  unfold pf_yx
  rw [show (75 : Int32) * nI x = nI (75 * x) from pt_nmul 75 x, show nI (75 * x) + 74 = nI (75 * x + 74) from nI_add _ 74]
  exact pt_nmod (d := 65537) (by omega) (by omega) (by omega)
/-- the act that a draw tells -/
def py_act (m : Nat → Int32) (X : Nat) : Int32 × (Nat → Int32) × Int32 := if X % 8 = 5 then pm_trn m (X / 8 % 8) else (if X % 8 = 6 then pm_scr m (X / 8 % 16) else (if X % 8 = 7 then pm_hou m else pm_spr m (X / 8 % 8) (X / 8 / 8 % 4) (1 + X / 8 / 32 % 5)))
theorem py_cls {hi : Nat → Nat → Int32} {m : Nat → Int32} {s : Int32} (M : pr_M m) (T : pr_TT hi m s) {X : Nat} (hX : X < 65537) : ∃ r, pr_Act hi (ph_ye_actOf (nI (X % 8)) (nI (X / 8)) hi) m s r (py_act m X) := by
  unfold ph_ye_actOf py_act
  have n8 : nI (X / 8) - nI (X / 8) / 8 * 8 = nI (X / 8 % 8) := pt_nmod (d := 8) (by omega) (by omega) (by omega)
  have n16 : nI (X / 8) - nI (X / 8) / 16 * 16 = nI (X / 8 % 16) := pt_nmod (d := 16) (by omega) (by omega) (by omega)
  have d8 : nI (X / 8) / 8 = nI (X / 8 / 8) := pt_ndiv (d := 8) (by omega) (by omega) (by omega)
  have n4 : nI (X / 8 / 8) - nI (X / 8 / 8) / 4 * 4 = nI (X / 8 / 8 % 4) := pt_nmod (d := 4) (by omega) (by omega) (by omega)
  have d32 : nI (X / 8) / 32 = nI (X / 8 / 32) := pt_ndiv (d := 32) (by omega) (by omega) (by omega)
  have n5 : nI (X / 8 / 32) - nI (X / 8 / 32) / 5 * 5 = nI (X / 8 / 32 % 5) := pt_nmod (d := 5) (by omega) (by omega) (by omega)
  have a1 : 1 + nI (X / 8 / 32 % 5) = nI (1 + X / 8 / 32 % 5) := nI_add 1 _
  have k5 : nI (X % 8) = 5 ↔ X % 8 = 5 := nI_eq (b := 5) (by omega) (by omega)
  have k6 : nI (X % 8) = 6 ↔ X % 8 = 6 := nI_eq (b := 6) (by omega) (by omega)
  have k7 : nI (X % 8) = 7 ↔ X % 8 = 7 := nI_eq (b := 7) (by omega) (by omega)
  by_cases h5 : X % 8 = 5
  · rw [if_pos (k5.mpr h5), if_pos h5, n8]
    exact ⟨_, pr_trn M T (by omega)⟩
  rw [if_neg (fun g => h5 (k5.mp g)), if_neg h5]
  by_cases h6 : X % 8 = 6
  · rw [if_pos (k6.mpr h6), if_pos h6, n16]
    exact ⟨_, pr_scr M T (by omega)⟩
  rw [if_neg (fun g => h6 (k6.mp g)), if_neg h6]
  by_cases h7 : X % 8 = 7
  · rw [if_pos (k7.mpr h7), if_pos h7]
    exact ⟨_, pr_hou M T⟩
  rw [if_neg (fun g => h7 (k7.mp g)), if_neg h7, n8, d8, n4, d32, n5, a1]
  exact ⟨_, pr_spr M T (by omega) (by omega) (by omega) (by omega)⟩
/-- the model's act of a draw -/
theorem py_mod {L : Nat} {hi : Nat → Nat → Int32} {m : Nat → Int32} (e : hi 34 = m) {X : Nat} (hX : X < 65537) (hl : Nat → Nat → Int64) (x1 x2 x3 x4 x5 : Int32) : ∃ h1, pm_H hi h1 (py_act m X) ∧ ∀ o, (∀ a6 a7, pe_E pj_m150 43 [some (.ref 32), some (.int x1), some (.int x2), some (.int x3), some (.int x4), some (.int (x5 + 1)), a6, a7] [] (pj_SH L, pj_up h1 32 9 (py_act m X).1, hl) o) → pe_E pj_m150 76 [some (.ref 32), some (.int x1), some (.int x2), some (.int x3), some (.int x4), some (.int x5), some (.int (nI (X % 8))), some (.int (nI (X / 8)))] [] (pj_SH L, hi, hl) o := by
  unfold py_act
  have n8 : nI (X / 8) - nI (X / 8) / 8 * 8 = nI (X / 8 % 8) := pt_nmod (d := 8) (by omega) (by omega) (by omega)
  have n16 : nI (X / 8) - nI (X / 8) / 16 * 16 = nI (X / 8 % 16) := pt_nmod (d := 16) (by omega) (by omega) (by omega)
  have d8 : nI (X / 8) / 8 = nI (X / 8 / 8) := pt_ndiv (d := 8) (by omega) (by omega) (by omega)
  have n4 : nI (X / 8 / 8) - nI (X / 8 / 8) / 4 * 4 = nI (X / 8 / 8 % 4) := pt_nmod (d := 4) (by omega) (by omega) (by omega)
  have d32 : nI (X / 8) / 32 = nI (X / 8 / 32) := pt_ndiv (d := 32) (by omega) (by omega) (by omega)
  have n5 : nI (X / 8 / 32) - nI (X / 8 / 32) / 5 * 5 = nI (X / 8 / 32 % 5) := pt_nmod (d := 5) (by omega) (by omega) (by omega)
  have a1 : 1 + nI (X / 8 / 32 % 5) = nI (1 + X / 8 / 32 % 5) := nI_add 1 _
  have k5 : nI (X % 8) = 5 ↔ X % 8 = 5 := nI_eq (b := 5) (by omega) (by omega)
  have k6 : nI (X % 8) = 6 ↔ X % 8 = 6 := nI_eq (b := 6) (by omega) (by omega)
  have B := fun o => pb_mo_year_76 (L := L) (hi := hi) (hl := hl) (x1 := x1) (x2 := x2) (x3 := x3) (x4 := x4) (x5 := x5) (x6 := nI (X % 8)) (x7 := nI (X / 8)) (o := o) (fun _ _ _ => by rw [n16]; exact pt_ixN (by omega) (by omega)) (fun _ _ _ _ => by rw [n16]; exact pt_ixN (by omega) (by omega)) (fun _ _ => by rw [n8, pt_16 (by omega)]; exact pt_ixN (by omega) (by omega)) (fun _ _ _ => by rw [n8, pt_16 (by omega)]; exact pt_ixN (by omega) (by omega))
  by_cases h5 : X % 8 = 5
  · rw [if_pos h5]
    obtain ⟨e3, H⟩ := pm_trnH e (i := X / 8 % 8) (by omega)
    refine ⟨_, H, fun o K => ?_⟩
    refine ((B o).trans (if_pos (show (5 : Int32) ≤ nI (X % 8) from nI_le (a := 5) (by omega) (by omega)))).mpr ?_
    rw [if_neg (not_not_intro (k5.mpr h5)), n8, e3]
    exact pb_mo_year_163.mpr (K _ _)
  rw [if_neg h5]
  by_cases h6 : X % 8 = 6
  · rw [if_pos h6]
    obtain ⟨e3, H⟩ := pm_scrH e (c := X / 8 % 16) (by omega)
    refine ⟨_, H, fun o K => ?_⟩
    refine ((B o).trans (if_pos (show (5 : Int32) ≤ nI (X % 8) from nI_le (a := 5) (by omega) (by omega)))).mpr ?_
    rw [if_pos (fun g => h5 (k5.mp g)), if_neg (not_not_intro (k6.mpr h6)), if_neg (not_not_intro (k6.mpr h6)), n16, e3]
    exact pb_mo_year_163.mpr (K _ _)
  rw [if_neg h6]
  by_cases h7 : X % 8 = 7
  · rw [if_pos h7]
    obtain ⟨e3, H⟩ := pm_houH e
    refine ⟨_, H, fun o K => ?_⟩
    refine ((B o).trans (if_pos (show (5 : Int32) ≤ nI (X % 8) from nI_le (a := 5) (by omega) (by omega)))).mpr ?_
    rw [if_pos (fun g => h5 (k5.mp g)), if_pos (fun g => h6 (k6.mp g)), if_pos (fun g => h6 (k6.mp g)), e3]
    exact pb_mo_year_163.mpr (K _ _)
  rw [if_neg h7]
  obtain ⟨h1, C, H⟩ := pm_sprH e (i := X / 8 % 8) (q := X / 8 / 8 % 4) (c := 1 + X / 8 / 32 % 5) (by omega) (by omega) (by omega) L hl
  refine ⟨h1, H, fun o K => ?_⟩
  refine ((B o).trans (if_neg (show ¬ (5 : Int32) ≤ nI (X % 8) from nI_ge (b := 5) (by omega) (by omega)))).mpr ?_
  rw [n8, d8, n4, d32, n5, a1]
  exact ((pk_mo_year_105 C).trans pb_mo_year_108).mpr (K _ _)
theorem py_sim {L : Nat} (hl : Nat → Nat → Int64) (x1 x3 : Int32) : ∀ (n k x : Nat) (hi : Nat → Nat → Int32) (m : Nat → Int32) (s : Int32), k + n < 1000 → x < 65537 → pr_M m → pr_TT hi m s → ∃ (m2 : Nat → Int32) (s2 : Int32), pr_TT (ph_yel n (nI x) hi) m2 s2 ∧ pr_M m2 ∧ (∀ r, r ≠ 6 → r ≠ 7 → r ≠ 8 → r ≠ 9 → ph_yel n (nI x) hi r = hi r) ∧ ∀ (h : Nat → Nat → Int32), h 34 = m → h 32 6 = s → ∃ (h' : Nat → Nat → Int32), h' 34 = m2 ∧ h' 32 6 = s2 ∧ h' 32 2 = h 32 2 ∧ h' 32 4 = h 32 4 ∧ (∀ r, r ≠ 32 → r ≠ 34 → h' r = h r) ∧ ∀ o, (∀ x4 a6 a7, pe_E pj_m150 169 [some (.ref 32), some (.int x1), some (.int (nI (k + n))), some (.int x3), some (.int x4), some (.int (nI (k + n))), a6, a7] [] (pj_SH L, h', hl) o) → ∀ a6 a7, pe_E pj_m150 43 [some (.ref 32), some (.int x1), some (.int (nI (k + n))), some (.int x3), some (.int (nI x)), some (.int (nI k)), a6, a7] [] (pj_SH L, h, hl) o := by
  intro n
  induction n with
  | zero =>
    intro k x hi m s hk hx M T
    refine ⟨m, s, T, M, fun _ _ _ _ _ => rfl, fun h e6 e7 => ⟨h, e6, e7, rfl, rfl, fun _ _ _ => rfl, fun o K a6 a7 => ?_⟩⟩
    exact (pb_mo_year_43.trans (if_pos (Int32.le_refl _))).mpr (K _ _ _)
  | succ n ih =>
    intro k x hi m s hk hx M T
    have ex := py_x hx
    generalize hX : (75 * x + 74) % 65537 = X at ex
    have hX2 : X < 65537 := by omega
    have e8 : nI X - nI X / 8 * 8 = nI (X % 8) := pt_nmod (d := 8) (by omega) (by omega) (by omega)
    have d8 : nI X / 8 = nI (X / 8) := pt_ndiv (d := 8) (by omega) (by omega) (by omega)
    obtain ⟨r, A1, A2, A3, ⟨A4, _⟩, _⟩ := py_cls M T hX2
    have ec : ph_yel (n + 1) (nI x) hi = ph_yel n (nI X) (ph_ye_actOf (nI (X % 8)) (nI (X / 8)) hi) := by
      show ph_yel n (pf_yx (nI x)) (ph_ye_actOf (pf_yx (nI x) - pf_yx (nI x) / 8 * 8) (pf_yx (nI x) / 8) hi) = _
      rw [ex, e8, d8]
    obtain ⟨m2, s2, T2, M2, F2, Mo⟩ := ih (k + 1) X (ph_ye_actOf (nI (X % 8)) (nI (X / 8)) hi) (py_act m X).2.1 (s + (py_act m X).2.2) (by omega) hX2 A3 A2
    rw [ec]
    refine ⟨m2, s2, T2, M2, fun r h6 h7 h8 h9 => (F2 r h6 h7 h8 h9).trans (A4 r h6 h7 h8 h9), fun h e6 e7 => ?_⟩
    obtain ⟨h1, ⟨q1, q2, q3, q4⟩, K1⟩ := py_mod (L := L) e6 hX2 hl x1 (nI (k + 1 + n)) x3 (nI X) (nI k)
    have ekn : k + (n + 1) = k + 1 + n := by omega
    rw [ekn]
    obtain ⟨h', r34, r6, r2, r4, rr, K⟩ := Mo (pj_up h1 32 9 (py_act m X).1) q1 (q2.trans (by rw [e7]))
    refine ⟨h', r34, r6, r2.trans (q3 2 (by omega)), r4.trans (q3 4 (by omega)), fun r h32 h34 => (rr r h32 h34).trans ?_, fun o KK a6 a7 => ?_⟩
    · have : pj_up h1 32 9 (py_act m X).1 r = h1 r := by simp [pj_up, h32]
      rw [this]
      exact q4 r h32 h34
    · refine (pb_mo_year_43.trans (if_neg (nI_ge (show k < k + 1 + n by omega) (by omega)))).mpr ?_
      have ex' : ((75 * nI x) + 74) - ((75 * nI x) + 74) / 65537 * 65537 = nI X := ex
      rw [ex', e8, d8]
      refine K1 o (fun a6 a7 => ?_)
      rw [nI_1]
      exact K o KK a6 a7
theorem pk_year {L : Nat} (a b c : Int32) : pr_OK pr_R L pj_m90 pj_m150 [.int a, .int b, .int c] := by
  intro hi hl R
  obtain ⟨M, T, G, P, I⟩ := pr_Rin R
  have C1 := sa_sw_year a b c L hi hl
  unfold pf_sw_year ph_sw_year at C1
  by_cases v1 : 0 ≤ a ∧ a ≤ 9999
  case neg =>
    rw [if_pos v1, if_pos v1] at C1
    exact pr_ok C1 ((pb_mo_year_0.trans (if_pos v1)).mpr rfl) rfl R rfl rfl
  rw [if_neg (not_not_intro v1), if_neg (not_not_intro v1)] at C1
  by_cases v2 : 1 ≤ b ∧ b ≤ 99
  case neg =>
    rw [if_pos v2, if_pos v2] at C1
    exact pr_ok C1 ((pb_mo_year_0.trans ((if_neg (not_not_intro v1)).trans (if_pos v2))).mpr rfl) rfl R rfl rfl
  rw [if_neg (not_not_intro v2), if_neg (not_not_intro v2)] at C1
  by_cases v3 : 0 ≤ c ∧ c ≤ 2
  case neg =>
    rw [if_neg v3, if_neg v3] at C1
    exact pr_ok C1 ((pb_mo_year_0.trans ((if_neg (not_not_intro v1)).trans ((if_neg (not_not_intro v2)).trans (if_neg v3)))).mpr rfl) rfl R rfl rfl
  rw [if_pos v3, if_pos v3] at C1
  obtain ⟨x, hx, rfl⟩ := pt_of v1 (show (9999 : Int32).toInt = (9999 : Nat) by decide)
  obtain ⟨n, hn1, hn, rfl⟩ := pt_of1 v2 (show (1 : Int32).toInt = (1 : Nat) by decide) (show (99 : Int32).toInt = (99 : Nat) by decide)
  have en : (nI n).toInt.toNat = n := by rw [pt_nI (by omega)]; omega
  rw [en] at C1
  have T0 : pr_TT (ph_sc_copyFrom6x2 hi) (pf_upto (hi 34) (hi 33) 32) 0 := by
    refine ⟨?_, rfl⟩
    show pr_T (va_cpy (hi 3) (hi 7) 0 0 7) (va_cpy (hi 4) (hi 8) 0 0 8) (va_cpy (hi 5) (hi 9) 0 0 6) (hi 2 3) (hi 2 4) _
    exact pr_Tc (fun i h => by unfold pf_upto; rw [if_pos h]) (fun k h => pr_cpy _ _ _ _ h) (fun k h => pr_cpy _ _ _ _ h) (fun k h => pr_cpy _ _ _ _ h) T
  obtain ⟨m2, s2, T2, M2, F2, Mo⟩ := py_sim (L := L) hl (nI x) c n 0 x (ph_sc_copyFrom6x2 hi) _ 0 (by omega) (by omega) (pr_Mc (fun i h => by unfold pf_upto; rw [if_pos h]) M) T0
  have F3 : ∀ r, r ≠ 6 → r ≠ 7 → r ≠ 8 → r ≠ 9 → ph_yel n (nI x) (ph_sc_copyFrom6x2 hi) r = hi r := by
    intro r h6 h7 h8 h9
    rw [F2 r h6 h7 h8 h9]
    simp [ph_sc_copyFrom6x2, pj_up, pj_row, h6, h7, h8, h9]
  generalize ph_yel n (nI x) (ph_sc_copyFrom6x2 hi) = H at *
  obtain ⟨h', r34, r6, r2, r4, rr, K⟩ := Mo (ph_asN H) (by rw [← F3 33 (by omega) (by omega) (by omega) (by omega), ← F3 34 (by omega) (by omega) (by omega) (by omega)]; rfl) rfl
  have Fr : pg_Fr H h' := ⟨r2, r4, fun r h32 h34 => (rr r h32 h34).trans (by simp [ph_asN, pj_up, pj_row, h32, h34])⟩
  obtain ⟨R2, z1, z2⟩ := pr_Rfr (hl' := hl) R (fun r a b c d _ => F3 r a b c d) Fr
  rw [Nat.zero_add] at K
  refine pr_ok C1 ((pb_mo_year_0.trans ((if_neg (not_not_intro v1)).trans ((if_neg (not_not_intro v2)).trans (if_pos v3)))).mpr (K _ (fun x4 a6 a7 => pb_mo_year_169.mpr rfl) _ _)) ?_ R2 z1 z2
  have c6 : pf_sc_countOfT 6 (H 7) = pf_bits (pf_ones m2 6 16) 16 := by
    unfold pf_sc_countOfT
    rw [show pf_sc_cellsOfT 6 (H 7) = pf_ones m2 6 16 from (pf_celT (i := 6) (by omega) _).trans (T2.1.1 6 (by omega))]
    exact pq_bc16 (pq_ones16 _ _)
  have c0 : pf_sc_countOfT 0 (H 7) = pf_bits (pf_ones m2 0 16) 16 := by
    unfold pf_sc_countOfT
    rw [show pf_sc_cellsOfT 0 (H 7) = pf_ones m2 0 16 from (pf_celT (i := 0) (by omega) _).trans (T2.1.1 0 (by omega))]
    exact pq_bc16 (pq_ones16 _ _)
  rw [r34, r6, T2.2]
  obtain ⟨j, hj, rfl⟩ := pt_of v3 (show (2 : Int32).toInt = (2 : Nat) by decide)
  rcases (show j = 0 ∨ j = 1 ∨ j = 2 by omega) with rfl | rfl | rfl
  · exact c6.symm
  · exact c0.symm
  · rfl
/-! ===== images ===== -/
theorem pi_cpy (f g : Nat → Int32) (dp k : Nat) : upd (va_cpy f g 0 dp k) (dp + k) (f k) = va_cpy f g 0 dp (k + 1) := by
  funext j
  unfold upd va_cpy
  by_cases h : j = dp + k
  · rw [if_pos h, if_pos (by omega)]
    congr 1
    omega
  · rw [if_neg h]
    by_cases h2 : dp ≤ j ∧ j < dp + k
    · rw [if_pos h2, if_pos (by omega)]
    · rw [if_neg h2, if_neg (by omega)]
theorem pi_cps (f g : Nat → Int32) (sp k : Nat) : upd (va_cpy f g sp 0 k) k (f (sp + k)) = va_cpy f g sp 0 (k + 1) := by
  funext j
  unfold upd va_cpy
  by_cases h : j = k
  · rw [if_pos h, if_pos (by omega)]
    congr 1
    omega
  · rw [if_neg h]
    by_cases h2 : 0 ≤ j ∧ j < 0 + k
    · rw [if_pos h2, if_pos (by omega)]
    · rw [if_neg h2, if_neg (by omega)]
theorem pi_cp0 (f g : Nat → Int32) (sp dp : Nat) : va_cpy f g sp dp 0 = g := by
  funext j
  unfold va_cpy
  rw [if_neg (by omega)]
theorem pr_Gc {s5 s6 s7 n2 : Int32} {g g' : Nat → Int32} (h : ∀ i, i < 16 → g' i = g i) (G : pr_G s5 s6 s7 n2 g) : pr_G s5 s6 s7 n2 g' := by
  obtain ⟨n, hn, e1, e2, e3, e6, e7⟩ := G
  refine ⟨n, hn, e1, e2, fun i hi => ?_, ?_, ?_⟩
  · rw [h _ (by omega), h _ (by omega)]; exact e3 i hi
  · rw [e6]; exact (pf_sgC (n := n) (fun i hi => h i (by omega)) 1 n (Nat.le_refl _)).symm
  · rw [e7]; exact (pf_sgC (n := n) (fun i hi => h i (by omega)) 0 n (Nat.le_refl _)).symm
theorem pr_Ic {hi hi' : Nat → Nat → Int32} {r e : Nat} {kept : Int32} (h0 : hi' r = hi r) (h1 : hi' (r + 1) = hi (r + 1)) (h2 : hi' (r + 2) = hi (r + 2)) (h3 : hi' (r + 3) = hi (r + 3)) (h41 : hi' 41 e = hi 41 e) (h40 : ∀ j, 50 * e ≤ j → j < 50 * e + 50 → hi' 40 j = hi 40 j) (I : pr_I hi r e kept) : pr_I hi' r e kept := by
  rcases I with ⟨k, z⟩ | ⟨k, z, M, S, G⟩
  · exact Or.inl ⟨k, h41.trans z⟩
  · refine Or.inr ⟨k, h41.trans z, pr_Mc (fun i hi => h40 _ (by omega) (by omega)) M, ?_, ?_⟩
    · have S : pr_T (hi (r + 1)) (hi (r + 2)) (hi (r + 3)) (hi r 3) (hi r 4) (fun k => hi 40 (50 * e + k)) := S
      show pr_T (hi' (r + 1)) (hi' (r + 2)) (hi' (r + 3)) (hi' r 3) (hi' r 4) (fun k => hi' 40 (50 * e + k))
      rw [h0, h1, h2, h3]
      exact pr_Tc (fun i hi => h40 _ (by omega) (by omega)) (fun _ _ => rfl) (fun _ _ => rfl) (fun _ _ => rfl) S
    · rw [h0, h40 (50 * e + 49) (by omega) (by omega)]
      exact pr_Gc (fun i hi => h40 _ (by omega) (by omega)) G
/-- the model keeps an image -/
def ph_mim (e : Nat) (hi : Nat → Nat → Int32) : Nat → Nat → Int32 := pj_up (pj_row hi 40 (upd (va_cpy (hi 35) (va_cpy (hi 33) (hi 40) 0 (50 * e) 32) 0 (50 * e + 32) 16) (50 * e + 49) (hi 32 2))) 41 e 1
theorem ss_mim {e : Nat} (he : e ≤ 1) (L : Nat) (hi : Nat → Nat → Int32) (hl : Nat → Nat → Int64) : pe_C pj_m151 [.ref 32, .int (nI e)] (pj_SH L, hi, hl) (some (.int 1)) (pj_SH L, ph_mim e hi, hl) := by
  have v : 0 ≤ nI e ∧ nI e ≤ 1 := ⟨nI_le (a := 0) (by omega) (by omega), nI_le (b := 1) (by omega) (by omega)⟩
  have e50 : (50 : Int32) * nI e = nI (50 * e) := pt_nmul 50 e
  refine (pb_mo_image_0.trans (if_pos v)).mpr ?_
  rw [e50]
  have l2 : ∀ (q k : Nat), k + q = 16 → pe_E pj_m151 47 [some (.ref 32), some (.int (nI e)), some (.int (nI (50 * e))), some (.int (nI k))] [] (pj_SH L, pj_row hi 40 (va_cpy (hi 35) (va_cpy (hi 33) (hi 40) 0 (50 * e) 32) 0 (50 * e + 32) k), hl) (some (.int 1), (pj_SH L, ph_mim e hi, hl)) := by
    intro q
    induction q with
    | zero =>
      intro k hk
      rw [show k = 16 by omega]
      have e49 : nI (50 * e) + 49 = nI (50 * e + 49) := nI_add _ 49
      refine ((pb_mo_image_47 (fun h => absurd (Int32.le_refl _) h) (fun h => absurd (Int32.le_refl _) h)).trans ((if_pos (Int32.le_refl _)).trans (pb_mo_image_76 (by rw [e49]; exact pt_ixN (by omega) (by omega)) (pt_ixN (by omega) (by omega))))).mpr ?_
      rw [e49, pt_clamp (by omega), pt_clamp (by omega), pj_up_row2]
      rfl
    | succ q ih =>
      intro k hk
      have e32 : nI (50 * e) + 32 + nI k = nI (50 * e + 32 + k) := by
        rw [show nI (50 * e) + 32 = nI (50 * e + 32) from nI_add _ 32]
        exact nI_add _ k
      refine ((pb_mo_image_47 (fun _ => pt_ixN (by omega) (by omega)) (fun _ => by rw [e32]; exact pt_ixN (by omega) (by omega))).trans (if_neg (nI_ge (show k < 16 by omega) (by omega)))).mpr ?_
      rw [e32, pt_clamp (by omega), pt_clamp (by omega), nI_1, pj_up_row2]
      have e35 : pj_row hi 40 (va_cpy (hi 35) (va_cpy (hi 33) (hi 40) 0 (50 * e) 32) 0 (50 * e + 32) k) 35 k = hi 35 k := rfl
      rw [e35, pi_cpy]
      exact ih (k + 1) (by omega)
  have l1 : ∀ (q k : Nat), k + q = 32 → pe_E pj_m151 19 [some (.ref 32), some (.int (nI e)), some (.int (nI (50 * e))), some (.int (nI k))] [] (pj_SH L, pj_row hi 40 (va_cpy (hi 33) (hi 40) 0 (50 * e) k), hl) (some (.int 1), (pj_SH L, ph_mim e hi, hl)) := by
    intro q
    induction q with
    | zero =>
      intro k hk
      rw [show k = 32 by omega]
      refine ((pb_mo_image_19 (fun h => absurd (Int32.le_refl _) h) (fun h => absurd (Int32.le_refl _) h)).trans ((if_pos (Int32.le_refl _)).trans pb_mo_image_45)).mpr ?_
      have := l2 16 0 rfl
      rw [pi_cp0] at this
      exact this
    | succ q ih =>
      intro k hk
      have e32 : nI (50 * e) + nI k = nI (50 * e + k) := nI_add _ k
      refine ((pb_mo_image_19 (fun _ => pt_ixN (by omega) (by omega)) (fun _ => by rw [e32]; exact pt_ixN (by omega) (by omega))).trans (if_neg (nI_ge (show k < 32 by omega) (by omega)))).mpr ?_
      rw [e32, pt_clamp (by omega), pt_clamp (by omega), nI_1, pj_up_row2]
      have e35 : pj_row hi 40 (va_cpy (hi 33) (hi 40) 0 (50 * e) k) 33 k = hi 33 k := rfl
      rw [e35, pi_cpy]
      exact ih (k + 1) (by omega)
  have := l1 32 0 rfl
  rw [pi_cp0, pj_row_self] at this
  exact this
/-- the model takes one back -/
def ph_mrs (e : Nat) (hi : Nat → Nat → Int32) : Nat → Nat → Int32 := pj_up (pj_row (pj_row hi 33 (va_cpy (hi 40) (hi 33) (50 * e) 0 32)) 35 (va_cpy (hi 40) (hi 35) (50 * e + 32) 0 16)) 32 2 (hi 40 (50 * e + 49))
theorem ss_mrs {e : Nat} (he : e ≤ 1) (L : Nat) (hi : Nat → Nat → Int32) (hl : Nat → Nat → Int64) (h41 : ¬ hi 41 e = 0) : pe_C pj_m152 [.ref 32, .int (nI e)] (pj_SH L, hi, hl) (some (.int 1)) (pj_SH L, ph_mrs e hi, hl) := by
  have v : 0 ≤ nI e ∧ nI e ≤ 1 := ⟨nI_le (a := 0) (by omega) (by omega), nI_le (b := 1) (by omega) (by omega)⟩
  have e50 : (50 : Int32) * nI e = nI (50 * e) := pt_nmul 50 e
  refine ((pb_mo_restore_0 (fun _ => pt_ixN (by omega) (by omega))).trans ((if_pos v).trans (if_pos (by rw [pt_clamp (by omega)]; exact h41)))).mpr ?_
  rw [e50]
  have l2 : ∀ (q k : Nat), k + q = 16 → pe_E pj_m152 59 [some (.ref 32), some (.int (nI e)), some (.int (nI (50 * e))), some (.int (nI k))] [] (pj_SH L, pj_row (pj_row hi 33 (va_cpy (hi 40) (hi 33) (50 * e) 0 32)) 35 (va_cpy (hi 40) (hi 35) (50 * e + 32) 0 k), hl) (some (.int 1), (pj_SH L, ph_mrs e hi, hl)) := by
    intro q
    induction q with
    | zero =>
      intro k hk
      rw [show k = 16 by omega]
      have e49 : nI (50 * e) + 49 = nI (50 * e + 49) := nI_add _ 49
      refine ((pb_mo_restore_59 (fun h => absurd (Int32.le_refl _) h) (fun h => absurd (Int32.le_refl _) h)).trans ((if_pos (Int32.le_refl _)).trans (pb_mo_restore_88 (by rw [e49]; exact pt_ixN (by omega) (by omega))))).mpr ?_
      rw [e49, pt_clamp (by omega)]
      rfl
    | succ q ih =>
      intro k hk
      have e32 : nI (50 * e) + 32 + nI k = nI (50 * e + 32 + k) := by
        rw [show nI (50 * e) + 32 = nI (50 * e + 32) from nI_add _ 32]
        exact nI_add _ k
      refine ((pb_mo_restore_59 (fun _ => by rw [e32]; exact pt_ixN (by omega) (by omega)) (fun _ => pt_ixN (by omega) (by omega))).trans (if_neg (nI_ge (show k < 16 by omega) (by omega)))).mpr ?_
      rw [e32, pt_clamp (by omega), pt_clamp (by omega), nI_1, pj_up_row2]
      have e40 : pj_row (pj_row hi 33 (va_cpy (hi 40) (hi 33) (50 * e) 0 32)) 35 (va_cpy (hi 40) (hi 35) (50 * e + 32) 0 k) 40 = hi 40 := rfl
      rw [e40, pi_cps]
      exact ih (k + 1) (by omega)
  have l1 : ∀ (q k : Nat), k + q = 32 → pe_E pj_m152 31 [some (.ref 32), some (.int (nI e)), some (.int (nI (50 * e))), some (.int (nI k))] [] (pj_SH L, pj_row hi 33 (va_cpy (hi 40) (hi 33) (50 * e) 0 k), hl) (some (.int 1), (pj_SH L, ph_mrs e hi, hl)) := by
    intro q
    induction q with
    | zero =>
      intro k hk
      rw [show k = 32 by omega]
      refine ((pb_mo_restore_31 (fun h => absurd (Int32.le_refl _) h) (fun h => absurd (Int32.le_refl _) h)).trans ((if_pos (Int32.le_refl _)).trans pb_mo_restore_57)).mpr ?_
      have := l2 16 0 rfl
      rw [pi_cp0] at this
      rw [show pj_row (pj_row hi 33 (va_cpy (hi 40) (hi 33) (50 * e) 0 32)) 35 (hi 35) = pj_row hi 33 (va_cpy (hi 40) (hi 33) (50 * e) 0 32) from pj_row_self _ 35] at this
      exact this
    | succ q ih =>
      intro k hk
      have e32 : nI (50 * e) + nI k = nI (50 * e + k) := nI_add _ k
      refine ((pb_mo_restore_31 (fun _ => by rw [e32]; exact pt_ixN (by omega) (by omega)) (fun _ => pt_ixN (by omega) (by omega))).trans (if_neg (nI_ge (show k < 32 by omega) (by omega)))).mpr ?_
      rw [e32, pt_clamp (by omega), pt_clamp (by omega), nI_1, pj_up_row2]
      have e40 : pj_row hi 33 (va_cpy (hi 40) (hi 33) (50 * e) 0 k) 40 = hi 40 := rfl
      rw [e40, pi_cps]
      exact ih (k + 1) (by omega)
  have := l1 32 0 rfl
  rw [pi_cp0, pj_row_self] at this
  exact this
theorem pi_at1 (e : Nat) (hi : Nat → Nat → Int32) {k : Nat} (hk : k < 32) : ph_mim e hi 40 (50 * e + k) = hi 33 k := by
  show upd (va_cpy (hi 35) (va_cpy (hi 33) (hi 40) 0 (50 * e) 32) 0 (50 * e + 32) 16) (50 * e + 49) (hi 32 2) (50 * e + k) = _
  rw [pu_ne (by omega)]
  unfold va_cpy
  rw [if_neg (by omega), if_pos (by omega)]
  congr 1
  omega
theorem pi_at2 (e : Nat) (hi : Nat → Nat → Int32) {k : Nat} (hk : k < 16) : ph_mim e hi 40 (50 * e + 32 + k) = hi 35 k := by
  show upd (va_cpy (hi 35) (va_cpy (hi 33) (hi 40) 0 (50 * e) 32) 0 (50 * e + 32) 16) (50 * e + 49) (hi 32 2) (50 * e + 32 + k) = _
  rw [pu_ne (by omega)]
  unfold va_cpy
  rw [if_pos (by omega)]
  congr 1
  omega
theorem pi_at3 (e : Nat) (hi : Nat → Nat → Int32) : ph_mim e hi 40 (50 * e + 49) = hi 32 2 := by
  show upd _ (50 * e + 49) (hi 32 2) (50 * e + 49) = _
  exact pu_eq _ _ _
theorem pi_oth (e : Nat) (hi : Nat → Nat → Int32) {j : Nat} (hj : j < 50 * e ∨ 50 * e + 50 ≤ j) : ph_mim e hi 40 j = hi 40 j := by
  show upd (va_cpy (hi 35) (va_cpy (hi 33) (hi 40) 0 (50 * e) 32) 0 (50 * e + 32) 16) (50 * e + 49) (hi 32 2) j = _
  rw [pu_ne (by omega)]
  unfold va_cpy
  rw [if_neg (by omega), if_neg (by omega)]
theorem pk_image {L : Nat} (a : Int32) : pr_OK pr_R L pj_m91 pj_m151 [.int a] := by
  intro hi hl R
  obtain ⟨M, T, G, P, I⟩ := pr_Rin R
  have C1 := sa_sw_image a L hi hl
  unfold pf_sw_image ph_sw_image at C1
  by_cases v1 : 0 ≤ a ∧ a ≤ 1
  case neg =>
    rw [if_neg v1, if_neg v1] at C1
    exact pr_ok C1 ((pb_mo_image_0.trans (if_neg v1)).mpr rfl) rfl R rfl rfl
  rw [if_pos v1, if_pos v1] at C1
  obtain ⟨e, he, rfl⟩ := pt_of v1 (show (1 : Int32).toInt = (1 : Nat) by decide)
  rcases (show e = 0 ∨ e = 1 by omega) with rfl | rfl
  · rw [if_neg (not_not_intro (show nI 0 = 0 from rfl))] at C1
    refine pr_ok C1 (ss_mim (by omega) L _ hl) rfl (pr_Rmk M T G P ⟨?_, ?_⟩) rfl rfl
    · refine Or.inr ⟨rfl, rfl, pr_Mc (fun i hi => pi_at1 0 _ hi) M, ?_, ?_⟩
      · show pr_T (va_cpy (hi 3) (hi 11) 0 0 7) (va_cpy (hi 4) (hi 12) 0 0 8) (va_cpy (hi 5) (hi 13) 0 0 6) (hi 2 3) (hi 2 4) _
        exact pr_Tc (fun i hi => pi_at1 0 _ hi) (fun k h => pr_cpy _ _ _ _ h) (fun k h => pr_cpy _ _ _ _ h) (fun k h => pr_cpy _ _ _ _ h) T
      · rw [pi_at3 0]
        exact pr_Gc (fun i hi => pi_at2 0 _ hi) G
    · exact pr_Ic (hi := hi) rfl rfl rfl rfl rfl (fun j h1 h2 => (pi_oth 0 _ (by omega)).trans rfl) I.2
  · rw [if_pos (show ¬ nI 1 = 0 by decide)] at C1
    refine pr_ok C1 (ss_mim (by omega) L _ hl) rfl (pr_Rmk M T G P ⟨?_, ?_⟩) rfl rfl
    · exact pr_Ic (hi := hi) rfl rfl rfl rfl rfl (fun j h1 h2 => (pi_oth 1 _ (by omega)).trans rfl) I.1
    · refine Or.inr ⟨rfl, rfl, pr_Mc (fun i hi => pi_at1 1 _ hi) M, ?_, ?_⟩
      · show pr_T (va_cpy (hi 3) (hi 15) 0 0 7) (va_cpy (hi 4) (hi 16) 0 0 8) (va_cpy (hi 5) (hi 17) 0 0 6) (hi 2 3) (hi 2 4) _
        exact pr_Tc (fun i hi => pi_at1 1 _ hi) (fun k h => pr_cpy _ _ _ _ h) (fun k h => pr_cpy _ _ _ _ h) (fun k h => pr_cpy _ _ _ _ h) T
      · rw [pi_at3 1]
        exact pr_Gc (fun i hi => pi_at2 1 _ hi) G
theorem pi_cpsp (f g : Nat → Int32) (sp n k : Nat) (h : k < n) : va_cpy f g sp 0 n k = f (sp + k) := by
  unfold va_cpy
  rw [if_pos (by omega)]
  congr 1
theorem pk_restore {L : Nat} (a : Int32) : pr_OK pr_R L pj_m92 pj_m152 [.int a] := by
  intro hi hl R
  obtain ⟨M, T, G, P, I⟩ := pr_Rin R
  have C1 := sa_sw_restore a L hi hl
  unfold pf_sw_restore ph_sw_restore at C1
  by_cases v1 : 0 ≤ a ∧ a ≤ 1
  case neg =>
    rw [if_neg v1, if_neg v1] at C1
    exact pr_ok C1 (((pb_mo_restore_0 (fun h => absurd h v1)).trans (if_neg v1)).mpr rfl) rfl R rfl rfl
  rw [if_pos v1, if_pos v1] at C1
  obtain ⟨e, he, rfl⟩ := pt_of v1 (show (1 : Int32).toInt = (1 : Nat) by decide)
  have B := fun (hi : Nat → Nat → Int32) o => (pb_mo_restore_0 (L := L) (hi := hi) (hl := hl) (o := o) (fun h => pt_ixN (k := e) (by omega) (by omega))).trans (if_pos v1)
  rcases (show e = 0 ∨ e = 1 by omega) with rfl | rfl
  · rw [if_neg (not_not_intro (show nI 0 = 0 from rfl)), if_neg (not_not_intro (show nI 0 = 0 from rfl))] at C1
    rcases I.1 with ⟨k, z⟩ | ⟨k, z, M1, S1, G1⟩
    · rw [if_neg (not_not_intro k), if_neg (not_not_intro k)] at C1
      exact pr_ok C1 (((B hi _).trans (if_neg (not_not_intro z))).mpr rfl) rfl R rfl rfl
    · rw [if_pos (by rw [k]; decide), if_pos (by rw [k]; decide)] at C1
      refine pr_ok C1 (ss_mrs (by omega) L _ hl (by show ¬ hi 41 0 = 0; rw [z]; decide)) rfl (pr_Rmk ?_ ?_ ?_ P (pr_ImK ⟨rfl, rfl, rfl, rfl, rfl, rfl, rfl, rfl, rfl, rfl, rfl⟩ I)) rfl rfl
      · exact pr_Mc (m := fun k => hi 40 (50 * 0 + k)) (fun i h => (pi_cpsp (hi 40) (hi 33) (50 * 0) 32 i h)) M1
      · show pr_T (va_cpy (hi 11) (hi 3) 0 0 7) (va_cpy (hi 12) (hi 4) 0 0 8) (va_cpy (hi 13) (hi 5) 0 0 6) (hi 10 3) (hi 10 4) _
        exact pr_Tc (m := fun k => hi 40 (50 * 0 + k)) (fun i h => (pi_cpsp (hi 40) (hi 33) (50 * 0) 32 i h)) (fun k h => pr_cpy _ _ _ _ h) (fun k h => pr_cpy _ _ _ _ h) (fun k h => pr_cpy _ _ _ _ h) S1
      · exact pr_Gc (g := fun k => hi 40 (50 * 0 + 32 + k)) (fun i h => pi_cpsp (hi 40) (hi 35) (50 * 0 + 32) 16 i h) G1
  · rw [if_pos (show ¬ nI 1 = 0 by decide), if_pos (show ¬ nI 1 = 0 by decide)] at C1
    rcases I.2 with ⟨k, z⟩ | ⟨k, z, M1, S1, G1⟩
    · rw [if_neg (not_not_intro k), if_neg (not_not_intro k)] at C1
      exact pr_ok C1 (((B hi _).trans (if_neg (not_not_intro z))).mpr rfl) rfl R rfl rfl
    · rw [if_pos (by rw [k]; decide), if_pos (by rw [k]; decide)] at C1
      refine pr_ok C1 (ss_mrs (by omega) L _ hl (by show ¬ hi 41 1 = 0; rw [z]; decide)) rfl (pr_Rmk ?_ ?_ ?_ P (pr_ImK ⟨rfl, rfl, rfl, rfl, rfl, rfl, rfl, rfl, rfl, rfl, rfl⟩ I)) rfl rfl
      · exact pr_Mc (m := fun k => hi 40 (50 * 1 + k)) (fun i h => (pi_cpsp (hi 40) (hi 33) (50 * 1) 32 i h)) M1
      · show pr_T (va_cpy (hi 15) (hi 3) 0 0 7) (va_cpy (hi 16) (hi 4) 0 0 8) (va_cpy (hi 17) (hi 5) 0 0 6) (hi 14 3) (hi 14 4) _
        exact pr_Tc (m := fun k => hi 40 (50 * 1 + k)) (fun i h => (pi_cpsp (hi 40) (hi 33) (50 * 1) 32 i h)) (fun k h => pr_cpy _ _ _ _ h) (fun k h => pr_cpy _ _ _ _ h) (fun k h => pr_cpy _ _ _ _ h) S1
      · exact pr_Gc (g := fun k => hi 40 (50 * 1 + 32 + k)) (fun i h => pi_cpsp (hi 40) (hi 35) (50 * 1 + 32) 16 i h) G1
