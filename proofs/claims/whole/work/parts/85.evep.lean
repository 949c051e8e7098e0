/-! ===== the public methods over evenings ===== -/
theorem pr_Mc {m m' : Nat → Int32} (h : ∀ i, i < 32 → m' i = m i) (M : pr_M m) : pr_M m' := by
  obtain ⟨h1, h2, h3, h4, h5⟩ := M
  refine ⟨fun c hc => ?_, fun i hi => ?_, fun c h6 h7 => ?_, ?_, ?_⟩
  · rw [h c (by omega)]; exact h1 c hc
  · rw [h _ (by omega)]; exact h2 i hi
  · rw [h _ (by omega)]; exact h3 c h6 h7
  · rw [h _ (by omega)]; exact h4
  · rw [h _ (by omega)]; exact h5
theorem pr_Tc {f3 f4 f5 g3 g4 g5 m m' : Nat → Int32} {w hr : Int32} (h : ∀ i, i < 32 → m' i = m i) (e3 : ∀ k, k < 7 → g3 k = f3 k) (e4 : ∀ k, k < 8 → g4 k = f4 k) (e5 : ∀ k, k < 6 → g5 k = f5 k) (T : pr_T f3 f4 f5 w hr m) : pr_T g3 g4 g5 w hr m' := by
  obtain ⟨h1, h2, h3, h4, h5⟩ := T
  refine ⟨fun c hc => ?_, fun i hi => ?_, fun c h6 h7 => ?_, ?_, ?_⟩
  · rw [e3 c hc, h1 c hc]; exact (pf_onesC (fun d hd => h d (by omega)) _ 16 (by omega)).symm
  · rw [e4 i hi, h _ (by omega)]; exact h2 i hi
  · rw [e5 c h7, h _ (by omega)]; exact h3 c h6 h7
  · rw [h _ (by omega)]; exact h4
  · rw [h _ (by omega)]; exact h5
theorem pr_cpy {α : Type} (f g : Nat → α) (n k : Nat) (h : k < n) : va_cpy f g 0 0 n k = f k := by
  unfold va_cpy
  rw [if_pos (by omega)]
  congr 1
  omega
theorem pg_val (pad : Nat → Int32) {n : Nat} (hn : n ≤ 60) : ∀ m k r, r < 4 → k + m = n → (pf_mfr (nI n) pad m k (nI r) = -6 ∨ ∃ j, j ≤ 60 ∧ pf_mfr (nI n) pad m k (nI r) = nI j)
  | 0, k, r, _, _ => by
    unfold pf_mfr
    split
    · exact Or.inr ⟨n, hn, rfl⟩
    · exact Or.inl rfl
  | m + 1, k, r, hr, hk => by
    unfold pf_mfr
    rcases pg_step r hr (pad k) with ⟨h1, h2⟩ | ⟨j, hj, h1, h2⟩
    · rw [h1, if_neg (by decide)]
      exact Or.inr ⟨k, by omega, rfl⟩
    · rw [h1, if_pos (show (0 : Int32) ≤ nI j from nI_le (a := 0) (by omega) (by omega))]
      exact pg_val pad hn m (k + 1) j hj (by omega)
/-- what the model's evening leaves -/
def pg_Mf (hi hi' : Nat → Nat → Int32) (k2 : Nat) (m2 : Nat → Int32) (s2 ma2 mw2 : Int32) : Prop := hi' 34 = m2 ∧ hi' 32 6 = s2 ∧ hi' 32 7 = ma2 ∧ hi' 32 8 = mw2 ∧ hi' 32 10 = nI k2
def pg_Fr (hi hi' : Nat → Nat → Int32) : Prop := hi' 32 2 = hi 32 2 ∧ hi' 32 4 = hi 32 4 ∧ (∀ r, r ≠ 32 → r ≠ 34 → hi' r = hi r)
theorem pg_begin {hi : Nat → Nat → Int32} (M : pr_M (hi 33)) (T : pr_T (hi 3) (hi 4) (hi 5) (hi 2 3) (hi 2 4) (hi 33)) : pr_TT (ph_sc_copyFrom6x2 (ph_ev_begin hi)) (pf_upto (hi 34) (hi 33) 32) 0 := by
  refine ⟨?_, rfl⟩
  show pr_T (va_cpy (hi 3) (hi 7) 0 0 7) (va_cpy (hi 4) (hi 8) 0 0 8) (va_cpy (hi 5) (hi 9) 0 0 6) (hi 2 3) (hi 2 4) _
  exact pr_Tc (fun i h => by unfold pf_upto; rw [if_pos h]) (fun k h => pr_cpy _ _ _ _ h) (fun k h => pr_cpy _ _ _ _ h) (fun k h => pr_cpy _ _ _ _ h) T
theorem pg_evening {L : Nat} {hi : Nat → Nat → Int32} {N : Nat} (M : pr_M (hi 33)) (T : pr_T (hi 3) (hi 4) (hi 5) (hi 2 3) (hi 2 4) (hi 33)) (hN : N ≤ 60) (e1 : hi 18 1 = nI N) (e2 : hi 32 4 = nI N) (e3 : ∀ i, i < N → hi 19 i = hi 36 i) (hfw : pf_fw (hi 18) (hi 19) = -6) : ∃ (st rs : Int32) (k2 : Nat) (m2 : Nat → Int32) (s2 ma2 mw2 : Int32), pg_C (ph_sc_copyFrom6x2 (ph_ev_begin hi)) (ph_evp hi) st rs k2 m2 s2 ma2 mw2 ∧ (∀ r, r ≠ 6 → r ≠ 7 → r ≠ 8 → r ≠ 9 → r ≠ 20 → ph_evp hi r = hi r) ∧ pr_M m2 ∧ ((st = -6 ∧ rs = -6) ∨ ∃ j, j < 60 ∧ st = nI j) ∧ ∀ (hi1 : Nat → Nat → Int32) (hl1 : Nat → Nat → Int64), hi1 32 = hi 32 → hi1 33 = hi 33 → hi1 34 = hi 34 → hi1 36 = hi 36 → ∃ hi', pe_C pj_m126 [.ref 32] (pj_SH L, hi1, hl1) (some (.int st)) (pj_SH L, hi', hl1) ∧ pg_Mf hi1 hi' k2 m2 s2 ma2 mw2 ∧ (st ≠ -6 → hi' 32 9 = rs) ∧ pg_Fr hi1 hi' := by
  rw [pg_fwP hN e1 e3] at hfw
  obtain ⟨st, rs, k2, m2, s2, ma2, mw2, C, Mo, M2, st2⟩ := pg_sim (L := L) (pad := hi 36) hN 60 0 0 (ph_sc_copyFrom6x2 (ph_ev_begin hi)) (pf_upto (hi 34) (hi 33) 32) 0 (-6) (-6) rfl (by omega) (by omega) hfw (pr_Mc (fun i h => by unfold pf_upto; rw [if_pos h]) M) (pg_begin M T) rfl rfl rfl rfl rfl (Or.inl rfl) (fun _ => rfl) e1 e3
  refine ⟨st, rs, k2, m2, s2, ma2, mw2, C, fun r h6 h7 h8 h9 h20 => ?_, M2, st2, fun hi1 hl1 g32 g33 g34 g36 => ?_⟩
  · refine (C.2.2.2.2.2.2.1 r h6 h7 h8 h9 h20).trans ?_
    simp [ph_sc_copyFrom6x2, ph_ev_begin, pj_up, pj_row, h6, h7, h8, h9, h20]
  · obtain ⟨hi', E, r34, r6, r7, r8, r10, r9, r2, r4, rr⟩ := Mo (pj_up (ph_asN hi1) 32 10 0) hl1 (by rw [← g33, ← g34]; rfl) rfl rfl rfl rfl (by rw [← e2, ← g32]; rfl) (by rw [← g36]; rfl)
    refine ⟨hi', pb_mo_goEvenings_0.mpr (E _ _ _ _), ⟨r34, r6, r7, r8, r10⟩, r9, r2, r4, fun r h32 h34 => (rr r h32 h34).trans ?_⟩
    simp [ph_asN, pj_up, pj_row, h32, h34]
/-- the bar of evenings, class and model -/
theorem pg_bar {L : Nat} {hi : Nat → Nat → Int32} {hl : Nat → Nat → Int64} (R : pr_R hi hl) (hl1 : Nat → Nat → Int64) : ∃ (b : Int32) (hi' : Nat → Nat → Int32), pe_C pj_m128 [.ref 32] (pj_SH L, ph_sw_eveningCanBe hi, hl1) (some (.int b)) (pj_SH L, hi', hl1) ∧ pg_Fr (ph_sw_eveningCanBe hi) hi' ∧ (∀ r, r ≠ 6 → r ≠ 7 → r ≠ 8 → r ≠ 9 → r ≠ 20 → ph_sw_eveningCanBe hi r = hi r) ∧ ((¬ pp_sw_eveningCanBe hi ∧ b = -5) ∨ (pp_sw_eveningCanBe hi ∧ b = 0 ∧ ∃ (k2 : Nat) (m2 : Nat → Int32) (s2 ma2 mw2 : Int32), (ph_sw_eveningCanBe hi) 20 0 = nI k2 ∧ (ph_sw_eveningCanBe hi) 20 3 = ma2 ∧ (ph_sw_eveningCanBe hi) 20 4 = mw2 ∧ pr_TT (ph_sw_eveningCanBe hi) m2 s2 ∧ pr_M m2 ∧ pg_Mf (ph_sw_eveningCanBe hi) hi' k2 m2 s2 ma2 mw2)) := by
  obtain ⟨M, T, G, P, I⟩ := pr_Rin R
  obtain ⟨n, hn, e1, e2, e3⟩ := P
  by_cases hfw : pf_fw (hi 18) (hi 19) = -6
  · have eh : ph_sw_eveningCanBe hi = ph_evp hi := by unfold ph_sw_eveningCanBe; rw [if_pos hfw]
    obtain ⟨st, rs, k2, m2, s2, ma2, mw2, C, fr, M2, st2, Mo⟩ := pg_evening (L := L) M T hn e1 e2 (fun i h => (e3 i h).1) hfw
    obtain ⟨hi', E, Mf, r9, Fr⟩ := Mo (ph_evp hi) hl1 (fr 32 (by omega) (by omega) (by omega) (by omega) (by omega)) (fr 33 (by omega) (by omega) (by omega) (by omega) (by omega)) (fr 34 (by omega) (by omega) (by omega) (by omega) (by omega)) (fr 36 (by omega) (by omega) (by omega) (by omega) (by omega))
    rw [eh]
    have F := ss_mf hn L (ph_evp hi) hl1 (by rw [fr 32 (by omega) (by omega) (by omega) (by omega) (by omega)]; exact e2)
    rw [fr 36 (by omega) (by omega) (by omega) (by omega) (by omega), ← pg_fwP hn e1 (fun i h => (e3 i h).1), hfw] at F
    refine ⟨if st < 0 then 0 else -5, hi', (pb_mo_barOfEvenings_0.trans ((pk_mo_barOfEvenings_1 F).trans (pb_mo_barOfEvenings_4.trans ((if_neg (by decide)).trans ((pk_mo_barOfEvenings_8 E).trans pb_mo_barOfEvenings_11))))).mpr rfl, Fr, fr, ?_⟩
    unfold pp_sw_eveningCanBe
    rcases st2 with ⟨h1, h2⟩ | ⟨j, hj, h1⟩
    · refine Or.inr ⟨⟨hfw, fun g => g (C.2.1.trans h1)⟩, by rw [h1]; rfl, k2, m2, s2, ma2, mw2, C.1, C.2.2.2.1, C.2.2.2.2.1, C.2.2.2.2.2.1, M2, Mf⟩
    · refine Or.inl ⟨fun g => g.2 (fun g2 => ?_), ?_⟩
      · rw [C.2.1, h1] at g2
        exact pg_n6 (by omega) g2
      · rw [h1, if_neg (nI_pos (by omega))]
  · have eh : ph_sw_eveningCanBe hi = hi := by unfold ph_sw_eveningCanBe; rw [if_neg hfw]
    rw [eh]
    have F := ss_mf hn L hi hl1 e2
    rw [← pg_fwP hn e1 (fun i h => (e3 i h).1)] at F
    have h0 : (0 : Int32) ≤ pf_fw (hi 18) (hi 19) := by
      rw [pg_fwP hn e1 (fun i h => (e3 i h).1)] at hfw ⊢
      rcases pg_val (hi 36) hn n 0 0 (by omega) (by omega) with h | ⟨j, hj, h⟩
      · exact absurd h hfw
      · have h : pf_mfr (nI n) (hi 36) n 0 0 = nI j := h
        rw [h]
        exact nI_le (a := 0) (by omega) (by omega)
    refine ⟨-5, hi, (pb_mo_barOfEvenings_0.trans ((pk_mo_barOfEvenings_1 F).trans (pb_mo_barOfEvenings_4.trans ((if_pos h0).trans pb_mo_barOfEvenings_20)))).mpr rfl, ⟨rfl, rfl, fun _ _ _ => rfl⟩, fun _ _ _ _ _ _ => rfl, Or.inl ⟨fun g => hfw g.1, rfl⟩⟩
/-- frames keep the relation -/
theorem pr_Rfr {hi h1 h2 : Nat → Nat → Int32} {hl hl' : Nat → Nat → Int64} (R : pr_R hi hl) (F1 : ∀ r, r ≠ 6 → r ≠ 7 → r ≠ 8 → r ≠ 9 → r ≠ 20 → h1 r = hi r) (F2 : pg_Fr h1 h2) : pr_R h2 hl' ∧ h1 0 = hi 0 ∧ h2 0 = hi 0 := by
  obtain ⟨g2, g4, gr⟩ := F2
  have k : ∀ r, r ≠ 6 → r ≠ 7 → r ≠ 8 → r ≠ 9 → r ≠ 20 → r ≠ 32 → r ≠ 34 → h2 r = hi r := fun r a b c d e f g => (gr r f g).trans (F1 r a b c d e)
  have k2 : h2 2 = hi 2 := k 2 (by omega) (by omega) (by omega) (by omega) (by omega) (by omega) (by omega)
  have f32 : h1 32 = hi 32 := F1 32 (by omega) (by omega) (by omega) (by omega) (by omega)
  refine ⟨pr_RK ⟨?_, ?_, ?_, ?_, ?_, ?_, ?_, ?_, ?_, ?_, ?_, ?_, ?_, ?_, ?_, ?_, ?_, ?_, ?_, by rw [k2], by rw [k2], by rw [k2], by rw [k2], by rw [k2], by rw [g2, f32], by rw [g4, f32]⟩ R, F1 0 (by omega) (by omega) (by omega) (by omega) (by omega), ?_⟩
  all_goals exact k _ (by omega) (by omega) (by omega) (by omega) (by omega) (by omega) (by omega)
theorem pk_judge {L : Nat} (a : Int32) : pr_OK pr_R L pj_m73 pj_m127 [.int a] := by
  intro hi hl R
  obtain ⟨M, T, G, P, I⟩ := pr_Rin R
  obtain ⟨n, hn, e1, e2, e3⟩ := P
  by_cases v1 : 0 ≤ a ∧ a ≤ 1
  case neg =>
    refine pr_ok (v2 := -2) (sa_sw_judge a L hi hl) (hi2 := hi) (hl2 := hl) ?_ ?_ R ?_ rfl
    · unfold ph_sw_judge
      rw [if_neg v1]
      exact (pb_mo_judge_0.trans (if_neg v1)).mpr rfl
    · unfold pf_sw_judge
      rw [if_neg v1]
    · unfold ph_sw_judge
      rw [if_neg v1]
  by_cases hfw : pf_fw (hi 18) (hi 19) = -6
  · obtain ⟨st, rs, k2, m2, s2, ma2, mw2, C, fr, M2, st2, Mo⟩ := pg_evening (L := L) M T hn e1 e2 (fun i h => (e3 i h).1) hfw
    obtain ⟨hi', E, Mf, r9, Fr⟩ := Mo (ph_evp hi) hl (fr 32 (by omega) (by omega) (by omega) (by omega) (by omega)) (fr 33 (by omega) (by omega) (by omega) (by omega) (by omega)) (fr 34 (by omega) (by omega) (by omega) (by omega) (by omega)) (fr 36 (by omega) (by omega) (by omega) (by omega) (by omega))
    have F := ss_mf hn L (ph_evp hi) hl (by rw [fr 32 (by omega) (by omega) (by omega) (by omega) (by omega)]; exact e2)
    rw [fr 36 (by omega) (by omega) (by omega) (by omega) (by omega), ← pg_fwP hn e1 (fun i h => (e3 i h).1), hfw] at F
    have eh : ph_sw_judge a hi = ph_evp hi := by unfold ph_sw_judge; rw [if_pos v1, if_pos hfw]
    have C1 := sa_sw_judge a L hi hl
    rw [eh] at C1
    obtain ⟨R2, z1, z2⟩ := pr_Rfr (hl' := hl) R fr Fr
    refine pr_ok C1 ((pb_mo_judge_0.trans ((if_pos v1).trans ((pk_mo_judge_13 F).trans (pb_mo_judge_16.trans ((if_pos (by decide)).trans ((pk_mo_judge_23 E).trans pb_mo_judge_26)))))).mpr rfl) ?_ R2 z1 z2
    unfold pf_sw_judge
    rw [if_pos v1, if_pos hfw, C.2.1, C.2.2.1]
    rcases st2 with ⟨h1, h2⟩ | ⟨j, hj, h1⟩
    · rw [h1, h2, if_pos (by decide)]
      split <;> rfl
    · rw [if_neg (by rw [h1]; exact nI_pos (by omega)), r9 (by rw [h1]; exact pg_n6 (by omega))]
  · have h0 : ¬ pf_fw (hi 18) (hi 19) < 0 := by
      rw [pg_fwP hn e1 (fun i h => (e3 i h).1)] at hfw ⊢
      rcases pg_val (hi 36) hn n 0 0 (by omega) (by omega) with h | ⟨j, hj, h⟩
      · exact absurd h hfw
      · have h : pf_mfr (nI n) (hi 36) n 0 0 = nI j := h
        rw [h]
        exact nI_pos (by omega)
    have eh : ph_sw_judge a hi = hi := by unfold ph_sw_judge; rw [if_pos v1, if_neg hfw]
    have C1 := sa_sw_judge a L hi hl
    rw [eh] at C1
    have F := ss_mf hn L hi hl e2
    rw [← pg_fwP hn e1 (fun i h => (e3 i h).1)] at F
    refine pr_ok C1 ((pb_mo_judge_0.trans ((if_pos v1).trans ((pk_mo_judge_13 F).trans (pb_mo_judge_16.trans (if_neg h0))))).mpr rfl) ?_ R rfl rfl
    unfold pf_sw_judge
    rw [if_pos v1, if_neg hfw]
theorem pk_left {L : Nat} (a : Int32) : pr_OK pr_R L pj_m76 pj_m131 [.int a] := by
  intro hi hl R
  have C1 := sa_sw_left a L hi hl
  unfold pf_sw_left ph_sw_left at C1
  by_cases v1 : 1 ≤ a ∧ a ≤ 5
  case neg =>
    rw [if_neg v1, if_neg v1] at C1
    exact pr_ok C1 ((pb_mo_left_0.trans (if_neg v1)).mpr rfl) rfl R rfl rfl
  rw [if_pos v1, if_pos v1] at C1
  obtain ⟨b, hi', B, Fr, F1, alt⟩ := pg_bar (L := L) R hl
  obtain ⟨R2, z1, z2⟩ := pr_Rfr (hl' := hl) R F1 Fr
  obtain ⟨i, hi1, hi5, rfl⟩ := pt_of1 v1 (show (1 : Int32).toInt = (1 : Nat) by decide) (show (5 : Int32).toInt = (5 : Nat) by decide)
  refine pr_ok C1 ((pb_mo_left_0.trans ((if_pos v1).trans ((pk_mo_left_12 B).trans (pb_mo_left_15 (fun _ => by rw [pt_24 (by omega)]; exact pt_ixN (by omega) (by omega)))))).mpr rfl) ?_ R2 z1 z2
  rcases alt with ⟨h1, rfl⟩ | ⟨h1, rfl, k2, m2, s2, ma2, mw2, f0, f3, f4, TT, M2, Mf⟩
  · rw [if_pos h1, if_neg (by decide)]
  · rw [if_neg (not_not_intro h1), if_pos (by decide), pt_24 (by omega), pt_clamp (by omega), pf_drpT (by omega) (by omega), Mf.1]
    exact (TT.1.2.2.1 i (by omega) (by omega)).symm
theorem pk_behind {L : Nat} (a c : Int32) : pr_OK pr_R L pj_m75 pj_m130 [.int a, .int c] := by
  intro hi hl R
  have C1 := sa_sw_behind a c L hi hl
  unfold pf_sw_behind ph_sw_behind at C1
  by_cases v1 : 0 ≤ a ∧ a ≤ 15
  case neg =>
    rw [if_neg v1, if_neg v1] at C1
    exact pr_ok C1 ((pb_mo_behind_0.trans (if_neg v1)).mpr rfl) rfl R rfl rfl
  rw [if_pos v1, if_pos v1] at C1
  by_cases v2 : 0 ≤ c ∧ c ≤ 1
  case neg =>
    rw [if_neg v2, if_neg v2] at C1
    exact pr_ok C1 ((pb_mo_behind_0.trans ((if_pos v1).trans (if_neg v2))).mpr rfl) rfl R rfl rfl
  rw [if_pos v2, if_pos v2] at C1
  obtain ⟨b, hi', B, Fr, F1, alt⟩ := pg_bar (L := L) R hl
  obtain ⟨R2, z1, z2⟩ := pr_Rfr (hl' := hl) R F1 Fr
  obtain ⟨i, hi1, rfl⟩ := pt_of v1 (show (15 : Int32).toInt = (15 : Nat) by decide)
  have B2 := fun o => (pb_mo_behind_0 (o := o)).trans ((if_pos v1).trans ((if_pos v2).trans ((pk_mo_behind_22 B).trans (pb_mo_behind_25 (fun _ _ => pt_ixN (by omega) (by omega))))))
  rcases alt with ⟨h1, rfl⟩ | ⟨h1, rfl, k2, m2, s2, ma2, mw2, f0, f3, f4, TT, M2, Mf⟩
  · rw [if_neg h1] at C1
    exact pr_ok C1 (((B2 _).trans ((if_neg (by decide)).trans pb_mo_behind_57)).mpr rfl) rfl R2 z1 z2
  · rw [if_pos h1] at C1
    by_cases v3 : c = 0
    · rw [if_neg (not_not_intro v3)] at C1
      refine pr_ok C1 (((B2 _).trans ((if_pos (by decide)).trans ((if_neg (not_not_intro v3)).trans pb_mo_behind_57))).mpr rfl) ?_ R2 z1 z2
      obtain ⟨k, hk, e⟩ := M2.1 i (by omega)
      rw [pt_clamp (by omega), Mf.1, pr_col (by omega) hk e TT.1.1]
    · rw [if_pos v3] at C1
      refine pr_ok C1 (((B2 _).trans ((if_pos (by decide)).trans ((if_pos v3).trans pb_mo_behind_53))).mpr rfl) ?_ R2 z1 z2
      rw [Mf.1, TT.1.2.2.2.1]
theorem pk_then {L : Nat} (a : Int32) : pr_OK pr_R L pj_m77 pj_m132 [.int a] := by
  intro hi hl R
  have C1 := sa_sw_then a L hi hl
  unfold pf_sw_then ph_sw_then at C1
  by_cases v1 : 0 ≤ a ∧ a ≤ 6
  case neg =>
    rw [if_neg v1, if_neg v1] at C1
    exact pr_ok C1 ((pb_mo_then_0.trans (if_neg v1)).mpr rfl) rfl R rfl rfl
  rw [if_pos v1, if_pos v1] at C1
  obtain ⟨b, hi', B, Fr, F1, alt⟩ := pg_bar (L := L) R hl
  obtain ⟨R2, z1, z2⟩ := pr_Rfr (hl' := hl) R F1 Fr
  refine pr_ok C1 ((pb_mo_then_0.trans ((if_pos v1).trans ((pk_mo_then_14 B).trans (pb_mo_then_17 (fun _ _ _ h => by subst h; exact pt_ixN (k := 30) (n := 32) (by omega) (by omega)) (fun _ _ _ _ h => by subst h; exact pt_ixN (k := 31) (n := 32) (by omega) (by omega)))))).mpr rfl) ?_ R2 z1 z2
  rcases alt with ⟨h1, rfl⟩ | ⟨h1, rfl, k2, m2, s2, ma2, mw2, f0, f3, f4, TT, M2, Mf⟩
  · rw [if_neg h1, if_neg (by decide)]
  · rw [if_pos h1, if_pos (by decide)]
    have c6 : pf_sc_countOfT 6 (ph_sw_eveningCanBe hi 7) = pf_bits (pf_ones m2 6 16) 16 := by
      unfold pf_sc_countOfT
      rw [show pf_sc_cellsOfT 6 (ph_sw_eveningCanBe hi 7) = pf_ones m2 6 16 from (pf_celT (i := 6) (by omega) _).trans (TT.1.1 6 (by omega))]
      exact pq_bc16 (pq_ones16 _ _)
    have c0 : pf_sc_countOfT 0 (ph_sw_eveningCanBe hi 7) = pf_bits (pf_ones m2 0 16) 16 := by
      unfold pf_sc_countOfT
      rw [show pf_sc_cellsOfT 0 (ph_sw_eveningCanBe hi 7) = pf_ones m2 0 16 from (pf_celT (i := 0) (by omega) _).trans (TT.1.1 0 (by omega))]
      exact pq_bc16 (pq_ones16 _ _)
    rw [c6, c0, f3, f4, TT.1.2.2.2.1, TT.1.2.2.2.2, TT.2, Mf.1, Mf.2.1, Mf.2.2.1, Mf.2.2.2.1]
    by_cases w0 : a = 0
    · rw [if_pos w0, if_pos w0]
    rw [if_neg w0, if_neg w0]
    by_cases w1 : a = 1
    · rw [if_pos w1, if_pos w1]
    rw [if_neg w1, if_neg w1]
    by_cases w2 : a = 2
    · rw [if_pos w2, if_pos w2]; subst w2; rfl
    rw [if_neg w2, if_neg w2]
    by_cases w3 : a = 3
    · rw [if_pos w3, if_pos w3]; subst w3; rfl
    rw [if_neg w3, if_neg w3]
    by_cases w4 : a = 4
    · rw [if_pos w4, if_pos w4]
    rw [if_neg w4, if_neg w4]
    by_cases w5 : a = 5
    · rw [if_neg (not_not_intro w5), if_pos w5]
    rw [if_pos w5, if_neg w5]
theorem pk_done {L : Nat} : pr_OK pr_R L pj_m74 pj_m129 [] := by
  intro hi hl R
  have C1 := sa_sw_done L hi hl
  unfold pf_sw_done ph_sw_done at C1
  obtain ⟨M, T, G, P, I⟩ := pr_Rin R
  by_cases h1 : pp_sw_eveningCanBe hi
  case neg =>
    rw [if_neg h1, if_neg h1] at C1
    obtain ⟨b, hi', B, Fr, F1, alt⟩ := pg_bar (L := L) R hl
    obtain ⟨R2, z1, z2⟩ := pr_Rfr (hl' := hl) R F1 Fr
    rcases alt with ⟨_, rfl⟩ | ⟨h2, _⟩
    · exact pr_ok C1 ((pb_mo_done_0.trans ((pk_mo_done_1 B).trans (pb_mo_done_4.trans (if_neg (by decide))))).mpr rfl) rfl R2 z1 z2
    · exact absurd h2 h1
  rw [if_pos h1, if_pos h1] at C1
  -- the class has done it; the model plays the same evening on the heap behind it
  have hfw := h1.1
  have eh : ph_sw_eveningCanBe hi = ph_evp hi := by unfold ph_sw_eveningCanBe; rw [if_pos hfw]
  rw [eh] at C1
  obtain ⟨n, hn, e1, e2, e3⟩ := P
  obtain ⟨st, rs, k2, m2, s2, ma2, mw2, C, fr, M2, st2, Mo⟩ := pg_evening (L := L) M T hn e1 e2 (fun i h => (e3 i h).1) hfw
  have hst : st = -6 := by
    have := h1.2
    exact C.2.1.symm.trans (Decidable.not_not.mp this)
  have hc : ∀ r, r ≠ 2 → r ≠ 3 → r ≠ 4 → r ≠ 5 → r ≠ 18 → ph_pa_clear (ph_sc_copyFrom2x6 (ph_evp hi)) r = ph_evp hi r := by
    intro r h2 h3 h4 h5 h18
    generalize ph_evp hi = H
    simp [ph_pa_clear, ph_sc_copyFrom2x6, pj_up, pj_row, h2, h3, h4, h5, h18]
  have hc2 : ∀ r, r ≠ 2 → r ≠ 3 → r ≠ 4 → r ≠ 5 → r ≠ 18 → r ≠ 6 → r ≠ 7 → r ≠ 8 → r ≠ 9 → r ≠ 20 → ph_pa_clear (ph_sc_copyFrom2x6 (ph_evp hi)) r = hi r := fun r a b c d e f g h i j => (hc r a b c d e).trans (fr r f g h i j)
  have g32 := hc2 32 (by omega) (by omega) (by omega) (by omega) (by omega) (by omega) (by omega) (by omega) (by omega) (by omega)
  have g36 := hc2 36 (by omega) (by omega) (by omega) (by omega) (by omega) (by omega) (by omega) (by omega) (by omega) (by omega)
  obtain ⟨hi', E, Mf, r9, Fr⟩ := Mo (ph_pa_clear (ph_sc_copyFrom2x6 (ph_evp hi))) hl g32 (hc2 33 (by omega) (by omega) (by omega) (by omega) (by omega) (by omega) (by omega) (by omega) (by omega) (by omega)) (hc2 34 (by omega) (by omega) (by omega) (by omega) (by omega) (by omega) (by omega) (by omega) (by omega) (by omega)) g36
  have F := ss_mf hn L (ph_pa_clear (ph_sc_copyFrom2x6 (ph_evp hi))) hl (by rw [g32]; exact e2)
  rw [g36, ← pg_fwP hn e1 (fun i h => (e3 i h).1), hfw] at F
  have B : pe_C pj_m128 [.ref 32] (pj_SH L, ph_pa_clear (ph_sc_copyFrom2x6 (ph_evp hi)), hl) (some (.int 0)) (pj_SH L, hi', hl) := by
    refine (pb_mo_barOfEvenings_0.trans ((pk_mo_barOfEvenings_1 F).trans (pb_mo_barOfEvenings_4.trans ((if_neg (by decide)).trans ((pk_mo_barOfEvenings_8 E).trans pb_mo_barOfEvenings_11))))).mpr ?_
    rw [hst]
    rfl
  have loop : ∀ (q k : Nat), k + q = 32 → pe_E pj_m129 12 [some (.ref 32), some (.int (nI k))] [] (pj_SH L, pj_row hi' 33 (pf_upto (hi' 33) (hi' 34) k), hl) (some (.int (hi' 32 10)), (pj_SH L, pj_up (pj_row hi' 33 (pf_upto (hi' 33) (hi' 34) 32)) 32 4 0, hl)) := by
    intro q
    induction q with
    | zero =>
      intro k hk
      rw [show k = 32 by omega]
      exact ((pb_mo_done_12 (fun h => absurd (Int32.le_refl _) h)).trans ((if_pos (Int32.le_refl _)).trans pb_mo_done_36)).mpr rfl
    | succ q ih =>
      intro k hk
      refine ((pb_mo_done_12 (fun _ => pt_ixN (by omega) (by omega))).trans (if_neg (nI_ge (show k < 32 by omega) (by omega)))).mpr ?_
      rw [pt_clamp (by omega), nI_1, pj_up_row2]
      have e : pj_row hi' 33 (pf_upto (hi' 33) (hi' 34) k) 34 k = hi' 34 k := rfl
      rw [e, pf_upto_s]
      exact ih (k + 1) (by omega)
  have loop0 := loop 32 0 rfl
  rw [pf_upto_0, pj_row_self] at loop0
  refine pr_ok C1 ((pb_mo_done_0.trans ((pk_mo_done_1 B).trans (pb_mo_done_4.trans (if_pos (by decide))))).mpr loop0) (Mf.2.2.2.2.trans C.1.symm) ?_ ?_ ?_
  · have fg := Fr.2.2
    have keep : ∀ r, r ≠ 32 → r ≠ 33 → r ≠ 34 → pj_up (pj_row hi' 33 (pf_upto (hi' 33) (hi' 34) 32)) 32 4 0 r = ph_pa_clear (ph_sc_copyFrom2x6 (ph_evp hi)) r := by
      intro r a b c
      rw [← fg r a c]
      simp [pj_up, pj_row, a, b]
    have keep2 : ∀ r, r ≠ 2 → r ≠ 3 → r ≠ 4 → r ≠ 5 → r ≠ 18 → r ≠ 6 → r ≠ 7 → r ≠ 8 → r ≠ 9 → r ≠ 20 → r ≠ 32 → r ≠ 33 → r ≠ 34 → pj_up (pj_row hi' 33 (pf_upto (hi' 33) (hi' 34) 32)) 32 4 0 r = hi r := fun r a b c d e f g h i j k l m => (keep r k l m).trans (hc2 r a b c d e f g h i j)
    have em : ∀ i, i < 32 → pf_upto (hi' 33) (hi' 34) 32 i = m2 i := fun i h => by unfold pf_upto; rw [if_pos h, Mf.1]
    have k2r := keep 2 (by omega) (by omega) (by omega)
    have TT := C.2.2.2.2.2.1
    have H2 : ∀ j, 3 ≤ j → j ≤ 7 → ph_pa_clear (ph_sc_copyFrom2x6 (ph_evp hi)) 2 j = ph_evp hi 6 j := by
      intro j h3 h7
      generalize ph_evp hi = H
      rcases (show j = 3 ∨ j = 4 ∨ j = 5 ∨ j = 6 ∨ j = 7 by omega) with rfl | rfl | rfl | rfl | rfl <;> rfl
    refine pr_Rmk ?_ ?_ ?_ ?_ ?_
    · exact pr_Mc em M2
    · show pr_T _ _ _ _ _ (pf_upto (hi' 33) (hi' 34) 32)
      rw [k2r, keep 3 (by omega) (by omega) (by omega), keep 4 (by omega) (by omega) (by omega), keep 5 (by omega) (by omega) (by omega), H2 3 (by omega) (by omega), H2 4 (by omega) (by omega)]
      refine pr_Tc em ?_ ?_ ?_ TT.1
      · intro k hk
        have : ph_pa_clear (ph_sc_copyFrom2x6 (ph_evp hi)) 3 = va_cpy (ph_evp hi 7) (ph_evp hi 3) 0 0 7 := by generalize ph_evp hi = H; rfl
        rw [this]; exact pr_cpy _ _ _ _ hk
      · intro k hk
        have : ph_pa_clear (ph_sc_copyFrom2x6 (ph_evp hi)) 4 = va_cpy (ph_evp hi 8) (ph_evp hi 4) 0 0 8 := by generalize ph_evp hi = H; rfl
        rw [this]; exact pr_cpy _ _ _ _ hk
      · intro k hk
        have : ph_pa_clear (ph_sc_copyFrom2x6 (ph_evp hi)) 5 = va_cpy (ph_evp hi 9) (ph_evp hi 5) 0 0 6 := by generalize ph_evp hi = H; rfl
        rw [this]; exact pr_cpy _ _ _ _ hk
    · have d := C.2.2.2.2.2.2.2
      have e5 : pj_up (pj_row hi' 33 (pf_upto (hi' 33) (hi' 34) 32)) 32 4 0 2 5 = hi 2 5 := by rw [k2r, H2 5 (by omega) (by omega), d.1]; rfl
      have e6 : pj_up (pj_row hi' 33 (pf_upto (hi' 33) (hi' 34) 32)) 32 4 0 2 6 = hi 2 6 := by rw [k2r, H2 6 (by omega) (by omega), d.2.1]; rfl
      have e7 : pj_up (pj_row hi' 33 (pf_upto (hi' 33) (hi' 34) 32)) 32 4 0 2 7 = hi 2 7 := by rw [k2r, H2 7 (by omega) (by omega), d.2.2]; rfl
      have e32 : pj_up (pj_row hi' 33 (pf_upto (hi' 33) (hi' 34) 32)) 32 4 0 32 2 = hi 32 2 := by
        have : pj_up (pj_row hi' 33 (pf_upto (hi' 33) (hi' 34) 32)) 32 4 0 32 2 = hi' 32 2 := rfl
        rw [this, Fr.1, g32]
      rw [e5, e6, e7, e32, keep2 35 (by omega) (by omega) (by omega) (by omega) (by omega) (by omega) (by omega) (by omega) (by omega) (by omega) (by omega) (by omega) (by omega)]
      exact G
    · have e18 : pj_up (pj_row hi' 33 (pf_upto (hi' 33) (hi' 34) 32)) 32 4 0 18 1 = 0 := by
        rw [keep 18 (by omega) (by omega) (by omega)]
        generalize ph_evp hi = H
        rfl
      exact ⟨0, by omega, e18, rfl, fun i h => absurd h (by omega)⟩
    · refine pr_ImK ⟨?_, ?_, ?_, ?_, ?_, ?_, ?_, ?_, ?_, ?_, ?_⟩ I
      all_goals exact keep2 _ (by omega) (by omega) (by omega) (by omega) (by omega) (by omega) (by omega) (by omega) (by omega) (by omega) (by omega) (by omega) (by omega)
  · exact hc2 0 (by omega) (by omega) (by omega) (by omega) (by omega) (by omega) (by omega) (by omega) (by omega) (by omega)
  · have : pj_up (pj_row hi' 33 (pf_upto (hi' 33) (hi' 34) 32)) 32 4 0 0 = hi' 0 := rfl
    rw [this, Fr.2.2 0 (by omega) (by omega)]
    exact hc2 0 (by omega) (by omega) (by omega) (by omega) (by omega) (by omega) (by omega) (by omega) (by omega) (by omega)
