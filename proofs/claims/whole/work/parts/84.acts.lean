/-! ===== the acts: the class's scene against the model's numbers ===== -/
def pm_spr (m : Nat → Int32) (i q c : Nat) : Int32 × (Nat → Int32) × Int32 := if ¬ (pf_mqs (m (16 + i)) (nI q)) = 0 then (if (pf_bits (pf_mqs (m (16 + i)) (nI q)) 16) ≤ (m (24 + c)) then (0, pf_spm m (pf_mqs (m (16 + i)) (nI q)) (nI c) (24 + c), pf_bits (pf_mqs (m (16 + i)) (nI q)) 16) else (2, m, 0)) else (1, m, 0)
def pm_trn (m : Nat → Int32) (i : Nat) : Int32 × (Nat → Int32) × Int32 := if ¬ pf_mo (m (16 + i)) 16 = m (16 + i) then (0, upd m (16 + i) (pf_mo (m (16 + i)) 16), 0) else (3, m, 0)
def pm_scr (m : Nat → Int32) (c : Nat) : Int32 × (Nat → Int32) × Int32 := if ¬ m c = 0 then (0, upd (upd m c 0) 30 (m 30 &&& ((1 <<< (nI c &&& 31)) ^^^ (-1))), 0) else (4, m, 0)
def pm_hou (m : Nat → Int32) : Int32 × (Nat → Int32) × Int32 := if ¬ m 31 = 99 then (0, upd (upd m 31 (m 31 + 1)) 30 0, 0) else (5, m, 0)
/-- the cells that are mud now and were none -/
def pm_fr (m m' : Nat → Int32) : Int32 := pf_ones m' 6 16 &&& (pf_ones m 6 16 ^^^ (-1))
/-- the trial scene holds the numbers m, and s drops were sprayed -/
def pr_TT (hi : Nat → Nat → Int32) (m : Nat → Int32) (s : Int32) : Prop := pr_T (hi 7) (hi 8) (hi 9) (hi 6 3) (hi 6 4) m ∧ hi 6 8 = s
def pr_F (hi hi' : Nat → Nat → Int32) : Prop := (∀ k, k ≠ 6 → k ≠ 7 → k ≠ 8 → k ≠ 9 → hi' k = hi k) ∧ (hi' 6 5 = hi 6 5 ∧ hi' 6 6 = hi 6 6 ∧ hi' 6 7 = hi 6 7)
/-- what an act of the class does, told by what the model's does -/
def pr_Act (hi hi' : Nat → Nat → Int32) (m : Nat → Int32) (s r : Int32) (a : Int32 × (Nat → Int32) × Int32) : Prop := r = a.1 ∧ pr_TT hi' a.2.1 (s + a.2.2) ∧ pr_M a.2.1 ∧ pr_F hi hi' ∧ (a.1 = 0 → hi 6 9 = 0 → hi' 6 9 = pm_fr m a.2.1) ∧ (∃ j, j < 6 ∧ a.1 = nI j)
theorem pr_frself (m : Nat → Int32) {m' : Nat → Int32} (h : ∀ c, c < 16 → m' c = 6 → m c = 6) : pm_fr m m' = 0 := by
  unfold pm_fr
  refine pq_ext16 (pq_16and (pq_ones16 _ _) _) pq_160 (fun i hi => ?_)
  rw [b_and, pq_not _ (by omega), b_0, Bool.and_eq_true, pq_onesb _ _ hi]
  constructor
  · rintro ⟨h1, h2⟩
    have := (pq_onesb m 6 hi).mpr (h i hi h1)
    rw [this] at h2
    exact h2
  · intro h1
    cases h1
theorem pr_no {hi : Nat → Nat → Int32} {m : Nat → Int32} {s r : Int32} (M : pr_M m) (T : pr_TT hi m s) {j : Nat} (hj0 : 1 ≤ j) (hj : j < 6) (hr : r = nI j) : pr_Act hi hi m s r (nI j, m, 0) := by
  refine ⟨hr, ?_, M, ⟨fun _ _ _ _ _ => rfl, rfl, rfl, rfl⟩, fun h => ?_, j, hj, rfl⟩
  · rw [Int32.add_zero]; exact T
  · exact absurd h (nI_ne0 (by omega) (by omega))
theorem pr_trn {hi : Nat → Nat → Int32} {m : Nat → Int32} {s : Int32} (M : pr_M m) (T : pr_TT hi m s) {i : Nat} (h8 : i < 8) : pr_Act hi (ph_sc_turnOverT (nI i) hi) m s (pf_sc_turnOverT (nI i) (hi 8)) (pm_trn m i) := by
  obtain ⟨T, S⟩ := T
  have e : pf_sc_holesOfT (nI i) (hi 8) = m (16 + i) := by rw [pf_holT h8]; exact T.2.1 i h8
  unfold pf_sc_turnOverT ph_sc_turnOverT pm_trn
  rw [e, pq_ov]
  by_cases h : ¬ pf_mo (m (16 + i)) 16 = m (16 + i)
  · rw [if_pos h, if_pos h, if_pos h]
    have e2 : ph_sc_cutT (nI i) (pf_mo (m (16 + i)) 16) hi = pj_up hi 8 i (pf_mo (m (16 + i)) 16) := by
      unfold ph_sc_cutT
      rw [if_neg (nI_pos (by omega)), if_neg (show ¬ (8 : Int32) ≤ nI i from nI_ge (a := i) (b := 8) (by omega) (by omega)), pt_clamp (by omega)]
    rw [e2]
    refine ⟨rfl, ⟨?_, ?_⟩, ?_, ⟨fun k _ _ h8 _ => ?_, rfl, rfl, rfl⟩, fun _ h0 => ?_, 0, by omega, rfl⟩
    · exact pr_Tcard T h8 _
    · rw [Int32.add_zero]; exact S
    · obtain ⟨n, hn, e3⟩ := pq_16o (pq_mo16 (m (16 + i)))
      show pr_M (upd m (16 + i) (pf_mo (m (16 + i)) 16))
      rw [e3]
      exact pr_Mcard M h8 hn
    · simp [pj_up, h8]
    · refine (show pj_up hi 8 i (pf_mo (m (16 + i)) 16) 6 9 = hi 6 9 from rfl).trans (h0.trans (Eq.symm ?_))
      refine pr_frself m (fun c hc h => ?_)
      rw [← h]
      exact (pu_ne (by omega)).symm
  · rw [if_neg h, if_neg h, if_neg h]
    exact pr_no M ⟨T, S⟩ (j := 3) (by omega) (by omega) rfl
theorem pr_scr {hi : Nat → Nat → Int32} {m : Nat → Int32} {s : Int32} (M : pr_M m) (T : pr_TT hi m s) {c : Nat} (h16 : c < 16) : pr_Act hi (ph_sc_scrapeT (nI c) hi) m s (pf_sc_scrapeT (nI c) (hi 7)) (pm_scr m c) := by
  obtain ⟨T, S⟩ := T
  obtain ⟨k, hk, ek⟩ := M.1 c h16
  have e : pf_col (hi 7) (nI c) = m c := pr_col h16 hk ek T.1
  unfold pf_sc_scrapeT ph_sc_scrapeT pm_scr
  rw [e]
  by_cases h : ¬ m c = 0
  · rw [if_pos h, if_pos h, if_pos h]
    refine ⟨rfl, ⟨?_, ?_⟩, ?_, ⟨fun k h6 h7 _ _ => ?_, rfl, rfl, rfl⟩, fun _ h0 => ?_, 0, by omega, rfl⟩
    · have := pr_Tcell T h16 (show 0 < 7 by omega) (m 30 &&& ((1 <<< (nI c &&& 31)) ^^^ (-1)))
      have ew : ph_sc_wettenT (1 <<< (nI c &&& 31)) 0 (pj_row hi 7 (pf_pntR (hi 7) (1 <<< (nI c &&& 31)) 0)) 6 3 = m 30 &&& ((1 <<< (nI c &&& 31)) ^^^ (-1)) := by
        rw [← T.2.2.2.1]
        rfl
      show pr_T _ _ _ (ph_sc_wettenT (1 <<< (nI c &&& 31)) 0 (pj_row hi 7 (pf_pntR (hi 7) (1 <<< (nI c &&& 31)) 0)) 6 3) _ _
      rw [ew]
      exact this
    · rw [Int32.add_zero]; exact S
    · exact pr_Mcell M h16 (show 0 < 7 by omega) _ (pq_16and (pr_Mwet M) _)
    · simp [ph_sc_wettenT, pj_up, pj_row, h6, h7]
    · refine (show ph_sc_wettenT (1 <<< (nI c &&& 31)) 0 (pj_row hi 7 (pf_pntR (hi 7) (1 <<< (nI c &&& 31)) 0)) 6 9 = hi 6 9 from rfl).trans (h0.trans (Eq.symm ?_))
      refine pr_frself m (fun d hd h => ?_)
      have h : upd (upd m c 0) 30 (m 30 &&& ((1 <<< (nI c &&& 31)) ^^^ (-1))) d = 6 := h
      rw [pu_ne (by omega)] at h
      by_cases e : d = c
      · subst e; rw [pu_eq] at h; exact absurd h (by decide)
      · rw [pu_ne e] at h; exact h
  · rw [if_neg h, if_neg h, if_neg h]
    exact pr_no M ⟨T, S⟩ (j := 4) (by omega) (by omega) rfl
theorem pr_hou {hi : Nat → Nat → Int32} {m : Nat → Int32} {s : Int32} (M : pr_M m) (T : pr_TT hi m s) : pr_Act hi (ph_sc_waitAnHourT hi) m s (pf_sc_waitAnHourT (hi 6)) (pm_hou m) := by
  obtain ⟨T, S⟩ := T
  obtain ⟨n, hn, en⟩ := M.2.2.2.2
  have e4 : hi 6 4 = nI n := T.2.2.2.2.trans en
  unfold pf_sc_waitAnHourT pm_hou
  by_cases h : n = 99
  · subst h
    have hc : ¬ (hi 6 4 < 99) := by rw [e4]; decide
    have e2 : ph_sc_waitAnHourT hi = hi := by
      unfold ph_sc_waitAnHourT
      simp only [if_neg hc, pj_up_self]
    rw [e2, if_neg hc, if_neg (by rw [en]; decide)]
    exact pr_no M ⟨T, S⟩ (j := 5) (by omega) (by omega) rfl
  · have hc : (hi 6 4 < 99) := by rw [e4]; exact nI_lt (b := 99) (by omega) (by omega)
    have e2 : ph_sc_waitAnHourT hi = pj_up (pj_up hi 6 4 (hi 6 4 + 1)) 6 3 0 := by
      unfold ph_sc_waitAnHourT
      simp only [if_pos hc]
    rw [e2, if_pos hc, if_pos (show ¬ m 31 = 99 by rw [en]; exact fun g => h ((nI_eq (a := n) (b := 99) (by omega) (by omega)).mp g))]
    have em : m 31 + 1 = nI (n + 1) := by rw [en, nI_1]
    refine ⟨rfl, ⟨?_, ?_⟩, ?_, ⟨fun k h6 h7 _ _ => ?_, rfl, rfl, rfl⟩, fun _ h0 => ?_, 0, by omega, rfl⟩
    · show pr_T (hi 7) (hi 8) (hi 9) 0 (hi 6 4 + 1) (upd (upd m 31 (m 31 + 1)) 30 0)
      obtain ⟨h1, h2, h3, h4, h5⟩ := T
      refine ⟨fun k hk => ?_, fun j hj => ?_, fun d h6 h7 => ?_, ?_, ?_⟩
      · rw [h1 k hk]
        exact (pf_onesC (fun c hc => by rw [pu_ne (by omega), pu_ne (by omega)]) _ 16 (by omega)).symm
      · rw [pu_ne (by omega), pu_ne (by omega)]; exact h2 j hj
      · rw [pu_ne (by omega), pu_ne (by omega)]; exact h3 d h6 h7
      · rw [pu_eq]
      · rw [pu_ne (by omega), pu_eq, h5]
    · rw [Int32.add_zero]; exact S
    · show pr_M (upd (upd m 31 (m 31 + 1)) 30 0)
      rw [em]
      obtain ⟨h1, h2, h3, h4, h5⟩ := M
      refine ⟨fun k hk => ?_, fun j hj => ?_, fun d h6 h7 => ?_, ?_, ?_⟩
      · rw [pu_ne (by omega), pu_ne (by omega)]; exact h1 k hk
      · rw [pu_ne (by omega), pu_ne (by omega)]; exact h2 j hj
      · rw [pu_ne (by omega), pu_ne (by omega)]; exact h3 d h6 h7
      · exact ⟨0, by omega, pu_eq _ _ _⟩
      · exact ⟨n + 1, by omega, by rw [pu_ne (by omega), pu_eq]⟩
    · simp [pj_up, h6]
    · refine (show pj_up (pj_up hi 6 4 (hi 6 4 + 1)) 6 3 0 6 9 = hi 6 9 from rfl).trans (h0.trans (Eq.symm ?_))
      refine pr_frself m (fun d hd h => ?_)
      have h : upd (upd m 31 (m 31 + 1)) 30 0 d = 6 := h
      rw [pu_ne (by omega), pu_ne (by omega)] at h
      exact h
theorem pr_spr {hi : Nat → Nat → Int32} {m : Nat → Int32} {s : Int32} (M : pr_M m) (T : pr_TT hi m s) {i q c : Nat} (h8 : i < 8) (hq : q < 4) (hc1 : 1 ≤ c) (hc6 : c < 6) : pr_Act hi (ph_spT (nI i) (nI q) (nI c) hi) m s (pf_spT (nI i) (nI q) (nI c) (hi 8) (hi 9)) (pm_spr m i q c) := by
  obtain ⟨T, S⟩ := T
  have e : pf_qs (pf_sc_holesOfT (nI i) (hi 8)) (nI q) = pf_mqs (m (16 + i)) (nI q) := by rw [pf_holT h8, T.2.1 i h8, pq_qs _ (by omega)]
  obtain ⟨n16, hn16, en16⟩ := M.2.1 i h8
  have h16 : pq_16 (pf_mqs (m (16 + i)) (nI q)) := pq_mqs16 (by rw [en16]; exact pq_16n hn16) _
  have ed : pf_sc_dropsOfT (nI c) (hi 9) = m (24 + c) := by rw [pf_drpT hc1 hc6]; exact T.2.2.1 c hc1 hc6
  have ec : pf_sc_cellsOfT (nI c) (hi 7) = pf_ones m (nI c) 16 := by rw [pf_celT (by omega)]; exact T.1 c (by omega)
  unfold pf_spT ph_spT pm_spr
  rw [e, pq_bc16 h16, ed, ec]
  generalize pf_mqs (m (16 + i)) (nI q) = h at *
  by_cases g1 : h = 0
  · have g2 : pf_bits h 16 = 0 := (pq_bits16 h16).mpr g1
    rw [if_neg (not_not_intro g2), if_neg (not_not_intro g2), if_neg (not_not_intro g1)]
    exact pr_no M ⟨T, S⟩ (j := 1) (by omega) (by omega) rfl
  · have g2 : ¬ pf_bits h 16 = 0 := fun k => g1 ((pq_bits16 h16).mp k)
    rw [if_pos g2, if_pos g2, if_pos g1]
    by_cases g3 : pf_bits h 16 ≤ m (24 + c)
    case neg =>
      rw [if_neg g3, if_neg g3, if_neg g3]
      exact pr_no M ⟨T, S⟩ (j := 2) (by omega) (by omega) rfl
    rw [if_pos g3, if_pos g3, if_pos g3]
    have ew : hi 6 3 = m 30 := T.2.2.2.1
    have W := pr_Mwet M
    obtain ⟨b, hb, eb⟩ := pq_bitsle h
    obtain ⟨d, hd, edd⟩ := M.2.2.1 c hc1 hc6
    have hbd : b ≤ d := by
      rw [eb, edd, pt_le, pt_nI (by omega), pt_nI (by omega)] at g3
      omega
    have esub : m (24 + c) - pf_bits h 16 = nI (d - b) := by rw [eb, edd]; exact pq_nIsub hbd
    -- the spoilt ones
    have hsb : ∀ j, j < 16 → (bt ((h &&& hi 6 3) &&& (pf_ones m (nI c) 16 ^^^ (-1))) j = true ↔ bt h j = true ∧ bt (m 30) j = true ∧ ¬ m j = nI c) := by
      intro j hj
      rw [b_and, b_and, pq_not _ (by omega), Bool.and_eq_true, Bool.and_eq_true, ew]
      have := pq_onesb m (nI c) hj
      constructor
      · rintro ⟨⟨k1, k2⟩, k3⟩
        refine ⟨k1, k2, fun k4 => ?_⟩
        rw [this.mpr k4] at k3
        cases k3
      · rintro ⟨k1, k2, k3⟩
        refine ⟨⟨k1, k2⟩, ?_⟩
        cases hx : bt (pf_ones m (nI c) 16) j
        · rfl
        · exact absurd (this.mp hx) k3
    have hs16 : pq_16 ((h &&& hi 6 3) &&& (pf_ones m (nI c) 16 ^^^ (-1))) := pq_16and (pq_16and h16 _) _
    generalize (h &&& hi 6 3) &&& (pf_ones m (nI c) 16 ^^^ (-1)) = sp at *
    have mc : ∀ j, j < 16 → pf_spm m h (nI c) (24 + c) j = pf_spc1 (m 30) m h (nI c) j := by
      intro j hj
      unfold pf_spm
      rw [pu_ne (by omega), pu_ne (by omega)]
      unfold pf_upto
      rw [if_pos hj]
    have mc2 : ∀ j, j < 16 → pf_spm m h (nI c) (24 + c) j = if bt sp j = true then nI 6 else (if bt h j = true then nI c else m j) := by
      intro j hj
      rw [mc j hj]
      unfold pf_spc1
      by_cases k1 : bt h j = true
      · rw [if_neg (not_not_intro ((pq_has h (by omega)).mpr k1)), if_pos k1]
        by_cases k2 : bt (m 30) j = true
        · rw [if_neg (not_not_intro ((pq_has (m 30) (by omega)).mpr k2))]
          by_cases k3 : m j = nI c
          · rw [if_pos k3, if_neg (fun k => ((hsb j hj).mp k).2.2 k3)]
          · rw [if_neg k3, if_pos ((hsb j hj).mpr ⟨k1, k2, k3⟩)]
            rfl
        · rw [if_pos (fun k => k2 ((pq_has (m 30) (by omega)).mp k)), if_neg (fun k => k2 ((hsb j hj).mp k).2.1)]
      · rw [if_pos (fun k => k1 ((pq_has h (by omega)).mp k)), if_neg (fun k => k1 ((hsb j hj).mp k).1), if_neg k1]
    have mo : ∀ j, 16 ≤ j → j ≠ 30 → j ≠ 24 + c → pf_spm m h (nI c) (24 + c) j = m j := by
      intro j h1 h2 h3
      unfold pf_spm
      rw [pu_ne h3, pu_ne h2]
      unfold pf_upto
      rw [if_neg (by omega)]
    have m30 : pf_spm m h (nI c) (24 + c) 30 = m 30 ||| h := by
      unfold pf_spm
      rw [pu_ne (by omega), pu_eq]
    have mcn : pf_spm m h (nI c) (24 + c) (24 + c) = m (24 + c) - pf_bits h 16 := by
      unfold pf_spm
      rw [pu_eq]
    have r9 : ph_spT0 (nI c) h (pf_bits h 16) sp hi 9 = upd (hi 9) c (m (24 + c) - pf_bits h 16) := by
      have : ph_spT0 (nI c) h (pf_bits h 16) sp hi 9 = upd (hi 9) (nI c).toNatClampNeg (if nI c < 1 then hi 9 (nI c).toNatClampNeg else (if 5 < nI c then hi 9 (nI c).toNatClampNeg else pf_sc_dropsOfT (nI c) (hi 9) - pf_bits h 16)) := rfl
      rw [this, ed, if_neg (show ¬ nI c < 1 from nI_nlt (b := 1) (by omega) (by omega)), if_neg (show ¬ 5 < nI c from nI_nlt (a := 5) (b := c) (by omega) (by omega)), pt_clamp (by omega)]
    have r7 : ph_spT0 (nI c) h (pf_bits h 16) sp hi 7 = pf_pntR (pf_pntR (hi 7) h (nI c)) sp (nI 6) := rfl
    have w3 : ph_spT0 (nI c) h (pf_bits h 16) sp hi 6 3 = hi 6 3 ||| h := rfl
    have w9 : ph_spT0 (nI c) h (pf_bits h 16) sp hi 6 9 = sp &&& (pf_sc_cellsOfT (nI 6) (hi 7) ^^^ (-1)) := rfl
    refine ⟨rfl, ⟨?_, ?_⟩, ?_, ⟨fun k h6 h7 _ h9 => ?_, rfl, rfl, rfl⟩, fun _ h0 => ?_, 0, by omega, rfl⟩
    · show pr_T (ph_spT0 (nI c) h (pf_bits h 16) sp hi 7) (hi 8) (ph_spT0 (nI c) h (pf_bits h 16) sp hi 9) (ph_spT0 (nI c) h (pf_bits h 16) sp hi 6 3) (hi 6 4) (pf_spm m h (nI c) (24 + c))
      rw [r9, r7, w3]
      obtain ⟨h1, h2, h3, h4, h5⟩ := T
      refine ⟨fun k hk => ?_, fun j hj => ?_, fun d h6 h7 => ?_, ?_, ?_⟩
      · exact pr_paint hs16 (by omega) (fun k hk => pr_paint (m' := fun j => if bt h j = true then nI c else m j) h16 (by omega) h1 (fun j hj => rfl) k hk) mc2 k hk
      · rw [mo _ (by omega) (by omega) (by omega)]; exact h2 j hj
      · by_cases e : d = c
        · subst e; rw [pu_eq, mcn]
        · rw [pu_ne e, mo _ (by omega) (by omega) (by omega)]; exact h3 d h6 h7
      · rw [m30, h4]
      · rw [mo _ (by omega) (by omega) (by omega)]; exact h5
    · show hi 6 8 + pf_bits h 16 = s + pf_bits h 16
      rw [S]
    · show pr_M (pf_spm m h (nI c) (24 + c))
      obtain ⟨h1, h2, h3, h4, h5⟩ := M
      refine ⟨fun j hj => ?_, fun j hj => ?_, fun d h6 h7 => ?_, ?_, ?_⟩
      · rw [mc2 j hj]
        split
        · exact ⟨6, by omega, rfl⟩
        · split
          · exact ⟨c, by omega, rfl⟩
          · exact h1 j hj
      · rw [mo _ (by omega) (by omega) (by omega)]; exact h2 j hj
      · by_cases e : d = c
        · subst e; rw [mcn, esub]; exact ⟨_, by omega, rfl⟩
        · rw [mo _ (by omega) (by omega) (by omega)]; exact h3 d h6 h7
      · rw [m30]; exact pq_16o (pq_16or W h16)
      · rw [mo _ (by omega) (by omega) (by omega)]; exact h5
    · simp [ph_spT0, ph_sc_fillT, ph_sc_wettenT, pj_up, pj_row, h6, h7, h9]
    · rw [w9, pf_celT (by omega), T.1 6 (by omega)]
      show sp &&& (pf_ones m 6 16 ^^^ (-1)) = pf_ones (pf_spm m h (nI c) (24 + c)) 6 16 &&& (pf_ones m 6 16 ^^^ (-1))
      refine pq_ext16 (pq_16and hs16 _) (pq_16and (pq_ones16 _ _) _) (fun j hj => ?_)
      rw [b_and, b_and, Bool.and_eq_true, Bool.and_eq_true]
      have o1 := pq_onesb (pf_spm m h (nI c) (24 + c)) 6 hj
      have o2 := pq_onesb m 6 hj
      rw [mc2 j hj] at o1
      rw [pq_not _ (by omega)]
      constructor
      · rintro ⟨k1, k2⟩
        refine ⟨?_, k2⟩
        rw [if_pos k1] at o1
        exact o1.mpr rfl
      · rintro ⟨k1, k2⟩
        refine ⟨?_, k2⟩
        have k3 := o1.mp k1
        by_cases k4 : bt sp j = true
        · exact k4
        · rw [if_neg k4] at k3
          by_cases k5 : bt h j = true
          · rw [if_pos k5] at k3
            exact absurd ((nI_eq (a := c) (b := 6) (by omega) (by omega)).mp k3) (by omega)
          · rw [if_neg k5] at k3
            rw [o2.mpr k3] at k2
            cases k2
