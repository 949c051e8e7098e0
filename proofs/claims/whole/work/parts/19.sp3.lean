/-! ===== contracts: spraying, the pad's first wrong sign, the model's copies ===== -/
/-- the cells of a colour, as bits, out of the model's numbers -/
def pf_ones (m : Nat → Int32) (x : Int32) : Nat → Int32
  | 0 => 0
  | c + 1 => pf_ones m x c ||| (if ¬ (m c) = x then (0 : Int32) else (1 <<< (nI c &&& 31)))

def pf_spT (x1 x2 x3 : Int32) (r8 r9 : Nat → Int32) : Int32 := if ¬ pf_bc (pf_qs (pf_sc_holesOfT x1 r8) x2) = 0 then (if pf_bc (pf_qs (pf_sc_holesOfT x1 r8) x2) ≤ pf_sc_dropsOfT x3 r9 then 0 else 2) else 1
/-- what a spraying that can be leaves: u under the holes, n drops, s spoilt -/
def ph_spT0 (x3 u n s : Int32) (hi : Nat → Nat → Int32) : Nat → Nat → Int32 := (pj_up (ph_sc_fillT x3 ((pf_sc_dropsOfT x3 (hi 9)) - n) (ph_sc_wettenT u 1 (pj_row (pj_row (pj_up hi 6 9 (s &&& ((pf_sc_cellsOfT 6 (hi 7)) ^^^ (-1)))) 7 (pf_pntR (hi 7) u x3)) 7 (pf_pntR ((pj_row (pj_up hi 6 9 (s &&& ((pf_sc_cellsOfT 6 (hi 7)) ^^^ (-1)))) 7 (pf_pntR (hi 7) u x3)) 7) s 6)))) 6 8 (((ph_sc_wettenT u 1 (pj_row (pj_row (pj_up hi 6 9 (s &&& ((pf_sc_cellsOfT 6 (hi 7)) ^^^ (-1)))) 7 (pf_pntR (hi 7) u x3)) 7 (pf_pntR ((pj_row (pj_up hi 6 9 (s &&& ((pf_sc_cellsOfT 6 (hi 7)) ^^^ (-1)))) 7 (pf_pntR (hi 7) u x3)) 7) s 6))) 6 8) + n))
def ph_spT (x1 x2 x3 : Int32) (hi : Nat → Nat → Int32) : Nat → Nat → Int32 := if ¬ pf_bc (pf_qs (pf_sc_holesOfT x1 (hi 8)) x2) = 0 then (if pf_bc (pf_qs (pf_sc_holesOfT x1 (hi 8)) x2) ≤ pf_sc_dropsOfT x3 (hi 9) then ph_spT0 x3 (pf_qs (pf_sc_holesOfT x1 (hi 8)) x2) (pf_bc (pf_qs (pf_sc_holesOfT x1 (hi 8)) x2)) ((pf_qs (pf_sc_holesOfT x1 (hi 8)) x2 &&& (hi 6 3)) &&& ((pf_sc_cellsOfT x3 (hi 7)) ^^^ (-1))) hi else hi) else hi
theorem ss_spT (x1 x2 x3 : Int32) (L : Nat) (hi : Nat → Nat → Int32) (hl : Nat → Nat → Int64) : pe_C pj_m47 [.ref 6, .int x1, .int x2, .int x3] (pj_SH L, hi, hl) (some (.int (pf_spT x1 x2 x3 (hi 8) (hi 9)))) (pj_SH L, ph_spT x1 x2 x3 hi, hl) := by
  refine (pb_sc_sprayT_0.trans pb_sc_sprayT_18).mpr ?_
  unfold pf_spT ph_spT
  by_cases h1 : ¬ pf_bc (pf_qs (pf_sc_holesOfT x1 (hi 8)) x2) = 0
  · rw [if_pos h1, if_pos h1, if_pos h1]
    by_cases h2 : pf_bc (pf_qs (pf_sc_holesOfT x1 (hi 8)) x2) ≤ pf_sc_dropsOfT x3 (hi 9)
    · rw [if_pos h2, if_pos h2, if_pos h2]
      exact pb_sc_sprayT_54.mpr rfl
    · rw [if_neg h2, if_neg h2, if_neg h2]
  · rw [if_neg h1, if_neg h1, if_neg h1]
/-! the pad -/
def pf_fwr (r18 r19 : Nat → Int32) : Nat → Nat → Int32 → Int32
  | 0, _, r => if ¬ r = 0 then r18 1 else (-6)
  | n + 1, k, r => if ¬ (pf_pa_readingAfter r (pf_pa_signAt (nI k) r18 r19)) = 4 then pf_fwr r18 r19 n (k + 1) (pf_pa_readingAfter r (pf_pa_signAt (nI k) r18 r19)) else nI k
def pf_fw (r18 r19 : Nat → Int32) : Int32 := pf_fwr r18 r19 (r18 1).toInt.toNat 0 0
theorem ss_fw (L : Nat) (hi : Nat → Nat → Int32) (hl : Nat → Nat → Int64) : pe_C pj_m27 [.ref 18] (pj_SH L, hi, hl) (some (.int (pf_fw (hi 18) (hi 19)))) (pj_SH L, hi, hl) := by
  refine pb_pa_firstWrong_0.mpr ?_
  have hr := pt_rng (hi 18 1)
  have g : ∀ (n k : Nat) (r : Int32), k + n = (hi 18 1).toInt.toNat → pe_E pj_m27 4 [some (.ref 18), some (.int r), some (.int (nI k))] [] (pj_SH L, hi, hl) (some (.int (pf_fwr (hi 18) (hi 19) n k r)), (pj_SH L, hi, hl)) := by
    intro n
    induction n with
    | zero =>
      intro k r hk
      refine ((pb_pa_firstWrong_4 (fun h1 h2 h3 h4 => pt_ixE h2 h4 (by decide) (by decide))).trans (if_pos ?_)).mpr rfl
      rw [pt_le, pt_nI (by omega)]
      omega
    | succ n ih =>
      intro k r hk
      refine ((pb_pa_firstWrong_4 (fun h1 h2 h3 h4 => pt_ixE h2 h4 (by decide) (by decide))).trans (if_neg ?_)).mpr ?_
      · rw [pt_le, pt_nI (by omega)]
        omega
      · unfold pf_fwr
        by_cases h : ¬ (pf_pa_readingAfter r (pf_pa_signAt (nI k) (hi 18) (hi 19))) = 4
        · rw [if_pos h, if_pos h, nI_1]
          exact ih (k + 1) _ (by omega)
        · rw [if_neg h, if_neg h]
  exact g _ 0 0 (by omega)
def pf_mfr (n4 : Int32) (r36 : Nat → Int32) : Nat → Nat → Int32 → Int32
  | 0, _, r => if ¬ r = 0 then n4 else (-6)
  | n + 1, k, r => if 0 ≤ (pf_mo_step r (r36 k)) then pf_mfr n4 r36 n (k + 1) (pf_mo_step r (r36 k)) else nI k
theorem ss_mf {n : Nat} (hn : n ≤ 60) (L : Nat) (hi : Nat → Nat → Int32) (hl : Nat → Nat → Int64) (h4 : hi 32 4 = nI n) : pe_C pj_m113 [.ref 32] (pj_SH L, hi, hl) (some (.int (pf_mfr (nI n) (hi 36) n 0 0))) (pj_SH L, hi, hl) := by
  refine pb_mo_faultOf_0.mpr ?_
  have g : ∀ (m k : Nat) (r : Int32), k + m = n → pe_E pj_m113 4 [some (.ref 32), some (.int r), some (.int (nI k))] [] (pj_SH L, hi, hl) (some (.int (pf_mfr (nI n) (hi 36) m k r)), (pj_SH L, hi, hl)) := by
    intro m
    induction m with
    | zero =>
      intro k r hk
      have hle : hi 32 4 ≤ nI k := by rw [h4, show k = n by omega]; exact Int32.le_refl _
      refine ((pb_mo_faultOf_4 (fun h1 => absurd hle h1)).trans (if_pos hle)).mpr ?_
      rw [h4]
      rfl
    | succ m ih =>
      intro k r hk
      refine ((pb_mo_faultOf_4 (fun h1 => pt_ixN (by omega) (by omega))).trans (if_neg ?_)).mpr ?_
      · rw [h4]
        exact nI_ge (by omega) (by omega)
      · rw [pt_clamp (by omega)]
        unfold pf_mfr
        by_cases h : 0 ≤ (pf_mo_step r (hi 36 k))
        · rw [if_pos h, if_pos h, nI_1]
          exact ih (k + 1) _ (by omega)
        · rw [if_neg h, if_neg h]
  exact g n 0 0 (by omega)
/-! the model's copy, its cells of a colour, its spraying -/
def ph_asN (hi : Nat → Nat → Int32) : Nat → Nat → Int32 := pj_up (pj_up (pj_up (pj_row hi 34 (pf_upto (hi 34) (hi 33) 32)) 32 6 0) 32 7 (-6)) 32 8 (-6)
theorem ss_asN (L : Nat) (hi : Nat → Nat → Int32) (hl : Nat → Nat → Int64) : pe_C pj_m119 [.ref 32] (pj_SH L, hi, hl) none (pj_SH L, ph_asN hi, hl) := by
  refine pb_mo_asNow_0.mpr ?_
  have g : ∀ (n k : Nat), k + n = 32 → pe_E pj_m119 2 [some (.ref 32), some (.int (nI k))] [] (pj_SH L, pj_row hi 34 (pf_upto (hi 34) (hi 33) k), hl) (none, (pj_SH L, ph_asN hi, hl)) := by
    intro n
    induction n with
    | zero =>
      intro k hk
      rw [show k = 32 by omega]
      exact ((pb_mo_asNow_2 (fun h => absurd (Int32.le_refl _) h)).trans ((if_pos (Int32.le_refl _)).trans pb_mo_asNow_26)).mpr rfl
    | succ n ih =>
      intro k hk
      refine ((pb_mo_asNow_2 (fun _ => pt_ixN (by omega) (by omega))).trans (if_neg (nI_ge (show k < 32 by omega) (by omega)))).mpr ?_
      rw [pt_clamp (by omega), nI_1, pj_up_row2]
      have e : pj_row hi 34 (pf_upto (hi 34) (hi 33) k) 33 k = hi 33 k := rfl
      rw [e, pf_upto_s]
      exact ih (k + 1) (by omega)
  have := g 32 0 rfl
  rw [pf_upto_0, pj_row_self] at this
  exact this
theorem ss_ones (x : Int32) (L : Nat) (hi : Nat → Nat → Int32) (hl : Nat → Nat → Int64) : pe_C pj_m120 [.ref 32, .int x] (pj_SH L, hi, hl) (some (.int (pf_ones (hi 34) x 16))) (pj_SH L, hi, hl) := by
  refine pb_mo_ones_0.mpr ?_
  refine (pe_rep (P := fun k => pe_E pj_m120 4 [some (.ref 32), some (.int x), some (.int (pf_ones (hi 34) x k)), some (.int (nI k))] [] (pj_SH L, hi, hl) _) 16 (fun k hk => ?_)).mpr ?_
  · refine (pb_mo_ones_4 (fun _ => pt_ixN (by omega) (by omega))).trans ((if_neg (nI_ge hk (by omega))).trans ?_)
    rw [nI_1, pt_clamp (by omega)]
    rfl
  · exact ((pb_mo_ones_4 (fun h => absurd (Int32.le_refl _) h)).trans ((if_pos (Int32.le_refl _)).trans pb_mo_ones_36)).mpr rfl
/-- one cell under a hole -/
def pf_spc1 (m30 : Int32) (m : Nat → Int32) (h x : Int32) (c : Nat) : Int32 := if ¬ (pf_has h (nI c)) then m c else (if ¬ (pf_has m30 (nI c)) then x else (if m c = x then x else (6 : Int32)))
def pf_spm (m : Nat → Int32) (h x : Int32) (y : Nat) : Nat → Int32 := upd (upd (pf_upto m (pf_spc1 (m 30) m h x) 16) 30 (m 30 ||| h)) y (m y - pf_bits h 16)
theorem ss_mspr {i c : Nat} (hi8 : i < 8) (hc1 : 1 ≤ c) (hc6 : c < 6) (q : Int32) (L : Nat) (hi : Nat → Nat → Int32) (hl : Nat → Nat → Int64) : pe_C pj_m121 [.ref 32, .int (nI i), .int q, .int (nI c)] (pj_SH L, hi, hl) (some (.int (if ¬ (pf_mqs (hi 34 (16 + i)) q) = 0 then (if (pf_bits (pf_mqs (hi 34 (16 + i)) q) 16) ≤ (hi 34 (24 + c)) then 0 else 2) else 1))) (pj_SH L, (if ¬ (pf_mqs (hi 34 (16 + i)) q) = 0 then (if (pf_bits (pf_mqs (hi 34 (16 + i)) q) 16) ≤ (hi 34 (24 + c)) then (pj_up (pj_row hi 34 (pf_spm (hi 34) (pf_mqs (hi 34 (16 + i)) q) (nI c) (24 + c))) 32 6 (hi 32 6 + pf_bits (pf_mqs (hi 34 (16 + i)) q) 16)) else hi) else hi), hl) := by
  have a16 : (16 : Int32) + nI i = nI (16 + i) := nI_add 16 i
  have a24 : (24 : Int32) + nI c = nI (24 + c) := nI_add 24 c
  refine (pb_mo_spray_0 (by rw [a16]; exact pt_ixN (by omega) (by omega)) (fun _ => by rw [a24]; exact pt_ixN (by omega) (by omega))).mpr ?_
  rw [a16, a24, pt_clamp (by omega), pt_clamp (by omega)]
  by_cases h1 : ¬ (pf_mqs (hi 34 (16 + i)) q) = 0
  · rw [if_pos h1, if_pos h1, if_pos h1]
    by_cases h2 : (pf_bits (pf_mqs (hi 34 (16 + i)) q) 16) ≤ (hi 34 (24 + c))
    · rw [if_pos h2, if_pos h2, if_pos h2]
      generalize pf_mqs (hi 34 (16 + i)) q = h
      have g : ∀ (n k : Nat), k + n = 16 → pe_E pj_m121 44 [some (.ref 32), some (.int (nI i)), some (.int q), some (.int (nI c)), some (.int h), some (.int (nI k))] [] (pj_SH L, pj_row hi 34 (pf_upto (hi 34) (pf_spc1 (hi 34 30) (hi 34) h (nI c)) k), hl) (some (.int 0), (pj_SH L, (pj_up (pj_row hi 34 (pf_spm (hi 34) h (nI c) (24 + c))) 32 6 (hi 32 6 + pf_bits h 16)), hl)) := by
        intro n
        induction n with
        | zero =>
          intro k hk
          rw [show k = 16 by omega]
          refine ((pb_mo_spray_44 (fun h => absurd (Int32.le_refl _) h) (fun h => absurd (Int32.le_refl _) h)).trans ((if_pos (Int32.le_refl _)).trans (pb_mo_spray_106 (by rw [a24]; exact pt_ixN (by omega) (by omega))))).mpr ?_
          rw [a24, pt_clamp (by omega), pj_up_row2, pj_up_row2]
          have e30 : pj_row hi 34 (pf_upto (hi 34) (pf_spc1 (hi 34 30) (hi 34) h (nI c)) 16) 34 30 = hi 34 30 := by
            rw [pj_row_at]; unfold pf_upto; rw [if_neg (by omega)]
          have e24 : pj_row hi 34 (upd (pf_upto (hi 34) (pf_spc1 (hi 34 30) (hi 34) h (nI c)) 16) 30 (hi 34 30 ||| h)) 34 (24 + c) = hi 34 (24 + c) := by
            simp only [pj_row_at, upd, pf_upto]
            rw [if_neg (by omega), if_neg (by omega)]
          rw [e30, e24]
          rfl
        | succ n ih =>
          intro k hk
          refine ((pb_mo_spray_44 (fun _ _ _ => pt_ixN (by omega) (by omega)) (fun _ _ => pt_ixN (by omega) (by omega))).trans (if_neg (nI_ge (show k < 16 by omega) (by omega)))).mpr ?_
          rw [pt_clamp (by omega), nI_1, pj_up_row2]
          have e30 : pj_row hi 34 (pf_upto (hi 34) (pf_spc1 (hi 34 30) (hi 34) h (nI c)) k) 34 30 = hi 34 30 := by
            rw [pj_row_at]; unfold pf_upto; rw [if_neg (by omega)]
          have ek : pj_row hi 34 (pf_upto (hi 34) (pf_spc1 (hi 34 30) (hi 34) h (nI c)) k) 34 k = hi 34 k := by
            rw [pj_row_at]; unfold pf_upto; rw [if_neg (by omega)]
          rw [e30, ek]
          have e2 := pf_upto_s (hi 34) (pf_spc1 (hi 34 30) (hi 34) h (nI c)) k
          rw [show pf_spc1 (hi 34 30) (hi 34) h (nI c) k = (if ¬ (pf_has h (nI k)) then hi 34 k else (if ¬ (pf_has (hi 34 30) (nI k)) then nI c else (if hi 34 k = nI c then nI c else (6 : Int32)))) from rfl] at e2
          rw [e2]
          exact ih (k + 1) (by omega)
      have := g 16 0 rfl
      rw [pf_upto_0, pj_row_self] at this
      exact this
    · rw [if_neg h2, if_neg h2, if_neg h2]
  · rw [if_neg h1, if_neg h1, if_neg h1]
