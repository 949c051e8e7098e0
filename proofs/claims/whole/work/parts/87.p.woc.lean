/-! ===== contracts: a wall's colours in one number; the slots made free ===== -/
def pf_woc (f : Nat → Int32) : Nat → Int64
  | 0 => 0
  | n + 1 => pf_woc f n ||| ((nI (n + 1)).toInt64 * pf_sp (pf_sc_cellsOfN (nI (n + 1)) f) 16)
theorem ss_woc (L : Nat) (hi : Nat → Nat → Int32) (hl : Nat → Nat → Int64) : pe_C pj_m18 [.ref 2] (pj_SH L, hi, hl) (some (.long (pf_woc (hi 3) 6))) (pj_SH L, hi, hl) := by
  refine pb_od_wallOf_0.mpr ?_
  have g : ∀ (n k : Nat), k + n = 6 → pe_E pj_m18 4 [some (.ref 2), some (.long (pf_woc (hi 3) k)), none, some (.int (nI (k + 1)))] [] (pj_SH L, hi, hl) (some (.long (pf_woc (hi 3) 6)), (pj_SH L, hi, hl)) := by
    intro n
    induction n with
    | zero =>
      intro k hk
      rw [show k = 6 by omega]
      exact (pb_od_wallOf_4.trans ((if_pos (show (6 : Int32) < nI 7 by decide)).trans pb_od_wallOf_30)).mpr rfl
    | succ n ih =>
      intro k hk
      refine (pb_od_wallOf_4.trans (if_neg (show ¬ (6 : Int32) < nI (k + 1) from nI_nlt (a := 6) (by omega) (by omega)))).mpr ?_
      rw [nI_1]
      exact ih (k + 1) (by omega)
  exact g 6 0 rfl
theorem ss_flS (w : Int64) (L : Nat) (hi : Nat → Nat → Int32) (hl : Nat → Nat → Int64) : pe_C pj_m156 [.ref 26, .long w] (pj_SH L, hi, hl) none (pj_SH L, hi, pj_row hl 26 (pf_upto (hl 26) (fun _ => w) 512)) := by
  refine pb_ar_fillJS_0.mpr ?_
  have g : ∀ (n k : Nat), k + n = 512 → pe_E pj_m156 6 [some (.ref 26), some (.long w), none, some (.int (nI k)), some (.int 512)] [] (pj_SH L, hi, pj_row hl 26 (pf_upto (hl 26) (fun _ => w) k)) (none, (pj_SH L, hi, pj_row hl 26 (pf_upto (hl 26) (fun _ => w) 512))) := by
    intro n
    induction n with
    | zero =>
      intro k hk
      rw [show k = 512 by omega]
      exact ((pb_ar_fillJS_6 (fun h => absurd (Int32.le_refl _) h)).trans ((if_pos (Int32.le_refl _)).trans pb_ar_fillJS_22)).mpr rfl
    | succ n ih =>
      intro k hk
      refine ((pb_ar_fillJS_6 (fun _ => pt_ixN (by omega) (by omega))).trans (if_neg (show ¬ (512 : Int32) ≤ nI k from nI_ge (b := 512) (by omega) (by omega)))).mpr ?_
      rw [pt_clamp (by omega), nI_1, pj_uL_row2]
      have e : vp_updL (pf_upto (hl 26) (fun _ => w) k) k w = pf_upto (hl 26) (fun _ => w) (k + 1) := by
        funext j
        by_cases h : j = k
        · subst h; simp [vp_updL, pf_upto]
        · simp only [vp_updL, pf_upto, if_neg h]
          by_cases h2 : j < k
          · rw [if_pos h2, if_pos (by omega)]
          · rw [if_neg h2, if_neg (by omega)]
      rw [e]
      exact ih (k + 1) (by omega)
  have := g 512 0 rfl
  rw [pf_upto_0, pj_row_self] at this
  exact this
