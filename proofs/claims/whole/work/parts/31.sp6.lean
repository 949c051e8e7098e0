/-! ===== contracts: what to ask about next ===== -/
def pf_bta (r27 r29 : Nat → Int32) : Nat → Int32
  | 0 => 0
  | k + 1 => if (pf_lam (pf_bta r27 r29 k) r27 r29) ≤ (pf_lam (nI (k + 1)) r27 r29) then pf_bta r27 r29 k else nI (k + 1)
theorem ss_bta (L : Nat) (hi : Nat → Nat → Int32) (hl : Nat → Nat → Int64) : pe_C pj_m12 [.ref 27] (pj_SH L, hi, hl) (some (.int (pf_bta (hi 27) (hi 29) 15))) (pj_SH L, hi, hl) := by
  refine pb_fi_bestToAsk_0.mpr ?_
  have g : ∀ (n k : Nat), k + n = 15 → pe_E pj_m12 4 [some (.ref 27), some (.int (pf_bta (hi 27) (hi 29) k)), some (.int (nI (k + 1)))] [] (pj_SH L, hi, hl) (some (.int (pf_bta (hi 27) (hi 29) 15)), (pj_SH L, hi, hl)) := by
    intro n
    induction n with
    | zero =>
      intro k hk
      rw [show k = 15 by omega]
      exact (pb_fi_bestToAsk_4.trans ((if_pos (show (16 : Int32) ≤ nI 16 from Int32.le_refl _)).trans pb_fi_bestToAsk_31)).mpr rfl
    | succ n ih =>
      intro k hk
      refine (pb_fi_bestToAsk_4.trans (if_neg (show ¬ (16 : Int32) ≤ nI (k + 1) from nI_ge (b := 16) (by omega) (by omega)))).mpr ?_
      rw [nI_1]
      exact ih (k + 1) (by omega)
  exact g 15 0 rfl
