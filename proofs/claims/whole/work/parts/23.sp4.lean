/-! ===== contracts: an evening, a year ===== -/
def ph_evs (x4 x5 : Int32) (hi : Nat → Nat → Int32) : Nat → Nat → Int32 := (pj_up (pj_up (pj_up (ph_pa_actAt x4 hi) 20 3 (if ¬ ((ph_pa_actAt x4 hi) 20 3) = (-6) then ((ph_pa_actAt x4 hi) 20 3) else (if ((ph_pa_actAt x4 hi) 6 9) = 0 then ((ph_pa_actAt x4 hi) 20 3) else x5))) 20 4 (if ¬ ((ph_pa_actAt x4 hi) 20 3) = (-6) then ((pj_up (ph_pa_actAt x4 hi) 20 3 (if ¬ ((ph_pa_actAt x4 hi) 20 3) = (-6) then ((ph_pa_actAt x4 hi) 20 3) else (if ((ph_pa_actAt x4 hi) 6 9) = 0 then ((ph_pa_actAt x4 hi) 20 3) else x5))) 20 4) else (if ((ph_pa_actAt x4 hi) 6 9) = 0 then ((pj_up (ph_pa_actAt x4 hi) 20 3 (if ((ph_pa_actAt x4 hi) 6 9) = 0 then ((ph_pa_actAt x4 hi) 20 3) else x5)) 20 4) else (pf_ntz ((ph_pa_actAt x4 hi) 6 9))))) 20 0 (((ph_pa_actAt x4 hi) 20 0) + 1))
def ph_evl : Nat → Int32 → Int32 → (Nat → Nat → Int32) → (Nat → Nat → Int32)
  | 0, _, _, hi => hi
  | n + 1, x4, x5, hi => if (pf_pa_length (hi 18)) ≤ x4 then hi else (if (pf_pa_actAt x4 (hi 6) (hi 7) (hi 8) (hi 9) (hi 18) (hi 19)) = 0 then ph_evl n (x4 + (pf_pa_lengthOfAct x4 ((ph_pa_actAt x4 hi) 18) ((ph_pa_actAt x4 hi) 19))) (x5 + 1) (ph_evs x4 x5 hi) else (pj_up (pj_up (ph_pa_actAt x4 hi) 20 1 x5) 20 2 (pf_pa_actAt x4 (hi 6) (hi 7) (hi 8) (hi 9) (hi 18) (hi 19))))
def ph_evp (hi : Nat → Nat → Int32) : Nat → Nat → Int32 := ph_evl 60 0 0 (ph_sc_copyFrom6x2 (ph_ev_begin hi))
theorem ss_evp (L : Nat) (hi : Nat → Nat → Int32) (hl : Nat → Nat → Int64) : pe_C pj_m1 [.ref 20, .ref 18, .ref 2, .ref 6] (pj_SH L, hi, hl) none (pj_SH L, ph_evp hi, hl) := by
  refine pb_ev_play_0.mpr ?_
  have g : ∀ (n k : Nat) (x4 : Int32) (a6 : Option Value) (hi : Nat → Nat → Int32), k + n = 60 → pe_E pj_m1 15 [some (.ref 20), some (.ref 18), some (.ref 2), some (.ref 6), some (.int x4), some (.int (nI k)), a6] [] (pj_SH L, hi, hl) (none, (pj_SH L, ph_evl n x4 (nI k) hi, hl)) := by
    intro n
    induction n with
    | zero =>
      intro k x4 a6 hi hk
      rw [show k = 60 by omega]
      exact (pb_ev_play_15.trans (if_pos (Int32.le_refl _))).mpr rfl
    | succ n ih =>
      intro k x4 a6 hi hk
      refine (pb_ev_play_15.trans (if_neg (show ¬ (60 : Int32) ≤ nI k from nI_ge (b := 60) (by omega) (by omega)))).mpr ?_
      unfold ph_evl
      by_cases h1 : (pf_pa_length (hi 18)) ≤ x4
      · rw [if_pos h1, if_pos h1]
      · rw [if_neg h1, if_neg h1]
        by_cases h2 : (pf_pa_actAt x4 (hi 6) (hi 7) (hi 8) (hi 9) (hi 18) (hi 19)) = 0
        · rw [if_pos h2, if_pos h2, nI_1]
          exact ih (k + 1) _ _ _ (by omega)
        · rw [if_neg h2, if_neg h2]
  exact g 60 0 0 none _ rfl
def pf_yx (x3 : Int32) : Int32 := ((75 * x3) + 74) - ((75 * x3) + 74) / 65537 * 65537
def ph_yel : Nat → Int32 → (Nat → Nat → Int32) → (Nat → Nat → Int32)
  | 0, _, hi => hi
  | n + 1, x3, hi => ph_yel n (pf_yx x3) (ph_ye_actOf (pf_yx x3 - pf_yx x3 / 8 * 8) (pf_yx x3 / 8) hi)
theorem ss_yep (x1 x2 : Int32) (L : Nat) (hi : Nat → Nat → Int32) (hl : Nat → Nat → Int64) : pe_C pj_m64 [.ref 6, .int x1, .int x2] (pj_SH L, hi, hl) none (pj_SH L, ph_yel x2.toInt.toNat x1 hi, hl) := by
  refine pb_ye_play_0.mpr ?_
  have hr := pt_rng x2
  have g : ∀ (n k : Nat) (x3 : Int32) (hi : Nat → Nat → Int32), k + n = x2.toInt.toNat → pe_E pj_m64 5 [some (.ref 6), some (.int x1), some (.int x2), some (.int x3), some (.int (nI k))] [] (pj_SH L, hi, hl) (none, (pj_SH L, ph_yel n x3 hi, hl)) := by
    intro n
    induction n with
    | zero =>
      intro k x3 hi hk
      refine (pb_ye_play_5.trans ((if_pos ?_).trans pb_ye_play_40)).mpr rfl
      rw [pt_le, pt_nI (by omega)]
      omega
    | succ n ih =>
      intro k x3 hi hk
      refine (pb_ye_play_5.trans (if_neg ?_)).mpr ?_
      · rw [pt_le, pt_nI (by omega)]
        omega
      · rw [nI_1]
        exact ih (k + 1) _ _ (by omega)
  exact g _ 0 x1 hi (by omega)
