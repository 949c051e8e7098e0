/-! ===== contracts: of one colour, the greatest patch ===== -/
def pf_onb (f : Nat → Int32) (x : Int32) : Nat → Nat → Bool
  | 0, _ => false
  | n + 1, k => if ¬ (x &&& ((pf_sc_cellsOfN (nI k) f) ^^^ (-1))) = 0 then pf_onb f x n (k + 1) else true
theorem ss_onb (x : Int32) (L : Nat) (hi : Nat → Nat → Int32) (hl : Nat → Nat → Int64) : pe_C pj_m56 [.int x, .ref 2] (pj_SH L, hi, hl) (some (.int (pz (pf_onb (hi 3) x 6 1 = true)))) (pj_SH L, hi, hl) := by
  refine pb_sh_isOfOneColour_0.mpr ?_
  have g : ∀ (n k : Nat), k + n = 7 → pe_E pj_m56 2 [some (.int x), some (.ref 2), some (.int (nI k))] [] (pj_SH L, hi, hl) (some (.int (pz (pf_onb (hi 3) x n k = true))), (pj_SH L, hi, hl)) := by
    intro n
    induction n with
    | zero =>
      intro k hk
      rw [show k = 7 by omega]
      exact (pb_sh_isOfOneColour_2.trans (if_pos (by decide))).mpr rfl
    | succ n ih =>
      intro k hk
      refine (pb_sh_isOfOneColour_2.trans (if_neg (show ¬ (6 : Int32) < nI k from nI_nlt (a := 6) (by omega) (by omega)))).mpr ?_
      unfold pf_onb
      by_cases h : ¬ (x &&& ((pf_sc_cellsOfN (nI k) (hi 3)) ^^^ (-1))) = 0
      · rw [if_pos h, nI_1]
        simp only [if_pos h]
        exact ih (k + 1) (by omega)
      · rw [if_neg h]
        simp only [if_neg h]
        rfl
  exact g 6 1 rfl
def pf_gpi : Nat → Int32 → Int32 → Int32
  | 0, b, _ => b
  | n + 1, b, r => if r = 0 then b else pf_gpi n (pf_sh_greater b (pf_pf r 16 (r &&& (-r)))) (r &&& ((pf_pf r 16 (r &&& (-r))) ^^^ (-1)))
def pf_gpo (f : Nat → Int32) : Nat → Nat → Int32 → Int32
  | 0, _, b => b
  | n + 1, k, b => pf_gpo f n (k + 1) (pf_gpi 16 b (pf_sc_cellsOfN (nI k) f))
theorem ss_gp (L : Nat) (hi : Nat → Nat → Int32) (hl : Nat → Nat → Int64) : pe_C pj_m51 [.ref 2] (pj_SH L, hi, hl) (some (.int (pf_gpo (hi 3) 6 1 0))) (pj_SH L, hi, hl) := by
  refine pb_sh_greatestPatch_0.mpr ?_
  have inn : ∀ (o : Option Value × pj_H) (x2 : Int32) (n k : Nat) (b r : Int32) (a5 : Option Value), k + n = 16 → (∀ y3 y4 a5, pe_E pj_m51 60 [some (.ref 2), some (.int (pf_gpi n b r)), some (.int x2), some (.int y3), some (.int y4), a5] [] (pj_SH L, hi, hl) o) → pe_E pj_m51 19 [some (.ref 2), some (.int b), some (.int x2), some (.int r), some (.int (nI k)), a5] [] (pj_SH L, hi, hl) o := by
    intro o x2 n
    induction n with
    | zero =>
      intro k b r a5 hk K
      rw [show k = 16 by omega]
      exact (pb_sh_greatestPatch_19.trans (if_pos (Int32.le_refl _))).mpr (K _ _ _)
    | succ n ih =>
      intro k b r a5 hk K
      refine (pb_sh_greatestPatch_19.trans (if_neg (show ¬ (16 : Int32) ≤ nI k from nI_ge (b := 16) (by omega) (by omega)))).mpr ?_
      unfold pf_gpi at K
      by_cases h : r = 0
      · rw [if_pos h]
        simp only [if_pos h] at K
        exact K _ _ _
      · rw [if_neg h, nI_1]
        simp only [if_neg h] at K
        exact ih (k + 1) _ _ _ (by omega) K
  have out : ∀ (n k : Nat) (b : Int32) (a3 a4 a5 : Option Value), k + n = 7 → pe_E pj_m51 4 [some (.ref 2), some (.int b), some (.int (nI k)), a3, a4, a5] [] (pj_SH L, hi, hl) (some (.int (pf_gpo (hi 3) n k b)), (pj_SH L, hi, hl)) := by
    intro n
    induction n with
    | zero =>
      intro k b a3 a4 a5 hk
      rw [show k = 7 by omega]
      exact (pb_sh_greatestPatch_4.trans ((if_pos (show (6 : Int32) < nI 7 by decide)).trans pb_sh_greatestPatch_66)).mpr rfl
    | succ n ih =>
      intro k b a3 a4 a5 hk
      refine (pb_sh_greatestPatch_4.trans (if_neg (show ¬ (6 : Int32) < nI k from nI_nlt (a := 6) (by omega) (by omega)))).mpr ?_
      refine inn _ _ 16 0 b _ _ rfl (fun y3 y4 a5 => pb_sh_greatestPatch_60.mpr ?_)
      rw [nI_1]
      exact ih (k + 1) _ _ _ _ (by omega)
  exact out 6 1 0 none none none rfl
