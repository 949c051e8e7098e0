/-! ===== contracts: the greatest box ===== -/
def pf_gbp (l r : Nat) : Int32 := (1 <<< ((nI r + 1) &&& 31)) - (1 <<< (nI l &&& 31))
def pf_gbr (f : Nat → Int32) (l : Nat) : Nat → Nat → Int32 → Int32
  | 0, _, b => b
  | n + 1, r, b => pf_gbr f l n (r + 1) (pf_sh_greater b (pf_gbo f (pf_gbp l r)))
def pf_gbl (f : Nat → Int32) : Nat → Nat → Int32 → Int32
  | 0, _, b => b
  | n + 1, l, b => pf_gbl f n (l + 1) (pf_gbr f l (n + 1) l b)
def pf_gb (f : Nat → Int32) : Int32 := pf_gbl f 4 0 0
theorem ss_gb (L : Nat) (hi : Nat → Nat → Int32) (hl : Nat → Nat → Int64) : pe_C pj_m54 [.ref 2] (pj_SH L, hi, hl) (some (.int (pf_gb (hi 3)))) (pj_SH L, hi, hl) := by
  refine pb_sh_greatestBox_0.mpr ?_
  have inn : ∀ (o : Option Value × pj_H) (l : Nat) (n r : Nat) (b : Int32) (a4 : Option Value), r + n = 4 → (∀ y3 a4, pe_E pj_m54 44 [some (.ref 2), some (.int (pf_gbr (hi 3) l n r b)), some (.int (nI l)), some (.int y3), a4] [] (pj_SH L, hi, hl) o) → pe_E pj_m54 11 [some (.ref 2), some (.int b), some (.int (nI l)), some (.int (nI r)), a4] [] (pj_SH L, hi, hl) o := by
    intro o l n
    induction n with
    | zero =>
      intro r b a4 hr K
      rw [show r = 4 by omega]
      exact (pb_sh_greatestBox_11.trans (if_pos (Int32.le_refl _))).mpr (K _ _)
    | succ n ih =>
      intro r b a4 hr K
      refine (pb_sh_greatestBox_11.trans (if_neg (show ¬ (4 : Int32) ≤ nI r from nI_ge (b := 4) (by omega) (by omega)))).mpr ?_
      have := ih (r + 1) (pf_sh_greater b (pf_gbo (hi 3) (pf_gbp l r))) (some (.int (pf_gbp l r))) (by omega) K
      rw [← nI_1] at this
      exact this
  have out : ∀ (n l : Nat) (b : Int32) (a3 a4 : Option Value), l + n = 4 → pe_E pj_m54 4 [some (.ref 2), some (.int b), some (.int (nI l)), a3, a4] [] (pj_SH L, hi, hl) (some (.int (pf_gbl (hi 3) n l b)), (pj_SH L, hi, hl)) := by
    intro n
    induction n with
    | zero =>
      intro l b a3 a4 hl
      rw [show l = 4 by omega]
      exact (pb_sh_greatestBox_4.trans ((if_pos (Int32.le_refl _)).trans pb_sh_greatestBox_50)).mpr rfl
    | succ n ih =>
      intro l b a3 a4 hl
      refine (pb_sh_greatestBox_4.trans (if_neg (show ¬ (4 : Int32) ≤ nI l from nI_ge (b := 4) (by omega) (by omega)))).mpr ?_
      refine inn _ l (n + 1) l b _ (by omega) (fun y3 a4 => pb_sh_greatestBox_44.mpr ?_)
      rw [nI_1]
      exact ih (l + 1) _ _ _ (by omega)
  exact out 4 0 0 none none rfl
