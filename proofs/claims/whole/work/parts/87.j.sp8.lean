/-! ===== contracts: the greatest box of some places of a row ===== -/
def pf_gbx (p : Int32) (k : Nat) (x : Int32) : Int32 := x ||| (p <<< ((4 * nI k) &&& 31))
def pf_gbi (f : Nat → Int32) (p : Int32) : Nat → Nat → Int32 → Int32 → Int32
  | 0, _, b, _ => b
  | n + 1, k, b, x => pf_gbi f p n (k + 1) (if ¬ (pf_onb f (pf_gbx p k x) 6 1 = true) then b else pf_sh_greater b (pf_gbx p k x)) (pf_gbx p k x)
def pf_gbt (f : Nat → Int32) (p : Int32) : Nat → Nat → Int32 → Int32
  | 0, _, b => b
  | n + 1, t, b => pf_gbt f p n (t + 1) (pf_gbi f p (n + 1) t b 0)
def pf_gbo (f : Nat → Int32) (p : Int32) : Int32 := pf_gbt f p 4 0 0
theorem ss_gbo (p : Int32) (L : Nat) (hi : Nat → Nat → Int32) (hl : Nat → Nat → Int64) : pe_C pj_m55 [.int p, .ref 2] (pj_SH L, hi, hl) (some (.int (pf_gbo (hi 3) p))) (pj_SH L, hi, hl) := by
  refine pb_sh_greatestBoxOf_0.mpr ?_
  have inn : ∀ (o : Option Value × pj_H) (x3 : Int32) (n k : Nat) (b x : Int32), k + n = 4 → (∀ y4 y5, pe_E pj_m55 54 [some (.int p), some (.ref 2), some (.int (pf_gbi (hi 3) p n k b x)), some (.int x3), some (.int y4), some (.int y5)] [] (pj_SH L, hi, hl) o) → pe_E pj_m55 15 [some (.int p), some (.ref 2), some (.int b), some (.int x3), some (.int x), some (.int (nI k))] [] (pj_SH L, hi, hl) o := by
    intro o x3 n
    induction n with
    | zero =>
      intro k b x hk K
      rw [show k = 4 by omega]
      exact (pb_sh_greatestBoxOf_15.trans (if_pos (Int32.le_refl _))).mpr (K _ _)
    | succ n ih =>
      intro k b x hk K
      refine (pb_sh_greatestBoxOf_15.trans (if_neg (show ¬ (4 : Int32) ≤ nI k from nI_ge (b := 4) (by omega) (by omega)))).mpr ?_
      rw [nI_1]
      exact ih (k + 1) _ _ (by omega) K
  have out : ∀ (n t : Nat) (b : Int32) (a4 a5 : Option Value), t + n = 4 → pe_E pj_m55 4 [some (.int p), some (.ref 2), some (.int b), some (.int (nI t)), a4, a5] [] (pj_SH L, hi, hl) (some (.int (pf_gbt (hi 3) p n t b)), (pj_SH L, hi, hl)) := by
    intro n
    induction n with
    | zero =>
      intro t b a4 a5 ht
      rw [show t = 4 by omega]
      exact (pb_sh_greatestBoxOf_4.trans ((if_pos (Int32.le_refl _)).trans pb_sh_greatestBoxOf_60)).mpr rfl
    | succ n ih =>
      intro t b a4 a5 ht
      refine (pb_sh_greatestBoxOf_4.trans (if_neg (show ¬ (4 : Int32) ≤ nI t from nI_ge (b := 4) (by omega) (by omega)))).mpr ?_
      refine inn _ _ (n + 1) t b 0 (by omega) (fun y4 y5 => pb_sh_greatestBoxOf_54.mpr ?_)
      rw [nI_1]
      exact ih (t + 1) _ _ _ (by omega)
  exact out 4 0 0 none none rfl
