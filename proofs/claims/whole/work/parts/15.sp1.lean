/-! ===== contracts over those ===== -/
def pf_qit : Nat → Int32 → Int32
  | 0, x => x
  | n + 1, x => pf_qit n (pf_q1 x)
def pf_qs (x q : Int32) : Int32 := pf_qit (min q.toInt 4).toNat x
theorem ss_qs (x q : Int32) (h : pj_H) : pe_C pj_m61 [.int x, .int q] h (some (.int (pf_qs x q))) h := by
  refine pb_tu_byQuarters_0.mpr ?_
  have g : ∀ (n k : Nat) (x2 : Int32), k ≤ 4 → (min q.toInt 4 - k).toNat = n → pe_E pj_m61 4 [some (.int x), some (.int q), some (.int x2), some (.int (nI k))] [] h (some (.int (pf_qit n x2)), h) := by
    intro n
    induction n with
    | zero =>
      intro k x2 hk hn
      refine pb_tu_byQuarters_4.mpr ?_
      by_cases h1 : q ≤ nI k
      · rw [if_pos h1]
        exact pb_tu_byQuarters_25.mpr rfl
      · rw [if_neg h1]
        rw [pt_le, pt_nI (by omega)] at h1
        rw [if_pos ((pt_le 4 _).mpr (by rw [pt_nI (by omega)]; show (4 : Int) ≤ k; omega))]
        exact pb_tu_byQuarters_25.mpr rfl
    | succ n ih =>
      intro k x2 hk hn
      have e1 : ¬ q ≤ nI k := by rw [pt_le, pt_nI (by omega)]; omega
      refine pb_tu_byQuarters_4.mpr ?_
      rw [if_neg e1, if_neg (show ¬ (4 : Int32) ≤ nI k from nI_ge (a := k) (b := 4) (by omega) (by decide)), nI_1]
      exact ih (k + 1) _ (by omega) (by omega)
  exact g _ 0 x (by omega) (by simp)
def pf_pf (c : Int32) : Nat → Int32 → Int32
  | 0, x => x
  | n + 1, x => pf_pf c n (x ||| (pf_sh_beside x &&& c))
theorem ss_pf (x c : Int32) (h : pj_H) : pe_C pj_m52 [.int x, .int c] h (some (.int (pf_pf c 16 x))) h := by
  refine pb_sh_patchFrom_0.mpr ?_
  have g : ∀ (n k : Nat) (x2 : Int32), k + n = 16 → pe_E pj_m52 4 [some (.int x), some (.int c), some (.int x2), some (.int (nI k))] [] h (some (.int (pf_pf c n x2)), h) := by
    intro n
    induction n with
    | zero =>
      intro k x2 hk
      rw [show k = 16 by omega]
      exact (pb_sh_patchFrom_4.trans ((if_pos (Int32.le_refl _)).trans pb_sh_patchFrom_25)).mpr rfl
    | succ n ih =>
      intro k x2 hk
      refine (pb_sh_patchFrom_4.trans (if_neg (nI_ge (show k < 16 by omega) (by omega)))).mpr ?_
      rw [nI_1]
      exact ih (k + 1) _ (by omega)
  exact g 16 0 x rfl
def pf_odd1 (cans step num i : Int32) : Int32 := if ¬ i = step then (if ¬ i = (step - 1) then (pf_cans i cans) else ((pf_cans i cans) + num)) else ((pf_cans i cans) - num)
def pf_odd (cans step num : Int32) : Int32 := ((0 ^^^ pf_odd1 cans step num 1) ^^^ pf_odd1 cans step num 3) ^^^ pf_odd1 cans step num 5
theorem ss_odd (c s n : Int32) (h : pj_H) : pe_C pj_m60 [.int c, .int s, .int n] h (some (.int (pf_odd c s n))) h := by
  refine pb_st_oddBits_0.mpr ?_
  refine (pb_st_oddBits_5.trans (if_neg (by decide))).mpr ?_
  refine (pb_st_oddBits_5.trans (if_neg (by decide))).mpr ?_
  refine (pb_st_oddBits_5.trans (if_neg (by decide))).mpr ?_
  exact (pb_st_oddBits_5.trans ((if_pos (by decide)).trans pb_st_oddBits_59)).mpr rfl
def pf_mq (x : Int32) : Nat → Int32
  | 0 => 0
  | k + 1 => pf_mq x k ||| (if ¬ (pf_has x (nI k)) then (0 : Int32) else (1 <<< ((((4 * (nI k - nI k / 4 * 4)) + 3) - (nI k / 4)) &&& 31)))
theorem ss_mq (x : Int32) (h : pj_H) : pe_C pj_m115 [.int x] h (some (.int (pf_mq x 16))) h := by
  refine pb_mo_quarter_0.mpr ?_
  refine (pe_rep (P := fun k => pe_E pj_m115 4 [some (.int x), some (.int (pf_mq x k)), some (.int (nI k))] [] h _) 16 (fun k hk => ?_)).mpr ?_
  · refine pb_mo_quarter_4.trans ((if_neg (nI_ge hk (by omega))).trans ?_)
    rw [nI_1]
    rfl
  · exact (pb_mo_quarter_4.trans ((if_pos (Int32.le_refl _)).trans pb_mo_quarter_44)).mpr rfl
def pf_mo (x : Int32) : Nat → Int32
  | 0 => 0
  | k + 1 => pf_mo x k ||| (if ¬ (pf_has x (nI k)) then (0 : Int32) else (1 <<< (((((nI k / 4) * 4) + 3) - (nI k - nI k / 4 * 4)) &&& 31)))
theorem ss_mo (x : Int32) (h : pj_H) : pe_C pj_m116 [.int x] h (some (.int (pf_mo x 16))) h := by
  refine pb_mo_over_0.mpr ?_
  refine (pe_rep (P := fun k => pe_E pj_m116 4 [some (.int x), some (.int (pf_mo x k)), some (.int (nI k))] [] h _) 16 (fun k hk => ?_)).mpr ?_
  · refine pb_mo_over_4.trans ((if_neg (nI_ge hk (by omega))).trans ?_)
    rw [nI_1]
    rfl
  · exact (pb_mo_over_4.trans ((if_pos (Int32.le_refl _)).trans pb_mo_over_44)).mpr rfl
theorem pt_ix {x : Int32} {n : Nat} (h1 : 0 ≤ x.toInt) (h2 : x.toInt < n) : ¬ (x < 0 ∨ n ≤ x.toNatClampNeg) := by
  have e : (0 : Int32).toInt = 0 := by decide
  rintro (h | h)
  · rw [pt_lt, e] at h
    omega
  · have : x.toNatClampNeg = x.toInt.toNat := rfl
    omega
/-! the model's spread: rounds over the sixteen cells until nothing is new -/
def pf_spc (had may : Int32) (c : Int32) : Int32 := if (pv_mo_spread_14_0 had c) = 0 then (0 : Int32) else (if ¬ (pf_has may c) then (0 : Int32) else (1 <<< (c &&& 31)))
def pf_spi (had may : Int32) (set : Int32) : Nat → Int32
  | 0 => set
  | k + 1 => pf_spi had may set k ||| pf_spc had may (nI k)
def pf_spr (may set : Int32) : Int32 := pf_spi set may set 16
def pf_spn (may : Int32) : Nat → Int32 → Int32
  | 0, x => x
  | n + 1, x => pf_spn may n (pf_spr may x)
theorem pf_spn_fix {may : Int32} {x : Int32} (h : pf_spr may x = x) : ∀ n, pf_spn may n x = x
  | 0 => rfl
  | n + 1 => by rw [pf_spn, h, pf_spn_fix h n]
theorem ss_spread (x may : Int32) (h : pj_H) (n : Nat) (h0 : ¬ x = 0) (hn : pf_spr may (pf_spn may n x) = pf_spn may n x) : pe_C pj_m133 [.int x, .int may] h (some (.int (pf_spn may n x))) h := by
  refine pb_mo_spread_0.mpr ?_
  have inner : ∀ (o : Option Value × pj_H) (had set : Int32), (∀ b5, pe_E pj_m133 131 [some (.int x), some (.int may), some (.int (pf_spi had may set 16)), some (.int had), some (.int (nI 16)), b5] [] h o) → ∀ (n k : Nat) (a5 : Option Value), k + n = 16 → pe_E pj_m133 14 [some (.int x), some (.int may), some (.int (pf_spi had may set k)), some (.int had), some (.int (nI k)), a5] [] h o := by
    intro o had set K n
    induction n with
    | zero =>
      intro k a5 hk
      rw [show k = 16 by omega]
      exact (pb_mo_spread_14.trans (if_pos (Int32.le_refl _))).mpr (K a5)
    | succ n ih =>
      intro k a5 hk
      refine (pb_mo_spread_14.trans ((if_neg (nI_ge (show k < 16 by omega) (by omega))).trans pb_mo_spread_98)).mpr ?_
      rw [nI_1]
      exact ih (k + 1) _ (by omega)
  have outer : ∀ (n : Nat) (set had : Int32) (a4 a5 : Option Value), (set = had → pf_spr may set = set) → pf_spr may (pf_spn may n set) = pf_spn may n set → pe_E pj_m133 4 [some (.int x), some (.int may), some (.int set), some (.int had), a4, a5] [] h (some (.int (pf_spn may n set)), h) := by
    intro n
    induction n with
    | zero =>
      intro set had a4 a5 hp hf
      refine pb_mo_spread_4.mpr ?_
      by_cases hc : set = had
      · rw [if_pos hc]
        exact pb_mo_spread_134.mpr rfl
      · rw [if_neg hc]
        refine inner _ set set (fun b5 => pb_mo_spread_131.mpr ?_) 16 0 a5 rfl
        have hf : pf_spr may set = set := hf
        have e : pf_spi set may set 16 = set := hf
        rw [e]
        exact (pb_mo_spread_4.trans ((if_pos rfl).trans pb_mo_spread_134)).mpr rfl
    | succ n ih =>
      intro set had a4 a5 hp hf
      refine pb_mo_spread_4.mpr ?_
      by_cases hc : set = had
      · rw [if_pos hc, pf_spn_fix (hp hc)]
        exact pb_mo_spread_134.mpr rfl
      · rw [if_neg hc]
        refine inner _ set set (fun b5 => pb_mo_spread_131.mpr ?_) 16 0 a5 rfl
        refine ih (pf_spr may set) set _ _ (fun e => ?_) hf
        rw [e]
        exact e
  exact outer n x 0 none none (fun e => absurd e h0) hn
