/-! ===== contracts: scenes' loops, quarters of the model, the least winning move ===== -/
theorem pt_ixL {x a b : Int32} {n : Nat} (h1 : ¬ x < a) (h2 : ¬ b < x) (ha : 0 ≤ a.toInt) (hb : b.toInt < n) : ¬ (x < 0 ∨ n ≤ x.toNatClampNeg) := by
  rw [pt_lt] at h1 h2
  exact pt_ix (by omega) (by omega)
theorem pt_ixE {x a b : Int32} {n : Nat} (h1 : ¬ x < a) (h2 : ¬ b ≤ x) (ha : 0 ≤ a.toInt) (hb : b.toInt ≤ n) : ¬ (x < 0 ∨ n ≤ x.toNatClampNeg) := by
  rw [pt_lt] at h1
  rw [pt_le] at h2
  exact pt_ix (by omega) (by omega)
theorem pt_ixT {x a b : Int32} {n : Nat} (h1 : ¬ x < a) (h2 : x < b) (ha : 0 ≤ a.toInt) (hb : b.toInt ≤ n) : ¬ (x < 0 ∨ n ≤ x.toNatClampNeg) := by
  rw [pt_lt] at h1 h2
  exact pt_ix (by omega) (by omega)
theorem pj_row_self {α : Type} (f : Nat → Nat → α) (k : Nat) : pj_row f k (f k) = f := by
  funext a
  by_cases h : a = k
  · subst h; simp [pj_row]
  · simp [pj_row, h]
theorem pj_up_row (f : Nat → Nat → Int32) (k j : Nat) (v : Int32) : pj_up f k j v = pj_row f k (upd (f k) j v) := rfl
theorem pj_up_row2 (f : Nat → Nat → Int32) (g : Nat → Int32) (k j : Nat) (v : Int32) : pj_up (pj_row f k g) k j v = pj_row f k (upd g j v) := by
  funext a
  by_cases h : a = k
  · subst h; simp [pj_row, pj_up]
  · simp [pj_row, pj_up, h]
theorem pj_uL_row2 (f : Nat → Nat → Int64) (g : Nat → Int64) (k j : Nat) (v : Int64) : pj_uL (pj_row f k g) k j v = pj_row f k (vp_updL g j v) := by
  funext a
  by_cases h : a = k
  · subst h; simp [pj_row, pj_uL]
  · simp [pj_row, pj_uL, h]
theorem pj_row_at {α : Type} (f : Nat → Nat → α) (k : Nat) (g : Nat → α) : pj_row f k g k = g := by simp [pj_row]
/-- a row that is written place by place -/
def pf_upto {α : Type} (f g : Nat → α) (k : Nat) : Nat → α := fun j => if j < k then g j else f j
theorem pf_upto_0 {α : Type} (f g : Nat → α) : pf_upto f g 0 = f := by funext j; simp [pf_upto]
theorem pf_upto_s (f g : Nat → Int32) (k : Nat) : upd (pf_upto f g k) k (g k) = pf_upto f g (k + 1) := by
  funext j
  by_cases h : j = k
  · subst h; simp [upd, pf_upto]
  · simp only [upd, pf_upto, if_neg h]
    by_cases h2 : j < k
    · rw [if_pos h2, if_pos (by omega)]
    · rw [if_neg h2, if_neg (by omega)]
theorem pt_clamp {k : Nat} (h : k < 2147483648) : (nI k).toNatClampNeg = k := nI_clamp h
theorem pt_nlt {a b : Nat} (h : a ≤ b) (hb : b < 2147483648) : ¬ (nI b) < nI a := nI_nlt h hb
theorem pt_ixN {k n : Nat} (h : k < n) (hn : n < 2147483648) : ¬ (nI k < 0 ∨ n ≤ (nI k).toNatClampNeg) := nI_in h hn
def pf_colr (f : Nat → Int32) (x : Int32) : Nat → Nat → Int32
  | 0, _ => 0
  | n + 1, k => if ¬ (((f k) >>> (x &&& 31)) &&& 1) = 1 then pf_colr f x n (k + 1) else nI k
def pf_col (f : Nat → Int32) (x : Int32) : Int32 := pf_colr f x 6 1
theorem ss_colN (x : Int32) (L : Nat) (hi : Nat → Nat → Int32) (hl : Nat → Nat → Int64) : pe_C pj_m36 [.ref 2, .int x] (pj_SH L, hi, hl) (some (.int (pf_col (hi 3) x))) (pj_SH L, hi, hl) := by
  refine pb_sc_colourOfN_0.mpr ?_
  have g : ∀ (n k : Nat), k + n = 7 → pe_E pj_m36 2 [some (.ref 2), some (.int x), some (.int (nI k))] [] (pj_SH L, hi, hl) (some (.int (pf_colr (hi 3) x n k)), (pj_SH L, hi, hl)) := by
    intro n
    induction n with
    | zero =>
      intro k hk
      rw [show k = 7 by omega]
      exact ((pb_sc_colourOfN_2 (fun h => absurd (show (6 : Int32) < nI 7 by decide) h)).trans (if_pos (show (6 : Int32) < nI 7 by decide))).mpr rfl
    | succ n ih =>
      intro k hk
      refine ((pb_sc_colourOfN_2 (fun _ => pt_ixN (by omega) (by omega))).trans (if_neg (pt_nlt (a := k) (b := 6) (by omega) (by omega)))).mpr ?_
      rw [pt_clamp (by omega), nI_1]
      unfold pf_colr
      by_cases hc : ¬ (((hi 3 k) >>> (x &&& 31)) &&& 1) = 1
      · rw [if_pos hc, if_pos hc]
        exact ih (k + 1) (by omega)
      · rw [if_neg hc, if_neg hc]
  exact g 6 1 rfl
theorem ss_colT (x : Int32) (L : Nat) (hi : Nat → Nat → Int32) (hl : Nat → Nat → Int64) : pe_C pj_m36 [.ref 6, .int x] (pj_SH L, hi, hl) (some (.int (pf_col (hi 7) x))) (pj_SH L, hi, hl) := by
  refine pb_sc_colourOfT_0.mpr ?_
  have g : ∀ (n k : Nat), k + n = 7 → pe_E pj_m36 2 [some (.ref 6), some (.int x), some (.int (nI k))] [] (pj_SH L, hi, hl) (some (.int (pf_colr (hi 7) x n k)), (pj_SH L, hi, hl)) := by
    intro n
    induction n with
    | zero =>
      intro k hk
      rw [show k = 7 by omega]
      exact ((pb_sc_colourOfT_2 (fun h => absurd (show (6 : Int32) < nI 7 by decide) h)).trans (if_pos (show (6 : Int32) < nI 7 by decide))).mpr rfl
    | succ n ih =>
      intro k hk
      refine ((pb_sc_colourOfT_2 (fun _ => pt_ixN (by omega) (by omega))).trans (if_neg (pt_nlt (a := k) (b := 6) (by omega) (by omega)))).mpr ?_
      rw [pt_clamp (by omega), nI_1]
      unfold pf_colr
      by_cases hc : ¬ (((hi 7 k) >>> (x &&& 31)) &&& 1) = 1
      · rw [if_pos hc, if_pos hc]
        exact ih (k + 1) (by omega)
      · rw [if_neg hc, if_neg hc]
  exact g 6 1 rfl
def pf_pnt (f : Nat → Int32) (s c : Int32) : Nat → Int32 := fun j => if ¬ nI j = c then ((f j) &&& (s ^^^ (-1))) else (((f j) &&& (s ^^^ (-1))) ||| s)
def pf_pntR (f : Nat → Int32) (s c : Int32) : Nat → Int32 := pf_upto f (pf_pnt f s c) 7
theorem ss_paintN (s c : Int32) (L : Nat) (hi : Nat → Nat → Int32) (hl : Nat → Nat → Int64) : pe_C pj_m40 [.ref 2, .int s, .int c] (pj_SH L, hi, hl) none (pj_SH L, pj_row hi 3 (pf_pntR (hi 3) s c), hl) := by
  refine pb_sc_paintN_0.mpr ?_
  have g : ∀ (n k : Nat) (a4 : Option Value), k + n = 7 → pe_E pj_m40 2 [some (.ref 2), some (.int s), some (.int c), some (.int (nI k)), a4] [] (pj_SH L, pj_row hi 3 (pf_upto (hi 3) (pf_pnt (hi 3) s c) k), hl) (none, (pj_SH L, pj_row hi 3 (pf_pntR (hi 3) s c), hl)) := by
    intro n
    induction n with
    | zero =>
      intro k a4 hk
      rw [show k = 7 by omega]
      exact ((pb_sc_paintN_2 (fun h => absurd (show (6 : Int32) < nI 7 by decide) h)).trans ((if_pos (show (6 : Int32) < nI 7 by decide)).trans pb_sc_paintN_46)).mpr rfl
    | succ n ih =>
      intro k a4 hk
      refine ((pb_sc_paintN_2 (fun _ => pt_ixN (by omega) (by omega))).trans (if_neg (pt_nlt (a := k) (b := 6) (by omega) (by omega)))).mpr ?_
      rw [pt_clamp (by omega), nI_1, pj_up_row2, pj_row_at]
      have e : pf_upto (hi 3) (pf_pnt (hi 3) s c) k k = hi 3 k := by simp [pf_upto]
      rw [e]
      have e2 := pf_upto_s (hi 3) (pf_pnt (hi 3) s c) k
      rw [show pf_pnt (hi 3) s c k = (if ¬ nI k = c then ((hi 3 k) &&& (s ^^^ (-1))) else (((hi 3 k) &&& (s ^^^ (-1))) ||| s)) from rfl] at e2
      rw [e2]
      exact ih (k + 1) _ (by omega)
  have := g 7 0 none rfl
  rw [pf_upto_0, pj_row_self] at this
  exact this
theorem ss_paintT (s c : Int32) (L : Nat) (hi : Nat → Nat → Int32) (hl : Nat → Nat → Int64) : pe_C pj_m40 [.ref 6, .int s, .int c] (pj_SH L, hi, hl) none (pj_SH L, pj_row hi 7 (pf_pntR (hi 7) s c), hl) := by
  refine pb_sc_paintT_0.mpr ?_
  have g : ∀ (n k : Nat) (a4 : Option Value), k + n = 7 → pe_E pj_m40 2 [some (.ref 6), some (.int s), some (.int c), some (.int (nI k)), a4] [] (pj_SH L, pj_row hi 7 (pf_upto (hi 7) (pf_pnt (hi 7) s c) k), hl) (none, (pj_SH L, pj_row hi 7 (pf_pntR (hi 7) s c), hl)) := by
    intro n
    induction n with
    | zero =>
      intro k a4 hk
      rw [show k = 7 by omega]
      exact ((pb_sc_paintT_2 (fun h => absurd (show (6 : Int32) < nI 7 by decide) h)).trans ((if_pos (show (6 : Int32) < nI 7 by decide)).trans pb_sc_paintT_46)).mpr rfl
    | succ n ih =>
      intro k a4 hk
      refine ((pb_sc_paintT_2 (fun _ => pt_ixN (by omega) (by omega))).trans (if_neg (pt_nlt (a := k) (b := 6) (by omega) (by omega)))).mpr ?_
      rw [pt_clamp (by omega), nI_1, pj_up_row2, pj_row_at]
      have e : pf_upto (hi 7) (pf_pnt (hi 7) s c) k k = hi 7 k := by simp [pf_upto]
      rw [e]
      have e2 := pf_upto_s (hi 7) (pf_pnt (hi 7) s c) k
      rw [show pf_pnt (hi 7) s c k = (if ¬ nI k = c then ((hi 7 k) &&& (s ^^^ (-1))) else (((hi 7 k) &&& (s ^^^ (-1))) ||| s)) from rfl] at e2
      rw [e2]
      exact ih (k + 1) _ (by omega)
  have := g 7 0 none rfl
  rw [pf_upto_0, pj_row_self] at this
  exact this
def pf_hoa (f : Nat → Int32) (x : Int32) : Nat → Int32
  | 0 => 0
  | k + 1 => if ¬ ((x >>> (nI k &&& 31)) &&& 1) = 1 then pf_hoa f x k else (pf_hoa f x k ||| f k)
theorem ss_hoa (x : Int32) (L : Nat) (hi : Nat → Nat → Int32) (hl : Nat → Nat → Int64) : pe_C pj_m38 [.ref 2, .int x] (pj_SH L, hi, hl) (some (.int (pf_hoa (hi 4) x 8))) (pj_SH L, hi, hl) := by
  refine pb_sc_holesOfAllN_0.mpr ?_
  refine (pe_rep (P := fun k => pe_E pj_m38 4 [some (.ref 2), some (.int x), some (.int (pf_hoa (hi 4) x k)), some (.int (nI k))] [] (pj_SH L, hi, hl) _) 8 (fun k hk => ?_)).mpr ?_
  · refine (pb_sc_holesOfAllN_4 (fun _ _ => pt_ixN (by omega) (by omega))).trans ((if_neg (nI_ge hk (by omega))).trans ?_)
    rw [nI_1, pt_clamp (by omega)]
    rfl
  · exact ((pb_sc_holesOfAllN_4 (fun h => absurd (Int32.le_refl _) h)).trans ((if_pos (Int32.le_refl _)).trans pb_sc_holesOfAllN_34)).mpr rfl
def pf_mqit : Nat → Int32 → Int32
  | 0, x => x
  | n + 1, x => pf_mqit n (pf_mq x 16)
def pf_mqs (x m : Int32) : Int32 := pf_mqit m.toInt.toNat x
theorem ss_mqs (x m : Int32) (h : pj_H) : pe_C pj_m117 [.int x, .int m] h (some (.int (pf_mqs x m))) h := by
  refine pb_mo_quarters_0.mpr ?_
  have g : ∀ (n : Nat) (w : Int32) (x4 : Int32), 0 ≤ x4.toInt → (m.toInt - x4.toInt).toNat = n → pe_E pj_m117 4 [some (.int x), some (.int m), some (.int w), some (.int x4)] [] h (some (.int (pf_mqit n w)), h) := by
    intro n
    induction n with
    | zero =>
      intro w x4 h0 hn
      exact (pb_mo_quarters_4.trans ((if_pos ((pt_le _ _).mpr (show m.toInt ≤ x4.toInt by omega))).trans pb_mo_quarters_20)).mpr rfl
    | succ n ih =>
      intro w x4 h0 hn
      have := pt_rng m
      refine (pb_mo_quarters_4.trans (if_neg (fun hc => ?_))).mpr (ih _ _ ?_ ?_)
      · have hc := (pt_le _ _).mp hc
        omega
      · rw [pt_succ (by omega)]
        omega
      · rw [pt_succ (by omega)]
        omega
  exact g m.toInt.toNat x 0 (by decide) (by rw [show (0 : Int32).toInt = 0 from by decide]; omega)
/-! the least winning move -/
theorem pt_mul {x y : Int32} (h1 : -2147483648 ≤ x.toInt * y.toInt) (h2 : x.toInt * y.toInt < 2147483648) : (x * y).toInt = x.toInt * y.toInt := by
  rw [Int32.toInt_mul]
  exact Int.bmod_eq_of_le (by omega) (by omega)
theorem pt_tdiv (a : Int) {d : Int} (hd : 0 < d) : a = d * a.tdiv d + a.tmod d ∧ -d < a.tmod d ∧ a.tmod d < d ∧ (0 ≤ a → 0 ≤ a.tmod d) ∧ (a ≤ 0 → a.tmod d ≤ 0) := by
  refine ⟨(Int.mul_tdiv_add_tmod a d).symm, ?_, Int.tmod_lt_of_pos a hd, fun h => Int.tmod_nonneg d h, fun h => ?_⟩
  · have := (tmod_bounds (a := a) hd).1
    exact this
  · have := Int.tmod_nonneg (a := -a) d (by omega)
    rw [Int.neg_tmod] at this
    omega
theorem pt_div {x y : Int32} (hy : 0 < y.toInt) : (x / y).toInt = x.toInt.tdiv y.toInt := by
  rw [Int32.toInt_div]
  have h := pt_rng x
  have h2 := pt_tdiv x.toInt hy
  have h3 : -2147483648 ≤ x.toInt.tdiv y.toInt ∧ x.toInt.tdiv y.toInt < 2147483648 := by
    have h4 := Int.natAbs_tdiv_le_natAbs x.toInt y.toInt
    constructor
    · omega
    · rcases (show x.toInt < 0 ∨ 0 ≤ x.toInt by omega) with hx | hx
      · have h6 : 0 ≤ (-x.toInt).tdiv y.toInt := Int.tdiv_nonneg (by omega) (by omega)
        rw [Int.neg_tdiv] at h6
        omega
      · omega
  exact Int.bmod_eq_of_le (by omega) (by omega)
theorem pt_rem {x d : Int32} (hd : 0 < d.toInt) : (x - x / d * d).toInt = x.toInt.tmod d.toInt := by
  have h := pt_rng x
  have hd2 := pt_rng d
  obtain ⟨h1, h2, h3, h4, h5⟩ := pt_tdiv x.toInt hd
  have e1 : (x / d).toInt = x.toInt.tdiv d.toInt := pt_div hd
  have e3 : d.toInt * x.toInt.tdiv d.toInt = x.toInt.tdiv d.toInt * d.toInt := Int.mul_comm _ _
  have e4 : -2147483648 ≤ x.toInt.tdiv d.toInt * d.toInt ∧ x.toInt.tdiv d.toInt * d.toInt < 2147483648 := by
    rcases (show x.toInt < 0 ∨ 0 ≤ x.toInt by omega) with hx | hx
    · have := h5 (by omega)
      omega
    · have := h4 hx
      omega
  have e2 : (x / d * d).toInt = x.toInt.tdiv d.toInt * d.toInt := by
    rw [pt_mul (by rw [e1]; omega) (by rw [e1]; omega), e1]
  rw [pt_sub (by rw [e2]; omega) (by rw [e2]; omega), e2]
  omega
theorem pt_rem10 (x : Int32) : (x - x / 10 * 10).toInt ≤ 9 := by
  have e : (10 : Int32).toInt = 10 := by decide
  rw [pt_rem (by rw [e]; decide), e]
  have := Int.tmod_lt_of_pos x.toInt (show (0 : Int) < 10 by decide)
  omega
def pf_lwi (c s : Int32) : Nat → Nat → Option Int32
  | 0, _ => none
  | n + 1, k => if pf_cans s c < nI k then none else if ¬ pf_odd c s (nI k) = 0 then pf_lwi c s n (k + 1) else some ((10 * s) + nI k)
def pf_lwo (c : Int32) : Nat → Nat → Int32
  | 0, _ => -6
  | n + 1, s => match pf_lwi c (nI s) 10 1 with
    | some v => v
    | none => pf_lwo c n (s + 1)
theorem ss_lw (c : Int32) (h : pj_H) : pe_C pj_m58 [.int c] h (some (.int (pf_lwo c 5 1))) h := by
  refine pb_st_leastWinningMove_0.mpr ?_
  have inner : ∀ (o : Option Value × pj_H) (s : Nat), (pf_lwi c (nI s) 10 1 = none → ∀ x3, pe_E pj_m58 2 [some (.int c), some (.int (nI (s + 1))), some (.int (pf_cans (nI s) c)), some (.int x3)] [] h o) → (∀ v, pf_lwi c (nI s) 10 1 = some v → (some (.int v), h) = o) → ∀ (n k : Nat), k + n = 11 → pf_lwi c (nI s) n k = pf_lwi c (nI s) 10 1 → pe_E pj_m58 15 [some (.int c), some (.int (nI s)), some (.int (pf_cans (nI s) c)), some (.int (nI k))] [] h o := by
    intro o s K1 K2 n
    induction n with
    | zero =>
      intro k hk he
      rw [show k = 11 by omega] at he ⊢
      have hc : pf_cans (nI s) c < nI 11 := by
        rw [pt_lt]
        have := pt_rem10 (pf_div10 (5 - (nI s).toInt).toNat c)
        exact Int.lt_of_le_of_lt this (by decide)
      refine (pb_st_leastWinningMove_15.trans (if_pos hc)).mpr ?_
      rw [nI_1]
      exact K1 he.symm _
    | succ n ih =>
      intro k hk he
      refine pb_st_leastWinningMove_15.mpr ?_
      unfold pf_lwi at he
      by_cases h1 : pf_cans (nI s) c < nI k
      · rw [if_pos h1] at he ⊢
        rw [nI_1]
        exact K1 he.symm _
      · rw [if_neg h1] at he ⊢
        by_cases h2 : ¬ pf_odd c (nI s) (nI k) = 0
        · rw [if_pos h2] at he ⊢
          rw [nI_1]
          exact ih (k + 1) (by omega) he
        · rw [if_neg h2] at he ⊢
          exact K2 _ he.symm
  have outer : ∀ (n s : Nat) (a2 a3 : Option Value), s + n = 6 → pe_E pj_m58 2 [some (.int c), some (.int (nI s)), a2, a3] [] h (some (.int (pf_lwo c n s)), h) := by
    intro n
    induction n with
    | zero =>
      intro s a2 a3 hs
      rw [show s = 6 by omega]
      exact (pb_st_leastWinningMove_2.trans (if_pos (show (5 : Int32) < nI 6 by decide))).mpr rfl
    | succ n ih =>
      intro s a2 a3 hs
      refine (pb_st_leastWinningMove_2.trans (if_neg (pt_nlt (a := s) (b := 5) (by omega) (by omega)))).mpr ?_
      refine inner _ s (fun e x3 => ?_) (fun v e => ?_) 10 1 rfl rfl
      · have := ih (s + 1) (some (.int (pf_cans (nI s) c))) (some (.int x3)) (by omega)
        unfold pf_lwo
        rw [e]
        exact this
      · unfold pf_lwo
        rw [e]
  exact outer 5 1 none none rfl
