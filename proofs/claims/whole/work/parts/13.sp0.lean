/-! ===== contracts of the methods that call nothing ===== -/
theorem pt_add {x y : Int32} (h1 : -2147483648 ≤ x.toInt + y.toInt) (h2 : x.toInt + y.toInt < 2147483648) : (x + y).toInt = x.toInt + y.toInt := by
  rw [Int32.toInt_add]
  exact Int.bmod_eq_of_le (by omega) (by omega)
theorem pt_sub {x y : Int32} (h1 : -2147483648 ≤ x.toInt - y.toInt) (h2 : x.toInt - y.toInt < 2147483648) : (x - y).toInt = x.toInt - y.toInt := by
  rw [Int32.toInt_sub]
  exact Int.bmod_eq_of_le (by omega) (by omega)
theorem pt_rng (x : Int32) : -2147483648 ≤ x.toInt ∧ x.toInt < 2147483648 := ⟨Int32.le_toInt x, Int32.toInt_lt x⟩
theorem pt_succ {x : Int32} (h : x.toInt < 2147483647) : (x + 1).toInt = x.toInt + 1 := by
  have := pt_rng x
  have e : (1 : Int32).toInt = 1 := by decide
  rw [pt_add (by rw [e]; omega) (by rw [e]; omega), e]
theorem pt_nI {n : Nat} (h : n < 2147483648) : (nI n).toInt = n := nI_toInt h
theorem pt_le (x y : Int32) : x ≤ y ↔ x.toInt ≤ y.toInt := Int32.le_iff_toInt_le
theorem pt_lt (x y : Int32) : x < y ↔ x.toInt < y.toInt := Int32.lt_iff_toInt_lt
theorem pt_eq (x y : Int32) : x = y ↔ x.toInt = y.toInt := Int32.toInt_inj.symm
theorem ss_within (a b c : Int32) (h : pj_H) : pe_C pj_m94 [.int a, .int b, .int c] h (some (.int (pz (b ≤ a ∧ a ≤ c)))) h := by
  refine (pb_sw_within_0 (o := _)).mpr ?_
  simp only [Int32.not_lt]
theorem ss_in (a b c : Int32) (h : pj_H) : pe_C pj_m102 [.int a, .int b, .int c] h (some (.int (pz (b ≤ a ∧ a ≤ c)))) h := by
  refine (pb_mo_in_0 (o := _)).mpr ?_
  simp only [Int32.not_lt]
abbrev pf_has (a b : Int32) : Prop := ((a >>> (b &&& 31)) &&& 1) = 1
theorem ss_has (a b : Int32) (h : pj_H) : pe_C pj_m103 [.int a, .int b] h (some (.int (pz (pf_has a b)))) h := by
  refine (pb_mo_has_0 (o := _)).mpr ?_
  simp only [Decidable.not_not]
def pf_bits (x : Int32) : Nat → Int32
  | 0 => 0
  | k + 1 => pf_bits x k + ((x >>> (nI k &&& 31)) &&& 1)
theorem ss_bits (x : Int32) (h : pj_H) : pe_C pj_m104 [.int x] h (some (.int (pf_bits x 16))) h := by
  refine (pb_mo_bits_0 (o := _)).mpr ?_
  refine (pe_rep (P := fun k => pe_E pj_m104 4 [some (.int x), some (.int (pf_bits x k)), some (.int (nI k))] [] h _) 16 (fun k hk => ?_)).mpr ?_
  · refine pb_mo_bits_4.trans ((if_neg (nI_ge hk (by omega))).trans ?_)
    rw [nI_1]
    rfl
  · exact (pb_mo_bits_4.trans (if_pos (Int32.le_refl _))).mpr (pb_mo_bits_24.mpr rfl)
/-! Integer.bitCount, Integer.numberOfTrailingZeros -/
def pf_u (x : Int32) (k : Int32) : Int32 := (x.toUInt32 >>> (k.toUInt32 &&& Int32.toUInt32 31)).toInt32
def pf_bc1 (x : Int32) : Int32 := x - (pf_u x 1 &&& 1431655765)
def pf_bc2 (x : Int32) : Int32 := (x &&& 858993459) + (pf_u x 2 &&& 858993459)
def pf_bc3 (x : Int32) : Int32 := (x + pf_u x 4) &&& 252645135
def pf_bc4 (x : Int32) : Int32 := x + pf_u x 8
def pf_bc5 (x : Int32) : Int32 := x + pf_u x 16
def pf_bc (x : Int32) : Int32 := pf_bc5 (pf_bc4 (pf_bc3 (pf_bc2 (pf_bc1 x)))) &&& 63
theorem ss_bc (x : Int32) (h : pj_H) : pe_C pj_m155 [.int x] h (some (.int (pf_bc x))) h :=
  (pb_in_bitCount_0.trans (pb_in_bitCount_10.trans (pb_in_bitCount_24.trans (pb_in_bitCount_34.trans (pb_in_bitCount_41.trans pb_in_bitCount_48))))).mpr rfl
def pf_nt (t m : Int32) (s : Int32 × Int32) : Int32 × Int32 := if s.1 ≤ t then s else (pf_u s.1 m, s.2 + m)
def pf_ntz (x : Int32) : Int32 := if (0 : Int32) < ((x ^^^ (-1)) &&& (x - 1)) then (fun s : Int32 × Int32 => s.2 + pf_u s.1 1) (pf_nt 4 2 (pf_nt 16 4 (pf_nt 256 8 (pf_nt 65536 16 ((x ^^^ (-1)) &&& (x - 1), 1))))) else ((x ^^^ (-1)) &&& (x - 1)) &&& 32
theorem pf_nt1 (t m : Int32) (s : Int32 × Int32) : (pf_nt t m s).1 = if s.1 ≤ t then s.1 else pf_u s.1 m := by unfold pf_nt; split <;> rfl
theorem pf_nt2 (t m : Int32) (s : Int32 × Int32) : (pf_nt t m s).2 = if s.1 ≤ t then s.2 else s.2 + m := by unfold pf_nt; split <;> rfl
theorem ss_ntz (x : Int32) (h : pj_H) : pe_C pj_m154 [.int x] h (some (.int (pf_ntz x))) h := by
  refine pb_in_numberOfTrailingZeros_0.mpr ?_
  by_cases hc : (0 : Int32) < ((x ^^^ (-1)) &&& (x - 1))
  · rw [if_pos hc]
    refine (pb_in_numberOfTrailingZeros_17.trans (pb_in_numberOfTrailingZeros_34.trans (pb_in_numberOfTrailingZeros_49.trans (pb_in_numberOfTrailingZeros_62.trans pb_in_numberOfTrailingZeros_74)))).mpr ?_
    unfold pf_ntz
    rw [if_pos hc]
    simp only [pf_nt1, pf_nt2]
    rfl
  · rw [if_neg hc]
    unfold pf_ntz
    rw [if_neg hc]
/-! Turns.byOneQuarter: sixteen places, four rows of four -/
def pf_q1s (x : Int32) (r p : Nat) : Int32 := ((x >>> (((4 * nI r) + nI p) &&& 31)) &&& 1) <<< (((((4 * nI p) + 4) - 1) - nI r) &&& 31)
def pf_q1r (x : Int32) (r : Nat) (t : Int32) : Nat → Int32
  | 0 => t
  | p + 1 => pf_q1r x r t p ||| pf_q1s x r p
def pf_q1t (x : Int32) : Nat → Int32
  | 0 => 0
  | r + 1 => pf_q1r x r (pf_q1t x r) 4
def pf_q1 (x : Int32) : Int32 := pf_q1t x 4
theorem ss_q1 (x : Int32) (h : pj_H) : pe_C pj_m62 [.int x] h (some (.int (pf_q1 x))) h := by
  refine pb_tu_byOneQuarter_0.mpr ?_
  have inner : ∀ (o : Option Value × pj_H) (r : Nat) (t : Int32), (∀ b4, pe_E pj_m62 48 [some (.int x), some (.int (pf_q1r x r t 4)), some (.int (nI r)), some (.int (nI 4)), b4] [] h o) → ∀ (n p : Nat) (a4 : Option Value), p + n = 4 → pe_E pj_m62 11 [some (.int x), some (.int (pf_q1r x r t p)), some (.int (nI r)), some (.int (nI p)), a4] [] h o := by
    intro o r t K n
    induction n with
    | zero =>
      intro p a4 hp
      rw [show p = 4 by omega]
      exact (pb_tu_byOneQuarter_11.trans (if_pos (Int32.le_refl _))).mpr (K a4)
    | succ n ih =>
      intro p a4 hp
      refine (pb_tu_byOneQuarter_11.trans (if_neg (nI_ge (show p < 4 by omega) (by omega)))).mpr ?_
      rw [nI_1]
      exact ih (p + 1) _ (by omega)
  have outer : ∀ (n r : Nat) (a3 a4 : Option Value), r + n = 4 → pe_E pj_m62 4 [some (.int x), some (.int (pf_q1t x r)), some (.int (nI r)), a3, a4] [] h (some (.int (pf_q1 x)), h) := by
    intro n
    induction n with
    | zero =>
      intro r a3 a4 hr
      rw [show r = 4 by omega]
      exact (pb_tu_byOneQuarter_4.trans ((if_pos (Int32.le_refl _)).trans pb_tu_byOneQuarter_54)).mpr rfl
    | succ n ih =>
      intro r a3 a4 hr
      refine (pb_tu_byOneQuarter_4.trans (if_neg (nI_ge (show r < 4 by omega) (by omega)))).mpr ?_
      refine inner _ r (pf_q1t x r) (fun b4 => pb_tu_byOneQuarter_48.mpr ?_) 4 0 a4 rfl
      rw [nI_1]
      exact ih (r + 1) _ _ (by omega)
  exact outer 4 0 none none rfl
/-! Orders.spread, Orders.cardsIn -/
def pf_sp (x : Int32) : Nat → Int64
  | 0 => 0
  | k + 1 => pf_sp x k ||| (((x >>> (nI k &&& 31)) &&& 1).toInt64 <<< ((4 * nI k).toInt64 &&& 63))
theorem ss_sp (x : Int32) (h : pj_H) : pe_C pj_m17 [.int x] h (some (.long (pf_sp x 16))) h := by
  refine pb_od_spread_0.mpr ?_
  refine (pe_rep (P := fun k => pe_E pj_m17 4 [some (.int x), some (.long (pf_sp x k)), none, some (.int (nI k))] [] h _) 16 (fun k hk => ?_)).mpr ?_
  · refine pb_od_spread_4.trans ((if_neg (nI_ge hk (by omega))).trans ?_)
    rw [nI_1]
    rfl
  · exact (pb_od_spread_4.trans (if_pos (Int32.le_refl _))).mpr (pb_od_spread_29.mpr rfl)
def pf_ci : Nat → Int32 → Int32 → Int32
  | 0, c, _ => c
  | n + 1, c, r => if r ≤ 0 then c else pf_ci n (c + 1) (r / 10)
theorem ss_ci (x : Int32) (h : pj_H) : pe_C pj_m21 [.int x] h (some (.int (pf_ci 5 0 (x / 10)))) h := by
  refine pb_od_cardsIn_0.mpr ?_
  have g : ∀ (n : Nat) (k : Nat) (c r : Int32), k + n = 5 → pe_E pj_m21 9 [some (.int x), some (.int c), some (.int r), some (.int (nI k))] [] h (some (.int (pf_ci n c r)), h) := by
    intro n
    induction n with
    | zero =>
      intro k c r hk
      rw [show k = 5 by omega]
      exact (pb_od_cardsIn_9.trans ((if_pos (Int32.le_refl _)).trans pb_od_cardsIn_32)).mpr rfl
    | succ n ih =>
      intro k c r hk
      refine (pb_od_cardsIn_9.trans (if_neg (nI_ge (show k < 5 by omega) (by omega)))).mpr ?_
      unfold pf_ci
      by_cases hr : r ≤ 0
      · rw [if_pos hr, if_pos hr]
        exact pb_od_cardsIn_32.mpr rfl
      · rw [if_neg hr, if_neg hr, nI_1]
        exact ih (k + 1) _ _ (by omega)
  exact g 5 0 0 _ rfl
/-! Stairs.cansOn, Falling.power, the model's fives and orderOf -/
def pf_div10 : Nat → Int32 → Int32
  | 0, x => x
  | n + 1, x => pf_div10 n (x / 10)
def pf_cans (step cans : Int32) : Int32 := pf_div10 (5 - step.toInt).toNat cans - pf_div10 (5 - step.toInt).toNat cans / 10 * 10
theorem ss_cans (step cans : Int32) (h : pj_H) : pe_C pj_m59 [.int step, .int cans] h (some (.int (pf_cans step cans))) h := by
  refine pb_st_cansOn_0.mpr ?_
  have g : ∀ (n : Nat) (x2 x3 : Int32), (5 - x3.toInt).toNat = n → pe_E pj_m59 4 [some (.int step), some (.int cans), some (.int x2), some (.int x3)] [] h (some (.int (pf_div10 n x2 - pf_div10 n x2 / 10 * 10)), h) := by
    intro n
    induction n with
    | zero =>
      intro x2 x3 hn
      exact (pb_st_cansOn_4.trans ((if_pos ((pt_le 5 x3).mpr (show (5 : Int) ≤ x3.toInt by omega))).trans pb_st_cansOn_20)).mpr rfl
    | succ n ih =>
      intro x2 x3 hn
      refine (pb_st_cansOn_4.trans (if_neg (fun hc => ?_))).mpr (ih _ _ ?_)
      · have hc : (5 : Int) ≤ x3.toInt := (pt_le _ _).mp hc
        omega
      · rw [pt_succ (by omega)]
        omega
  exact g _ _ _ rfl
def pf_pow (b : Int64) : Nat → Int64 → Int64
  | 0, w => w
  | n + 1, w => pf_pow b n (w * b)
theorem ss_pow (b e : Int32) (h : pj_H) : pe_C pj_m6 [.int b, .int e] h (some (.long (pf_pow b.toInt64 e.toInt.toNat 1))) h := by
  refine pb_fa_power_0.mpr ?_
  have g : ∀ (n : Nat) (w : Int64) (x4 : Int32), 0 ≤ x4.toInt → (e.toInt - x4.toInt).toNat = n → pe_E pj_m6 5 [some (.int b), some (.int e), some (.long w), none, some (.int x4)] [] h (some (.long (pf_pow b.toInt64 n w)), h) := by
    intro n
    induction n with
    | zero =>
      intro w x4 h0 hn
      exact (pb_fa_power_5.trans ((if_pos ((pt_le _ _).mpr (show e.toInt ≤ x4.toInt by omega))).trans pb_fa_power_22)).mpr rfl
    | succ n ih =>
      intro w x4 h0 hn
      have := pt_rng e
      refine (pb_fa_power_5.trans (if_neg (fun hc => ?_))).mpr (ih _ _ ?_ ?_)
      · have hc := (pt_le _ _).mp hc
        omega
      · rw [pt_succ (by omega)]
        omega
      · rw [pt_succ (by omega)]
        omega
  have := g e.toInt.toNat 1 0 (by decide) (by rw [show (0 : Int32).toInt = 0 from by decide]; omega)
  exact this
def pf_fv : Nat → Int32 → Int32
  | 0, x => x
  | n + 1, x => pf_fv n (x * 5)
theorem ss_fives (m : Int32) (h : pj_H) : pe_C pj_m138 [.int m] h (some (.int (pf_fv m.toInt.toNat 1))) h := by
  refine pb_mo_fives_0.mpr ?_
  have g : ∀ (n : Nat) (w : Int32) (x4 : Int32), 0 ≤ x4.toInt → (m.toInt - x4.toInt).toNat = n → pe_E pj_m138 4 [some (.int m), some (.int w), some (.int x4)] [] h (some (.int (pf_fv n w)), h) := by
    intro n
    induction n with
    | zero =>
      intro w x4 h0 hn
      exact (pb_mo_fives_4.trans ((if_pos ((pt_le _ _).mpr (show m.toInt ≤ x4.toInt by omega))).trans pb_mo_fives_19)).mpr rfl
    | succ n ih =>
      intro w x4 h0 hn
      have := pt_rng m
      refine (pb_mo_fives_4.trans (if_neg (fun hc => ?_))).mpr (ih _ _ ?_ ?_)
      · have hc := (pt_le _ _).mp hc
        omega
      · rw [pt_succ (by omega)]
        omega
      · rw [pt_succ (by omega)]
        omega
  exact g m.toInt.toNat 1 0 (by decide) (by rw [show (0 : Int32).toInt = 0 from by decide]; omega)
def pf_ord : Nat → Int32 → Int32 → Int32 → Int32
  | 0, o, t, _ => t + o
  | n + 1, o, t, l => pf_ord n (o + t * (l - l / 5 * 5)) (t * 10) (l / 5)
theorem ss_ord (c m : Int32) (h : pj_H) : pe_C pj_m141 [.int c, .int m] h (some (.int (pf_ord m.toInt.toNat 0 1 c))) h := by
  refine pb_mo_orderOf_0.mpr ?_
  have g : ∀ (n : Nat) (x2 x3 x4 x5 : Int32), 0 ≤ x5.toInt → (m.toInt - x5.toInt).toNat = n → pe_E pj_m141 10 [some (.int c), some (.int m), some (.int x2), some (.int x3), some (.int x4), some (.int x5)] [] h (some (.int (pf_ord n x2 x3 x4)), h) := by
    intro n
    induction n with
    | zero =>
      intro x2 x3 x4 x5 h0 hn
      exact (pb_mo_orderOf_10.trans ((if_pos ((pt_le _ _).mpr (show m.toInt ≤ x5.toInt by omega))).trans pb_mo_orderOf_42)).mpr rfl
    | succ n ih =>
      intro x2 x3 x4 x5 h0 hn
      have := pt_rng m
      refine (pb_mo_orderOf_10.trans (if_neg (fun hc => ?_))).mpr (ih _ _ _ _ ?_ ?_)
      · have hc := (pt_le _ _).mp hc
        omega
      · rw [pt_succ (by omega)]
        omega
      · rw [pt_succ (by omega)]
        omega
  exact g m.toInt.toNat 0 1 c 0 (by decide) (by rw [show (0 : Int32).toInt = 0 from by decide]; omega)
/-! Falling.partOf: halving while it can be -/
def pf_half : Nat → Int64 → Int64 → Int64 × Int64
  | 0, a, b => (a, b)
  | n + 1, a, b => if ¬ (lg_cmp (a &&& 1) 0) = 0 then (a, b) else if (lg_cmp b 1) ≤ 0 then (a, b) else pf_half n (a / 2) (b / 2)
theorem ss_part (a b : Int64) (p : Int32) (h : pj_H) : pe_C pj_m7 [.long a, .long b, .int p] h (some (.long (if ¬ p = 0 then (pf_half 40 a b).2 else (pf_half 40 a b).1))) h := by
  refine pb_fa_partOf_0.mpr ?_
  have g : ∀ (n k : Nat) (u v : Int64), k + n = 40 → pe_E pj_m7 9 [some (.long a), none, some (.long b), none, some (.int p), some (.long u), none, some (.long v), none, some (.int (nI k))] [] h (some (.long (if ¬ p = 0 then (pf_half n u v).2 else (pf_half n u v).1)), h) := by
    intro n
    induction n with
    | zero =>
      intro k u v hk
      rw [show k = 40 by omega]
      exact (pb_fa_partOf_9.trans ((if_pos (Int32.le_refl _)).trans pb_fa_partOf_54)).mpr rfl
    | succ n ih =>
      intro k u v hk
      refine (pb_fa_partOf_9.trans (if_neg (nI_ge (show k < 40 by omega) (by omega)))).mpr ?_
      unfold pf_half
      by_cases h1 : ¬ (lg_cmp (u &&& 1) 0) = 0
      · rw [if_pos h1, if_pos h1]
        exact pb_fa_partOf_54.mpr rfl
      · rw [if_neg h1, if_neg h1]
        by_cases h2 : (lg_cmp v 1) ≤ 0
        · rw [if_pos h2, if_pos h2]
          exact pb_fa_partOf_54.mpr rfl
        · rw [if_neg h2, if_neg h2, nI_1]
          exact ih (k + 1) _ _ (by omega)
  exact g 40 0 a b rfl
