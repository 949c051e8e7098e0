/-! ===== fall ===== -/
/-- ways that n drops hit just j cells -/
def pd_w : Nat → Nat → Nat
  | 0, j => if j = 0 then 1 else 0
  | n + 1, j => if j = 0 then 0 else pd_w n j * j + pd_w n (j - 1) * (17 - j)
def pd_R (w : Nat → Int64) (n : Nat) : Prop := ∀ j, j ≤ 16 → w j = lN (pd_w n j)
theorem pd_i64 {j : Nat} (h : j ≤ 17) : (nI j).toInt64 = lN j := nI_l (by omega)
theorem pd_17 : ∀ j, j ≤ 16 → ((16 - nI j) + 1 : Int32) = nI (17 - j) := fun j hj => (by decide +kernel : ∀ j, j < 17 → ((16 - nI j) + 1 : Int32) = nI (17 - j)) j (by omega)
theorem pd_17b : ∀ j, j ≤ 16 → ((17 - nI j) : Int32) = nI (17 - j) := fun j hj => (by decide +kernel : ∀ j, j < 17 → ((17 - nI j) : Int32) = nI (17 - j)) j (by omega)
theorem pd_wsn {w : Nat → Int64} {n : Nat} (h : pd_R w n) : pd_R (pf_wsn w) (n + 1) := by
  intro j hj
  unfold pf_wsn pd_w
  by_cases e : j = 0
  · subst e
    rw [if_pos rfl, pk_uLs]
    rfl
  · rw [if_neg e, pk_uLn e]
    unfold pf_wst
    rw [if_pos (by omega), h j hj, h (j - 1) (by omega), pd_17 j hj, pd_i64 (by omega), pd_i64 (by omega), lN_mul, lN_mul, lN_add]
theorem pd_wit {w : Nat → Int64} : ∀ (n i : Nat) (w : Nat → Int64), pd_R w i → pd_R (pf_wit n w) (i + n)
  | 0, _, _, h => h
  | n + 1, i, w, h => by
    unfold pf_wit
    have := pd_wit (w := w) n (i + 1) _ (pd_wsn h)
    rw [show i + (n + 1) = i + 1 + n by omega]
    exact this
theorem pd_w0 (w : Nat → Int64) : pd_R (pf_w0 w) 0 := by
  intro j hj
  unfold pf_w0 pd_w
  by_cases e : j = 0
  · subst e
    rw [if_pos rfl, pk_uLs]
    rfl
  · rw [if_neg e, pk_uLn e]
    unfold pf_upto
    rw [if_pos (by omega)]
    rfl
theorem pd_pow (b : Nat) : ∀ (n : Nat) (w : Nat), pf_pow (lN b) n (lN w) = lN (w * b ^ n)
  | 0, w => by rw [Nat.pow_zero, Nat.mul_one]; rfl
  | n + 1, w => by
    unfold pf_pow
    rw [lN_mul, pd_pow b n, Nat.pow_succ, Nat.mul_assoc, Nat.mul_comm b (b ^ n)]
/-! halving -/
def pd_half : Nat → Nat → Nat → Nat × Nat
  | 0, a, b => (a, b)
  | n + 1, a, b => if ¬ a % 2 = 0 then (a, b) else if b ≤ 1 then (a, b) else pd_half n (a / 2) (b / 2)
theorem pd_halfE : ∀ (n a b : Nat), a < 2 ^ 63 → b < 2 ^ 63 → pf_half n (lN a) (lN b) = (lN (pd_half n a b).1, lN (pd_half n a b).2)
  | 0, _, _, _, _ => rfl
  | n + 1, a, b, ha, hb => by
    unfold pf_half pd_half
    rw [wb_a1 (by omega)]
    by_cases e : a % 2 = 0
    · rw [if_neg (not_not_intro ((lg_cmp_eq _ _).mpr (by rw [e]; rfl))), if_neg (not_not_intro e)]
      by_cases f : b ≤ 1
      · rw [if_pos (show lg_cmp (lN b) 1 ≤ 0 from (lg_cmp_le _ _).mpr ((pk_lLE (b := 1) hb (by omega)).mpr f)), if_pos f]
      · rw [if_neg (show ¬ lg_cmp (lN b) 1 ≤ 0 from fun q => f ((pk_lLE (b := 1) hb (by omega)).mp ((lg_cmp_le _ _).mp q))), if_neg f, show lN a / 2 = lN (a / 2) from pk_lDiv (b := 2) ha (by omega) (by omega), show lN b / 2 = lN (b / 2) from pk_lDiv (b := 2) hb (by omega) (by omega)]
        exact pd_halfE n (a / 2) (b / 2) (by omega) (by omega)
    · have ne : ¬ lg_cmp (lN (a % 2)) 0 = 0 := fun q => e ((pk_lEQ (b := 0) (by omega) (by omega)).mp ((lg_cmp_eq _ _).mp q))
      rw [if_pos ne, if_pos e]
/-! sums -/
def pd_s (n : Nat) : Nat → Nat
  | 0 => 0
  | m + 1 => pd_s n m + m * pd_w n m
theorem pd_sum : ∀ n, n < 11 → pd_s n 17 = 16 * (16 ^ n - 15 ^ n) := by decide +kernel
theorem pd_fit : ∀ n, n < 11 → ∀ k, k < 17 → pd_w n k < 2 ^ 63 ∧ pd_half 40 (pd_w n k) (16 ^ n) = (pd_w n k / Nat.gcd (pd_w n k) (16 ^ n), 16 ^ n / Nat.gcd (pd_w n k) (16 ^ n)) := by decide +kernel
theorem pd_fit2 : ∀ n, n < 11 → pd_s n 17 < 2 ^ 63 ∧ pd_half 40 (pd_s n 17) (16 ^ n) = (pd_s n 17 / Nat.gcd (pd_s n 17) (16 ^ n), 16 ^ n / Nat.gcd (pd_s n 17) (16 ^ n)) := by decide +kernel
theorem pd_16 : ∀ n, n < 11 → 0 < 16 ^ n ∧ 16 ^ n < 2 ^ 63 := by decide +kernel
/-! the model -/
def pd_st (w : Nat → Int64) (k : Nat) : Nat → Int64 := fun j => if k ≤ j ∧ j ≤ 16 then (w j * (nI j).toInt64 + (if nI j ≤ 0 then (0 : Int64) else w (j - 1) * ((17 - nI j) : Int32).toInt64)) else w j
theorem pd_st0 {w : Nat → Int64} {n : Nat} (h : pd_R w n) : pd_R (pd_st w 0) (n + 1) := by
  intro j hj
  unfold pd_st pd_w
  rw [if_pos (by omega), h j hj]
  by_cases e : j = 0
  · subst e
    rw [if_pos rfl, if_pos (show nI 0 ≤ 0 from Int32.le_refl _)]
    show lN _ * lN 0 + lN 0 = lN 0
    rw [lN_mul, lN_add, Nat.mul_zero]
  · rw [if_neg e, if_neg (nI_nle (by omega) (by omega)), h (j - 1) (by omega), pd_17b j hj, pd_i64 (by omega), pd_i64 (by omega), lN_mul, lN_mul, lN_add]
theorem ss_mgcd {L : Nat} {hi : Nat → Nat → Int32} {hl : Nat → Nat → Int64} {x1 x2 x3 x4 : Int32} {w5 w7 : Int64} {o : Option Value × pj_H} : ∀ (f x y : Nat) (a13 : Option Value), y ≤ f → x < 2 ^ 63 → y < 2 ^ 63 → 0 < Nat.gcd x y → (∀ v, v = lN (Nat.gcd x y) → (some (.long (if ¬ x4 = 0 then (w5 / v) else (w7 / v))), (pj_SH L, hi, hl)) = o) → pe_E pj_m149 217 [some (.ref 32), some (.int x1), some (.int x2), some (.int x3), some (.int x4), some (.long w5), none, some (.long w7), none, some (.long (lN x)), none, some (.long (lN y)), none, a13, none] [] (pj_SH L, hi, hl) o := by
  intro f
  induction f with
  | zero =>
    intro x y a13 hf hx hy hg K
    rw [show y = 0 by omega] at hg K ⊢
    rw [Nat.gcd_zero_right] at hg K
    have ne : ¬ lN x = 0 := fun q => by
      have := (pk_lEQ (b := 0) hx (by omega)).mp q
      omega
    refine ((pb_mo_fall_217 (fun h => absurd ((lg_cmp_eq (lN 0) 0).mpr rfl) h)).trans ((if_pos ((lg_cmp_eq (lN 0) 0).mpr rfl)).trans (pb_mo_fall_242 (fun _ => ne) (fun _ => ne)))).mpr ?_
    exact K _ rfl
  | succ f ih =>
    intro x y a13 hf hx hy hg K
    by_cases e : y = 0
    · exact ih x y a13 (by omega) hx hy hg K
    · have ne : ¬ lN y = 0 := fun q => e ((pk_lEQ (b := 0) hy (by omega)).mp q)
      have eg : Nat.gcd x y = Nat.gcd y (x % y) := by rw [Nat.gcd_comm x y, Nat.gcd_rec y x, Nat.gcd_comm]
      refine ((pb_mo_fall_217 (fun _ => ne)).trans (if_neg (fun q => ne ((lg_cmp_eq _ _).mp q)))).mpr ?_
      rw [pk_lRem hx (by omega) hy]
      have lt := Nat.mod_lt x (show 0 < y by omega)
      rw [eg] at hg K
      exact ih y (x % y) _ (by omega) hy (by omega) hg K
theorem pd_up0 (hl : Nat → Nat → Int64) (k : Nat) (v : Int64) : pj_uL hl 39 k v = pj_row hl 39 (vp_updL (hl 39) k v) := rfl
def pd_it : Nat → (Nat → Int64) → (Nat → Int64)
  | 0, w => w
  | d + 1, w => pd_it d (pd_st w 0)
def pd_i (w : Nat → Int64) (m : Nat) : Nat → Int64 := fun j => if j < m then (if j = 0 then 1 else 0) else w j
theorem ss_mfall (n k : Nat) (x3 x4 : Int32) (L : Nat) (hi : Nat → Nat → Int32) (hl : Nat → Nat → Int64) (hn : n ≤ 10) (hk : k ≤ 16) (v3 : 0 ≤ x3 ∧ x3 ≤ 1) (v4 : 0 ≤ x4 ∧ x4 ≤ 1) (U : Nat) (hU : U = if ¬ x3 = 1 then pd_w n k else pd_s n 17) : ∃ hl', pe_C pj_m149 [.ref 32, .int (nI n), .int (nI k), .int x3, .int x4] (pj_SH L, hi, hl) (some (.long (if ¬ x4 = 0 then lN (16 ^ n / Nat.gcd U (16 ^ n)) else lN (U / Nat.gcd U (16 ^ n))))) (pj_SH L, hi, hl') := by
  have v1 : 0 ≤ nI n ∧ nI n ≤ 10 := ⟨nI_pos' (by omega), nI_le (b := 10) hn (by omega)⟩
  have v2 : 0 ≤ nI k ∧ nI k ≤ 16 := ⟨nI_pos' (by omega), nI_le (b := 16) hk (by omega)⟩
  have hU63 : U < 2 ^ 63 := by
    rw [hU]
    split
    · exact (pd_fit n (by omega) k (by omega)).1
    · exact (pd_fit2 n (by omega)).1
  obtain ⟨p0, p63⟩ := pd_16 n (by omega)
  have fin : ∀ (w : Nat → Int64) (x7 : Int32) (a8 : Option Value), pd_R w n → pe_E pj_m149 161 [some (.ref 32), some (.int (nI n)), some (.int (nI k)), some (.int x3), some (.int x4), some (.long (lN (16 ^ n))), none, some (.int x7), a8, none, none, none, none, none, none] [] (pj_SH L, hi, pj_row hl 39 w) (some (.long (if ¬ x4 = 0 then lN (16 ^ n / Nat.gcd U (16 ^ n)) else lN (U / Nat.gcd U (16 ^ n)))), (pj_SH L, hi, pj_row hl 39 w)) := by
    intro w x7 a8 hw
    have last : ∀ a9, pe_E pj_m149 209 [some (.ref 32), some (.int (nI n)), some (.int (nI k)), some (.int x3), some (.int x4), some (.long (lN (16 ^ n))), none, some (.long (lN U)), none, a9, none, none, none, none, none] [] (pj_SH L, hi, pj_row hl 39 w) (some (.long (if ¬ x4 = 0 then lN (16 ^ n / Nat.gcd U (16 ^ n)) else lN (U / Nat.gcd U (16 ^ n)))), (pj_SH L, hi, pj_row hl 39 w)) := by
      intro a9
      have g0 : 0 < Nat.gcd U (16 ^ n) := Nat.gcd_pos_of_pos_right _ p0
      have gl : Nat.gcd U (16 ^ n) < 2 ^ 63 := Nat.lt_of_le_of_lt (Nat.le_of_dvd p0 (Nat.gcd_dvd_right _ _)) p63
      refine pb_mo_fall_209.mpr (ss_mgcd (16 ^ n) U (16 ^ n) _ (Nat.le_refl _) hU63 p63 g0 (fun v hv => ?_))
      rw [hv, pk_lDiv p63 g0 gl, pk_lDiv hU63 g0 gl]
    refine (pb_mo_fall_161 (pt_ixN (by omega) (by omega))).mpr ?_
    rw [pt_clamp (by omega), pj_row_at, hw k hk]
    by_cases e : ¬ x3 = 1
    · rw [if_pos e] at hU ⊢
      rw [← hU]
      exact last _
    · rw [if_neg e] at hU ⊢
      have g : ∀ (d m : Nat), m + d = 17 → pe_E pj_m149 180 [some (.ref 32), some (.int (nI n)), some (.int (nI k)), some (.int x3), some (.int x4), some (.long (lN (16 ^ n))), none, some (.long (lN (pd_s n m))), none, some (.int (nI m)), none, none, none, none, none] [] (pj_SH L, hi, pj_row hl 39 w) (some (.long (if ¬ x4 = 0 then lN (16 ^ n / Nat.gcd U (16 ^ n)) else lN (U / Nat.gcd U (16 ^ n)))), (pj_SH L, hi, pj_row hl 39 w)) := by
        intro d
        induction d with
        | zero =>
          intro m hm
          rw [show m = 17 by omega, ← hU]
          exact ((pb_mo_fall_180 (fun h => absurd (Int32.le_refl _) h)).trans (if_pos (Int32.le_refl _))).mpr (last _)
        | succ d ih =>
          intro m hm
          refine ((pb_mo_fall_180 (fun _ => pt_ixN (by omega) (by omega))).trans (if_neg (show ¬ (17 : Int32) ≤ nI m from nI_ge (b := 17) (by omega) (by omega)))).mpr ?_
          rw [pt_clamp (by omega), pj_row_at, hw m (by omega), pd_i64 (by omega), lN_mul, lN_add, nI_1]
          exact ih (m + 1) (by omega)
      exact g 17 0 rfl
  have inn : ∀ (o : Option Value × pj_H) (w5 : Int64) (x7 : Int32) (w : Nat → Int64), (∀ x8, pe_E pj_m149 155 [some (.ref 32), some (.int (nI n)), some (.int (nI k)), some (.int x3), some (.int x4), some (.long w5), none, some (.int x7), some (.int x8), none, none, none, none, none, none] [] (pj_SH L, hi, pj_row hl 39 (pd_st w 0)) o) → ∀ m, m ≤ 17 → pe_E pj_m149 100 [some (.ref 32), some (.int (nI n)), some (.int (nI k)), some (.int x3), some (.int x4), some (.long w5), none, some (.int x7), some (.int (nI m - 1)), none, none, none, none, none, none] [] (pj_SH L, hi, pj_row hl 39 (pd_st w m)) o := by
    intro o w5 x7 w K m
    induction m with
    | zero =>
      intro _
      exact ((pb_mo_fall_100 (fun h => absurd (by decide) h) (fun h => absurd (by decide) h)).trans (if_pos (by decide))).mpr (K _)
    | succ m ih =>
      intro hm
      rw [nI_pred]
      refine ((pb_mo_fall_100 (fun _ => pt_ixN (by omega) (by omega)) (fun _ h => ?_)).trans (if_neg (nI_pos (by omega)))).mpr ?_
      · cases m with
        | zero => exact absurd (Int32.le_refl _) h
        | succ m => rw [nI_pred]; exact pt_ixN (by omega) (by omega)
      rw [pt_clamp (by omega), ← Int32.sub_eq_add_neg, pj_uL_row2]
      have e2 : ∀ j, j ≤ m → pj_row hl 39 (pd_st w (m + 1)) 39 j = w j := fun j hj => by
        rw [pj_row_at]; unfold pd_st; rw [if_neg (by omega)]
      have e3 : (if nI m ≤ 0 then (0 : Int64) else pj_row hl 39 (pd_st w (m + 1)) 39 (nI m - 1).toNatClampNeg * ((17 - nI m) : Int32).toInt64) = (if nI m ≤ 0 then (0 : Int64) else w (m - 1) * ((17 - nI m) : Int32).toInt64) := by
        cases m with
        | zero => rw [if_pos (show nI 0 ≤ 0 from Int32.le_refl _), if_pos (show nI 0 ≤ 0 from Int32.le_refl _)]
        | succ m => rw [nI_pred, pt_clamp (by omega), e2 m (by omega)]; rfl
      rw [e2 m (by omega), e3]
      have e4 : vp_updL (pd_st w (m + 1)) m (w m * (nI m).toInt64 + (if nI m ≤ 0 then (0 : Int64) else w (m - 1) * ((17 - nI m) : Int32).toInt64)) = pd_st w m := by
        funext j
        by_cases h : j = m
        · subst h
          rw [pk_uLs]
          unfold pd_st
          rw [if_pos (show j ≤ j ∧ j ≤ 16 by omega)]
        · rw [pk_uLn h]
          unfold pd_st
          by_cases h2 : m + 1 ≤ j ∧ j ≤ 16
          · rw [if_pos h2, if_pos (show m ≤ j ∧ j ≤ 16 by omega)]
          · rw [if_neg h2, if_neg (show ¬ (m ≤ j ∧ j ≤ 16) by omega)]
      rw [e4]
      exact ih (by omega)
  have w17 : ∀ w : Nat → Int64, pd_st w 17 = w := by
    intro w
    funext j
    unfold pd_st
    rw [if_neg (by omega)]
  have out : ∀ (d i : Nat) (w : Nat → Int64) (a8 : Option Value), i + d = n → pd_R w i → pe_E pj_m149 82 [some (.ref 32), some (.int (nI n)), some (.int (nI k)), some (.int x3), some (.int x4), some (.long (lN (16 ^ i))), none, some (.int (nI i)), a8, none, none, none, none, none, none] [] (pj_SH L, hi, pj_row hl 39 w) (some (.long (if ¬ x4 = 0 then lN (16 ^ n / Nat.gcd U (16 ^ n)) else lN (U / Nat.gcd U (16 ^ n)))), (pj_SH L, hi, pj_row hl 39 (pd_it d w))) := by
    intro d
    induction d with
    | zero =>
      intro i w a8 hd hw
      rw [show i = n by omega] at hw ⊢
      exact (pb_mo_fall_82.trans (if_pos (Int32.le_refl _))).mpr (fin w _ _ hw)
    | succ d ih =>
      intro i w a8 hd hw
      refine (pb_mo_fall_82.trans (if_neg (nI_ge (by omega) (by omega)))).mpr ?_
      rw [show lN (16 ^ i) * 16 = lN (16 ^ (i + 1)) from lN_mul (16 ^ i) 16]
      have := inn (some (.long (if ¬ x4 = 0 then lN (16 ^ n / Nat.gcd U (16 ^ n)) else lN (U / Nat.gcd U (16 ^ n)))), (pj_SH L, hi, pj_row hl 39 (pd_it d (pd_st w 0)))) (lN (16 ^ (i + 1))) (nI i) w (fun x8 => pb_mo_fall_155.mpr (by
        rw [nI_1]
        exact ih (i + 1) (pd_st w 0) _ (by omega) (pd_st0 hw))) 17 (by omega)
      rw [w17] at this
      exact this
  have ini : ∀ (d m : Nat), m + d = 18 → pe_E pj_m149 49 [some (.ref 32), some (.int (nI n)), some (.int (nI k)), some (.int x3), some (.int x4), some (.long 1), none, some (.int (nI m)), none, none, none, none, none, none, none] [] (pj_SH L, hi, pj_row hl 39 (pd_i (hl 39) m)) (some (.long (if ¬ x4 = 0 then lN (16 ^ n / Nat.gcd U (16 ^ n)) else lN (U / Nat.gcd U (16 ^ n)))), (pj_SH L, hi, pj_row hl 39 (pd_it n (pd_i (hl 39) 18)))) := by
    intro d
    induction d with
    | zero =>
      intro m hm
      rw [show m = 18 by omega]
      refine ((pb_mo_fall_49 (fun h => absurd (Int32.le_refl _) h)).trans ((if_pos (Int32.le_refl _)).trans pb_mo_fall_79)).mpr ?_
      exact out n 0 _ none (by omega) (fun j hj => by
        unfold pd_i pd_w
        rw [if_pos (show j < 18 by omega)]
        split <;> rfl)
    | succ d ih =>
      intro m hm
      refine ((pb_mo_fall_49 (fun _ => pt_ixN (by omega) (by omega))).trans (if_neg (show ¬ (18 : Int32) ≤ nI m from nI_ge (b := 18) (by omega) (by omega)))).mpr ?_
      rw [pt_clamp (by omega), nI_1, pj_uL_row2]
      have e : vp_updL (pd_i (hl 39) m) m (if ¬ nI m = 0 then (0 : Int64) else (1 : Int64)) = pd_i (hl 39) (m + 1) := by
        funext j
        by_cases h : j = m
        · subst h
          rw [pk_uLs]
          unfold pd_i
          rw [if_pos (show j < j + 1 by omega)]
          by_cases z : j = 0
          · subst z
            rfl
          · rw [if_pos (show ¬ nI j = 0 from nI_ne0 (by omega) (by omega)), if_neg z]
        · rw [pk_uLn h]
          unfold pd_i
          by_cases h2 : j < m
          · rw [if_pos h2, if_pos (show j < m + 1 by omega)]
          · rw [if_neg h2, if_neg (show ¬ j < m + 1 by omega)]
      rw [e]
      exact ih (m + 1) (by omega)
  refine ⟨pj_row hl 39 (pd_it n (pd_i (hl 39) 18)), (pb_mo_fall_0.trans ((if_neg (not_not_intro v1)).trans ((if_neg (not_not_intro v2)).trans ((if_neg (not_not_intro v3)).trans (if_pos v4))))).mpr ?_⟩
  have := ini 18 0 rfl
  rw [show pd_i (hl 39) 0 = hl 39 from by funext j; unfold pd_i; rw [if_neg (by omega)], pj_row_self] at this
  exact this
theorem pr_okL {R : (Nat → Nat → Int32) → (Nat → Nat → Int64) → Prop} {L : Nat} {y1 y2 : pj_M} {as : List Value} {hi hi1 hi2 : Nat → Nat → Int32} {hl hl1 hl2 : Nat → Nat → Int64} {v v2 : Int64} (c1 : pe_C y1 (.ref 1 :: as) (pj_SH L, hi, hl) (some (.long v)) (pj_SH L, hi1, hl1)) (c2 : pe_C y2 (.ref 32 :: as) (pj_SH L, hi1, hl1) (some (.long v2)) (pj_SH L, hi2, hl2)) (e : v2 = v) (r : R hi2 hl2) (z1 : hi1 0 = hi 0) (z2 : hi2 0 = hi 0) : ∃ (v : Int64) (hi1 : Nat → Nat → Int32) (hl1 : Nat → Nat → Int64) (hi2 : Nat → Nat → Int32) (hl2 : Nat → Nat → Int64), pe_C y1 (.ref 1 :: as) (pj_SH L, hi, hl) (some (.long v)) (pj_SH L, hi1, hl1) ∧ pe_C y2 (.ref 32 :: as) (pj_SH L, hi1, hl1) (some (.long v)) (pj_SH L, hi2, hl2) ∧ R hi2 hl2 ∧ hi1 0 = hi 0 ∧ hi2 0 = hi 0 := by
  subst e
  exact ⟨_, _, _, _, _, c1, c2, r, z1, z2⟩
theorem pk_fall {L : Nat} (a b c d : Int32) : pr_OKL pr_R L pj_m89 pj_m149 [.int a, .int b, .int c, .int d] := by
  intro hi hl R
  have C1 := sa_sw_fall a b c d L hi hl
  unfold pf_sw_fall at C1
  by_cases v1 : 0 ≤ a ∧ a ≤ 10
  case neg =>
    rw [if_pos v1] at C1
    exact pr_okL C1 ((pb_mo_fall_0.trans (if_pos v1)).mpr rfl) rfl R rfl rfl
  rw [if_neg (not_not_intro v1)] at C1
  by_cases v2 : 0 ≤ b ∧ b ≤ 16
  case neg =>
    rw [if_pos v2] at C1
    exact pr_okL C1 ((pb_mo_fall_0.trans ((if_neg (not_not_intro v1)).trans (if_pos v2))).mpr rfl) rfl R rfl rfl
  rw [if_neg (not_not_intro v2)] at C1
  by_cases v3 : 0 ≤ c ∧ c ≤ 1
  case neg =>
    rw [if_pos v3] at C1
    exact pr_okL C1 ((pb_mo_fall_0.trans ((if_neg (not_not_intro v1)).trans ((if_neg (not_not_intro v2)).trans (if_pos v3)))).mpr rfl) rfl R rfl rfl
  rw [if_neg (not_not_intro v3)] at C1
  by_cases v4 : 0 ≤ d ∧ d ≤ 1
  case neg =>
    rw [if_neg v4] at C1
    exact pr_okL C1 ((pb_mo_fall_0.trans ((if_neg (not_not_intro v1)).trans ((if_neg (not_not_intro v2)).trans ((if_neg (not_not_intro v3)).trans (if_neg v4))))).mpr rfl) rfl R rfl rfl
  rw [if_pos v4] at C1
  obtain ⟨n, hn, rfl⟩ := pt_of v1 (show (10 : Int32).toInt = (10 : Nat) by decide)
  obtain ⟨k, hk, rfl⟩ := pt_of v2 (show (16 : Int32).toInt = (16 : Nat) by decide)
  obtain ⟨hl', C2⟩ := ss_mfall n k c d L hi _ hn hk v3 v4 _ rfl
  refine pr_okL C1 C2 ?_ R rfl rfl
  obtain ⟨p0, p63⟩ := pd_16 n (by omega)
  have e16 : pf_pow (16 : Int32).toInt64 (nI n).toInt.toNat 1 = lN (16 ^ n) := by
    rw [pt_nI (by omega), Int.toNat_natCast]
    have := pd_pow 16 n 1
    rw [Nat.one_mul] at this
    exact this
  have e15 : pf_pow (15 : Int32).toInt64 (nI n).toInt.toNat 1 = lN (15 ^ n) := by
    rw [pt_nI (by omega), Int.toNat_natCast]
    have := pd_pow 15 n 1
    rw [Nat.one_mul] at this
    exact this
  have eU : (if ¬ c = 0 then (pf_fa_hitsInAllWays (nI n)) else (if nI k < 0 then (0 : Int64) else (if (16 : Int32) < nI k then (0 : Int64) else (pf_wit (nI n).toInt.toNat (pf_w0 (hl 31)) (nI k).toNatClampNeg)))) = lN (if ¬ c = 1 then pd_w n k else pd_s n 17) := by
    obtain ⟨q, hq, rfl⟩ := pt_of v3 (show (1 : Int32).toInt = (1 : Nat) by decide)
    rcases (show q = 0 ∨ q = 1 by omega) with rfl | rfl
    · rw [if_neg (show ¬ ¬ nI 0 = 0 by decide), if_pos (show ¬ nI 0 = 1 by decide), if_neg (show ¬ nI k < 0 from nI_pos (by omega)), if_neg (show ¬ (16 : Int32) < nI k from nI_nlt (a := 16) (b := k) (by omega) (by omega)), pt_clamp (by omega), pt_nI (by omega), Int.toNat_natCast]
      have := pd_wit (w := hl 31) n 0 _ (pd_w0 (hl 31)) k hk
      rw [Nat.zero_add] at this
      exact this
    · rw [if_pos (show ¬ nI 1 = 0 by decide), if_neg (show ¬ ¬ nI 1 = 1 by decide), pd_sum n (by omega)]
      unfold pf_fa_hitsInAllWays
      rw [e16, e15, lN_sub (Nat.pow_le_pow_left (by omega) n)]
      exact lN_mul 16 _
  rw [eU, e16]
  have hfit : (if ¬ c = 1 then pd_w n k else pd_s n 17) < 2 ^ 63 ∧ pd_half 40 (if ¬ c = 1 then pd_w n k else pd_s n 17) (16 ^ n) = ((if ¬ c = 1 then pd_w n k else pd_s n 17) / Nat.gcd (if ¬ c = 1 then pd_w n k else pd_s n 17) (16 ^ n), 16 ^ n / Nat.gcd (if ¬ c = 1 then pd_w n k else pd_s n 17) (16 ^ n)) := by
    by_cases e : ¬ c = 1
    · rw [if_pos e]; exact pd_fit n (by omega) k (by omega)
    · rw [if_neg e]; exact pd_fit2 n (by omega)
  rw [pd_halfE 40 _ _ hfit.1 p63, hfit.2]
