/-! ===== walls as numbers: some bits a cell ===== -/
def po_b (x : Int64) (i : Nat) : Bool := x.toBitVec.getLsbD i
theorem po_ext {x y : Int64} (h : ∀ i, i < 64 → po_b x i = po_b y i) : x = y := Int64.toBitVec_inj.mp (BitVec.eq_of_getLsbD_eq (fun i hi => h i hi))
theorem po_bor (x y : Int64) (i : Nat) : po_b (x ||| y) i = (po_b x i || po_b y i) := by unfold po_b; rw [Int64.toBitVec_or, BitVec.getLsbD_or]
theorem po_band (x y : Int64) (i : Nat) : po_b (x &&& y) i = (po_b x i && po_b y i) := by unfold po_b; rw [Int64.toBitVec_and, BitVec.getLsbD_and]
theorem po_bxor (x y : Int64) (i : Nat) : po_b (x ^^^ y) i = (po_b x i ^^ po_b y i) := by unfold po_b; rw [Int64.toBitVec_xor, BitVec.getLsbD_xor]
theorem po_m1 : ∀ i, i < 64 → po_b (-1) i = true := by decide +kernel
theorem po_bnot (x : Int64) {i : Nat} (hi : i < 64) : po_b (x ^^^ (-1)) i = !po_b x i := by rw [po_bxor, po_m1 i hi, Bool.xor_true]
theorem po_bn (n : Nat) {i : Nat} (hi : i < 64) : po_b (lN n) i = n.testBit i := by
  unfold po_b
  rw [wb_tb, BitVec.getLsbD_ofNat, decide_eq_true hi, Bool.true_and]
theorem po_lN {a b : Nat} (ha : a < 2 ^ 64) (hb : b < 2 ^ 64) (h : lN a = lN b) : a = b := by
  rw [← wb_tn ha, ← wb_tn hb, h]
/-- numbers below 2 ^ s, side by side -/
def po_e (s : Nat) (f : Nat → Nat) : Nat → Nat
  | 0 => 0
  | n + 1 => 2 ^ (s * n) * f n + po_e s f n
theorem po_elt {s : Nat} {f : Nat → Nat} : ∀ n, (∀ i, i < n → f i < 2 ^ s) → po_e s f n < 2 ^ (s * n)
  | 0, _ => Nat.two_pow_pos _
  | n + 1, h => by
    have ih := po_elt n (fun i hi => h i (by omega))
    have hn := h n (by omega)
    show 2 ^ (s * n) * f n + po_e s f n < 2 ^ (s * (n + 1))
    rw [Nat.mul_add s, Nat.mul_one, Nat.pow_add]
    have : 2 ^ (s * n) * (f n + 1) ≤ 2 ^ (s * n) * 2 ^ s := Nat.mul_le_mul_left _ hn
    rw [Nat.mul_add, Nat.mul_one] at this
    omega
theorem po_et {s : Nat} {f : Nat → Nat} : ∀ n, (∀ i, i < n → f i < 2 ^ s) → ∀ i, i < n → ∀ b, b < s → (po_e s f n).testBit (s * i + b) = (f i).testBit b
  | 0, _, i, hi, _, _ => by omega
  | n + 1, h, i, hi, b, hb => by
    have h' : ∀ i, i < n → f i < 2 ^ s := fun i hi => h i (by omega)
    have lt := po_elt n h'
    show (2 ^ (s * n) * f n + po_e s f n).testBit (s * i + b) = _
    rw [Nat.testBit_two_pow_mul_add _ lt]
    by_cases e : i = n
    · subst e
      rw [if_neg (by omega), show s * i + b - s * i = b by omega]
    · have : s * (i + 1) ≤ s * n := Nat.mul_le_mul_left _ (by omega)
      rw [Nat.mul_add, Nat.mul_one] at this
      rw [if_pos (by omega)]
      exact po_et n h' i (by omega) b hb
theorem po_eh {s : Nat} {f : Nat → Nat} {n : Nat} (h : ∀ i, i < n → f i < 2 ^ s) {k : Nat} (hk : s * n ≤ k) : (po_e s f n).testBit k = false := Nat.testBit_lt_two_pow (Nat.lt_of_lt_of_le (po_elt n h) (Nat.pow_le_pow_right (by decide) hk))
theorem po_inj {s : Nat} {f g : Nat → Nat} : ∀ n, (∀ i, i < n → f i < 2 ^ s) → (∀ i, i < n → g i < 2 ^ s) → po_e s f n = po_e s g n → ∀ i, i < n → f i = g i
  | 0, _, _, _, i, hi => by omega
  | n + 1, hf, hg, e, i, hi => by
    have lf := po_elt (f := f) n (fun i hi => hf i (by omega))
    have lg := po_elt (f := g) n (fun i hi => hg i (by omega))
    have e : 2 ^ (s * n) * f n + po_e s f n = 2 ^ (s * n) * g n + po_e s g n := e
    have p := Nat.two_pow_pos (s * n)
    have a : (2 ^ (s * n) * f n + po_e s f n) / 2 ^ (s * n) = f n := by rw [Nat.mul_add_div p, Nat.div_eq_of_lt lf, Nat.add_zero]
    have b : (2 ^ (s * n) * g n + po_e s g n) / 2 ^ (s * n) = g n := by rw [Nat.mul_add_div p, Nat.div_eq_of_lt lg, Nat.add_zero]
    have e1 : f n = g n := a.symm.trans ((congrArg (· / 2 ^ (s * n)) e).trans b)
    by_cases q : i = n
    · subst q; exact e1
    · rw [e1] at e
      exact po_inj n (fun i hi => hf i (by omega)) (fun i hi => hg i (by omega)) (by omega) i (by omega)
theorem po_ec {s : Nat} {f g : Nat → Nat} : ∀ n, (∀ i, i < n → f i = g i) → po_e s f n = po_e s g n
  | 0, _ => rfl
  | n + 1, h => by
    unfold po_e
    rw [h n (by omega), po_ec n (fun i hi => h i (by omega))]
theorem po_em (s m : Nat) (f : Nat → Nat) : ∀ n, m * po_e s f n = po_e s (fun i => m * f i) n
  | 0 => rfl
  | n + 1 => by
    unfold po_e
    rw [Nat.mul_add, po_em s m f n, Nat.mul_left_comm]
theorem po_e0 {s : Nat} {f : Nat → Nat} : ∀ n, (∀ i, i < n → f i = 0) → po_e s f n = 0
  | 0, _ => rfl
  | n + 1, h => by
    unfold po_e
    rw [h n (by omega), po_e0 n (fun i hi => h i (by omega)), Nat.mul_zero]
theorem po_one (s c v : Nat) : ∀ n, c < n → po_e s (fun i => if i = c then v else 0) n = v * 2 ^ (s * c)
  | 0, h => by omega
  | n + 1, h => by
    unfold po_e
    by_cases e : n = c
    · subst e
      rw [if_pos rfl, po_e0 n (fun i hi => if_neg (by omega)), Nat.add_zero, Nat.mul_comm]
    · rw [if_neg e, po_one s c v n (by omega), Nat.mul_zero, Nat.zero_add]
theorem po_e64 {s : Nat} {f : Nat → Nat} {n : Nat} (h : ∀ i, i < n → f i < 2 ^ s) (hs : s * n ≤ 64) : po_e s f n < 2 ^ 64 := Nat.lt_of_lt_of_le (po_elt n h) (Nat.pow_le_pow_right (by decide) hs)
theorem po_eor {s : Nat} {f : Nat → Nat} (n : Nat) (h : ∀ i, i < n + 1 → f i < 2 ^ s) (hs : s * (n + 1) ≤ 64) : lN (po_e s f n) ||| lN (f n * 2 ^ (s * n)) = lN (po_e s f (n + 1)) := by
  have l1 := po_e64 h hs
  have l0 := po_elt n (fun i hi => h i (by omega))
  have e : po_e s f (n + 1) = 2 ^ (s * n) * f n + po_e s f n := rfl
  rw [e] at l1
  rw [wb_or (by omega) (by rw [Nat.mul_comm]; omega), e, Nat.two_pow_add_eq_or_of_lt l0, Nat.or_comm, Nat.mul_comm]
theorem po_kb {s k : Nat} (hs : 0 < s) (q : k < s * 16) : ∃ i b, i < 16 ∧ b < s ∧ k = s * i + b := ⟨k / s, k % s, Nat.div_lt_of_lt_mul q, Nat.mod_lt k hs, (Nat.div_add_mod k s).symm⟩
theorem po_aon {s : Nat} (hs : 0 < s) {f a d g : Nat → Nat} (hf : ∀ i, i < 16 → f i < 2 ^ s) (ha : ∀ i, i < 16 → a i < 2 ^ s) (hd : ∀ i, i < 16 → d i < 2 ^ s) (hg : ∀ i, i < 16 → g i < 2 ^ s) (H : ∀ i, i < 16 → ∀ b, b < s → (g i).testBit b = (((f i).testBit b && !(a i).testBit b) || (d i).testBit b)) : (lN (po_e s f 16) &&& (lN (po_e s a 16) ^^^ (-1))) ||| lN (po_e s d 16) = lN (po_e s g 16) := by
  refine po_ext (fun k hk => ?_)
  rw [po_bor, po_band, po_bnot _ hk, po_bn (po_e s f 16) hk, po_bn (po_e s a 16) hk, po_bn (po_e s d 16) hk, po_bn (po_e s g 16) hk]
  by_cases q : k < s * 16
  · obtain ⟨i, b, hi, hb, rfl⟩ := po_kb hs q
    rw [po_et 16 hf i hi b hb, po_et 16 ha i hi b hb, po_et 16 hd i hi b hb, po_et 16 hg i hi b hb]
    exact (H i hi b hb).symm
  · rw [po_eh hf (by omega), po_eh ha (by omega), po_eh hd (by omega), po_eh hg (by omega)]
    rfl
theorem po_or {s : Nat} (hs : 0 < s) {f d g : Nat → Nat} (hf : ∀ i, i < 16 → f i < 2 ^ s) (hd : ∀ i, i < 16 → d i < 2 ^ s) (hg : ∀ i, i < 16 → g i < 2 ^ s) (H : ∀ i, i < 16 → ∀ b, b < s → (g i).testBit b = ((f i).testBit b || (d i).testBit b)) : lN (po_e s f 16) ||| lN (po_e s d 16) = lN (po_e s g 16) := by
  refine po_ext (fun k hk => ?_)
  rw [po_bor, po_bn (po_e s f 16) hk, po_bn (po_e s d 16) hk, po_bn (po_e s g 16) hk]
  by_cases q : k < s * 16
  · obtain ⟨i, b, hi, hb, rfl⟩ := po_kb hs q
    rw [po_et 16 hf i hi b hb, po_et 16 hd i hi b hb, po_et 16 hg i hi b hb]
    exact (H i hi b hb).symm
  · rw [po_eh hf (by omega), po_eh hd (by omega), po_eh hg (by omega)]
    rfl
/-! the class: four bits -/
def po_t (x : Int32) (i : Nat) : Nat := if bt x i = true then 1 else 0
theorem po_tl (x : Int32) (i : Nat) : po_t x i ≤ 1 := by unfold po_t; split <;> omega
theorem po_sp (x : Int32) : ∀ n, n ≤ 16 → pf_sp x n = lN (po_e 4 (po_t x) n)
  | 0, _ => rfl
  | n + 1, hn => by
    unfold pf_sp
    rw [po_sp x n (by omega), pq_at x (by omega)]
    have e : (if bt x n = true then (1 : Int32) else 0).toInt64 = lN (po_t x n) := by
      unfold po_t
      split <;> decide
    rw [e, show (4 : Int32) * nI n = nI (4 * n) from pt_nmul 4 n, wb_shl _ (by omega)]
    exact po_eor n (fun i _ => by have := po_tl x i; omega) (by omega)
/-- the colour of a cell behind an order of some cards, the last of them the lowest figure -/
def po_g (B : Nat → Int32) : Nat → Nat → Nat → Nat
  | 0, _, _ => 0
  | m + 1, code, i => if bt (B (code % 5)) i = true then code % 5 + 1 else po_g B m (code / 5) i
theorem po_gl (B : Nat → Int32) : ∀ m code i, po_g B m code i ≤ 5
  | 0, _, _ => by unfold po_g; omega
  | m + 1, code, i => by
    unfold po_g
    split
    · omega
    · exact po_gl B m (code / 5) i
def po_w4 (B : Nat → Int32) (m code : Nat) : Int64 := lN (po_e 4 (po_g B m code) 16)
def po_w3 (B : Nat → Int32) (m code : Nat) : Int64 := lN (po_e 3 (po_g B m code) 16)
theorem po_15 : ∀ b, b < 4 → (15 * 1).testBit b = true := by decide
theorem po_s4 (B : Nat → Int32) (m code : Nat) {c : Nat} (hc : c < 5) : (po_w4 B m code &&& ((15 * pf_sp (B c) 16) ^^^ (-1))) ||| ((nI c + 1).toInt64 * pf_sp (B c) 16) = po_w4 B (m + 1) (5 * code + c) := by
  unfold po_w4
  rw [po_sp _ 16 (Nat.le_refl _), nI_1, nI_l (by omega), show (15 : Int64) = lN 15 from rfl, lN_mul, lN_mul, po_em, po_em]
  have eg : ∀ i, po_g B (m + 1) (5 * code + c) i = if bt (B c) i = true then c + 1 else po_g B m code i := fun i => by
    show (if bt (B ((5 * code + c) % 5)) i = true then (5 * code + c) % 5 + 1 else po_g B m ((5 * code + c) / 5) i) = _
    rw [show (5 * code + c) % 5 = c by omega, show (5 * code + c) / 5 = code by omega]
  refine po_aon (by decide) (fun i _ => by have := po_gl B m code i; omega) (fun i _ => by have := po_tl (B c) i; omega) (fun i _ => ?_) (fun i _ => by have := po_gl B (m + 1) (5 * code + c) i; omega) (fun i _ b hb => ?_)
  · unfold po_t
    split <;> omega
  · rw [eg i]
    unfold po_t
    by_cases q : bt (B c) i = true
    · rw [if_pos q, if_pos q, po_15 b hb, Nat.mul_one, Bool.not_true, Bool.and_false, Bool.false_or]
    · rw [if_neg q, if_neg q, Nat.mul_zero, Nat.mul_zero, Nat.zero_testBit, Bool.not_false, Bool.and_true, Bool.or_false]
theorem po_woc {f m : Nat → Int32} {col : Nat → Nat} (hf : ∀ k, k < 7 → f k = pf_ones m (nI k) 16) (hc : ∀ i, i < 16 → col i < 7 ∧ m i = nI (col i)) : ∀ n, n ≤ 6 → pf_woc f n = lN (po_e 4 (fun i => if col i ≤ n then col i else 0) 16)
  | 0, _ => by
    rw [po_e0 16 (fun i _ => by by_cases q : col i ≤ 0; rw [if_pos q]; omega; rw [if_neg q])]
    rfl
  | n + 1, hn => by
    unfold pf_woc
    rw [po_woc hf hc n (by omega), pf_celN (by omega), hf (n + 1) (by omega), po_sp _ 16 (Nat.le_refl _), nI_l (by omega), lN_mul, po_em]
    have bte : ∀ i, i < 16 → (bt (pf_ones m (nI (n + 1)) 16) i = true ↔ col i = n + 1) := fun i hi => by
      obtain ⟨h1, h2⟩ := hc i hi
      rw [pq_onesb m _ hi, h2, nI_eq (by omega) (by omega)]
    refine po_or (by decide) (fun i hi => ?_) (fun i hi => ?_) (fun i hi => ?_) (fun i hi b hb => ?_)
    · have := (hc i hi).1
      split <;> omega
    · unfold po_t
      split <;> omega
    · have := (hc i hi).1
      split <;> omega
    · have e := bte i hi
      unfold po_t
      by_cases q : col i = n + 1
      · rw [if_pos (e.mpr q), if_neg (show ¬ col i ≤ n by omega), if_pos (show col i ≤ n + 1 by omega), Nat.zero_testBit, Bool.false_or, Nat.mul_one, q]
      · rw [if_neg (fun z => q (e.mp z)), Nat.mul_zero, Nat.zero_testBit, Bool.or_false]
        by_cases z : col i ≤ n
        · rw [if_pos z, if_pos (by omega)]
        · rw [if_neg z, if_neg (by omega)]
theorem po_tgt {f m : Nat → Int32} {col : Nat → Nat} (hf : ∀ k, k < 7 → f k = pf_ones m (nI k) 16) (hc : ∀ i, i < 16 → col i < 7 ∧ m i = nI (col i)) : pf_woc f 6 = lN (po_e 4 col 16) := by
  rw [po_woc hf hc 6 (by omega), po_ec 16 (fun i hi => if_pos (by have := (hc i hi).1; omega))]
/-! the model: three bits -/
theorem po_7 : ∀ b, b < 3 → (7 : Nat).testBit b = true := by decide
theorem po_s3 {f : Nat → Nat} (hf : ∀ i, i < 16 → f i < 2 ^ 3) {v c : Nat} (hv : v < 2 ^ 3) (hc : c < 16) : (lN (po_e 3 f 16) &&& ((7 <<< (((3 * nI c) : Int32).toInt64 &&& 63)) ^^^ (-1))) ||| (lN v <<< (((3 * nI c) : Int32).toInt64 &&& 63)) = lN (po_e 3 (fun i => if i = c then v else f i) 16) := by
  rw [show (3 : Int32) * nI c = nI (3 * c) from pt_nmul 3 c, show (7 : Int64) = lN 7 from rfl, wb_shl _ (by omega), wb_shl _ (by omega), ← po_one 3 c 7 16 hc, ← po_one 3 c v 16 hc]
  refine po_aon (by decide) hf (fun i _ => ?_) (fun i _ => ?_) (fun i hi => ?_) (fun i hi b hb => ?_)
  · split <;> omega
  · split <;> omega
  · have := hf i hi
    split <;> omega
  · by_cases q : i = c
    · rw [if_pos q, if_pos q, if_pos q, po_7 b hb, Bool.not_true, Bool.and_false, Bool.false_or]
    · rw [if_neg q, if_neg q, if_neg q, Nat.zero_testBit, Bool.not_false, Bool.and_true, Bool.or_false]
/-! alike in both -/
theorem po_w43 (B : Nat → Int32) (m code m' code' : Nat) : po_w4 B m code = po_w4 B m' code' ↔ po_w3 B m code = po_w3 B m' code' := by
  have b4 : ∀ m code i, i < 16 → po_g B m code i < 2 ^ 4 := fun m code i _ => by have := po_gl B m code i; omega
  have b3 : ∀ m code i, i < 16 → po_g B m code i < 2 ^ 3 := fun m code i _ => by have := po_gl B m code i; omega
  constructor
  · intro h
    have := po_inj 16 (b4 m code) (b4 m' code') (po_lN (po_e64 (b4 _ _) (by decide)) (po_e64 (b4 _ _) (by decide)) h)
    unfold po_w3
    rw [po_ec 16 this]
  · intro h
    have := po_inj 16 (b3 m code) (b3 m' code') (po_lN (po_e64 (b3 _ _) (by decide)) (po_e64 (b3 _ _) (by decide)) h)
    unfold po_w4
    rw [po_ec 16 this]
theorem po_t43 (B : Nat → Int32) (m code : Nat) {col : Nat → Nat} (hc : ∀ i, i < 16 → col i < 7) : po_w4 B m code = lN (po_e 4 col 16) ↔ po_w3 B m code = lN (po_e 3 col 16) := by
  have b4 : ∀ i, i < 16 → po_g B m code i < 2 ^ 4 := fun i _ => by have := po_gl B m code i; omega
  have b3 : ∀ i, i < 16 → po_g B m code i < 2 ^ 3 := fun i _ => by have := po_gl B m code i; omega
  have c4 : ∀ i, i < 16 → col i < 2 ^ 4 := fun i hi => by have := hc i hi; omega
  have c3 : ∀ i, i < 16 → col i < 2 ^ 3 := fun i hi => by have := hc i hi; omega
  constructor
  · intro h
    have := po_inj 16 b4 c4 (po_lN (po_e64 b4 (by decide)) (po_e64 c4 (by decide)) h)
    unfold po_w3
    rw [po_ec 16 this]
  · intro h
    have := po_inj 16 b3 c3 (po_lN (po_e64 b3 (by decide)) (po_e64 c3 (by decide)) h)
    unfold po_w4
    rw [po_ec 16 this]
theorem po_w4n (B : Nat → Int32) (m code : Nat) : ¬ po_w4 B m code = -1 := by
  intro h
  have e : po_b (po_w4 B m code) 63 = true := by rw [h]; exact po_m1 63 (by decide)
  unfold po_w4 at e
  rw [po_bn _ (by decide), show 63 = 4 * 15 + 3 from rfl, po_et 16 (fun i _ => by have := po_gl B m code i; omega) 15 (by decide) 3 (by decide), Nat.testBit_lt_two_pow (by have := po_gl B m code 15; omega)] at e
  cases e
theorem po_nn {f : Nat → Nat} (h : ∀ i, i < 16 → f i < 2 ^ 3) : ¬ lg_cmp (lN (po_e 3 f 16)) 0 < 0 := by
  have l := po_elt 16 h
  have : (0 : Int64) ≤ lN (po_e 3 f 16) := (pk_lLE (a := 0) (by decide) (by omega)).mpr (Nat.zero_le _)
  exact fun q => absurd this (Int64.not_le.mpr ((lg_cmp_lt _ _).mp q))
theorem po_w3n (B : Nat → Int32) (m code : Nat) : ¬ lg_cmp (po_w3 B m code) 0 < 0 := po_nn (fun i _ => by have := po_gl B m code i; omega)
theorem po_neg : lg_cmp (-1) 0 < 0 := by decide
theorem po_ne1 {f : Nat → Nat} (h : ∀ i, i < 16 → f i < 2 ^ 3) : ¬ (-1 : Int64) = lN (po_e 3 f 16) := fun q => by
  have := po_nn h
  rw [← q] at this
  exact this po_neg
