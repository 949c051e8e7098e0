/-! ===== bits: families of the kit, and what the sets of cells need ===== -/
/-! ===== Int32 by its bits: bt x i ===== -/
def bt (x : Int32) (i : Nat) : Bool := x.toBitVec.getLsbD i
theorem b_ext {x y : Int32} (h : ∀ i, i < 32 → bt x i = bt y i) : x = y := Int32.toBitVec_inj.mp (BitVec.eq_of_getLsbD_eq (fun i hi => h i hi))
theorem b_or (x y : Int32) (i : Nat) : bt (x ||| y) i = (bt x i || bt y i) := by unfold bt; rw [Int32.toBitVec_or, BitVec.getLsbD_or]
theorem b_and (x y : Int32) (i : Nat) : bt (x &&& y) i = (bt x i && bt y i) := by unfold bt; rw [Int32.toBitVec_and, BitVec.getLsbD_and]
theorem b_xor (x y : Int32) (i : Nat) : bt (x ^^^ y) i = (bt x i ^^ bt y i) := by unfold bt; rw [Int32.toBitVec_xor, BitVec.getLsbD_xor]
theorem b_big {x : Int32} {i : Nat} (h : 32 ≤ i) : bt x i = false := BitVec.getLsbD_of_ge _ _ h
theorem b_255 (i : Nat) : bt 255 i = decide (i < 8) := by
  rcases Nat.lt_or_ge i 32 with h | h
  · exact (by decide +kernel : ∀ i, i < 32 → bt 255 i = decide (i < 8)) i h
  · rw [b_big h, decide_eq_false (by omega)]
theorem b_65535 (i : Nat) : bt 65535 i = decide (i < 16) := by
  rcases Nat.lt_or_ge i 32 with h | h
  · exact (by decide +kernel : ∀ i, i < 32 → bt 65535 i = decide (i < 16)) i h
  · rw [b_big h, decide_eq_false (by omega)]
theorem b_m1 : ∀ i, i < 32 → bt (-1) i = true := by decide +kernel
theorem b_0 (i : Nat) : bt 0 i = false := BitVec.getLsbD_zero
theorem s_l : ∀ n, n < 32 → ((nI n &&& 31).toBitVec.smod 32).toNat = n := by decide +kernel
theorem s_u : ∀ n, n < 32 → (((nI n).toUInt32 &&& Int32.toUInt32 31).toBitVec % 32).toNat = n := by decide +kernel
theorem b_shl (n : Nat) (hn : n < 32) (x : Int32) {i : Nat} (hi : i < 32) : bt (x <<< (nI n &&& 31)) i = (decide (n ≤ i) && bt x (i - n)) := by
  unfold bt
  rw [Int32.toBitVec_shiftLeft]
  show (x.toBitVec <<< ((nI n &&& 31).toBitVec.smod 32).toNat).getLsbD i = _
  rw [s_l n hn, BitVec.getLsbD_shiftLeft]
  rcases Nat.lt_or_ge i n with h | h
  · simp [h, Nat.not_le.mpr h]
  · simp [hi, h, Nat.not_lt.mpr h]
theorem b_ushr (n : Nat) (hn : n < 32) (x : Int32) (i : Nat) : bt ((x.toUInt32 >>> ((nI n).toUInt32 &&& Int32.toUInt32 31)).toInt32) i = bt x (n + i) := by
  show (x.toUInt32 >>> ((nI n).toUInt32 &&& Int32.toUInt32 31)).toBitVec.getLsbD i = x.toUInt32.toBitVec.getLsbD (n + i)
  rw [UInt32.toBitVec_shiftRight]
  show (x.toUInt32.toBitVec >>> (((nI n).toUInt32 &&& Int32.toUInt32 31).toBitVec % 32).toNat).getLsbD i = _
  rw [s_u n hn, BitVec.getLsbD_ushiftRight]
theorem b_sshr (n : Nat) (hn : n < 32) (x : Int32) {i : Nat} (hi : i < 32) : bt (x >>> (nI n &&& 31)) i = if n + i < 32 then bt x (n + i) else bt x 31 := by
  unfold bt
  rw [Int32.toBitVec_shiftRight]
  show (x.toBitVec.sshiftRight ((nI n &&& 31).toBitVec.smod 32).toNat).getLsbD i = _
  rw [s_l n hn, BitVec.getLsbD_sshiftRight, BitVec.msb_eq_getLsbD_last]
  simp [hi]
theorem b_shl8 (x : Int32) {i : Nat} (hi : i < 32) : bt (x <<< ((8 : Int32) &&& 31)) i = (decide (8 ≤ i) && bt x (i - 8)) := b_shl 8 (by omega) x hi
theorem b_shl16 (x : Int32) {i : Nat} (hi : i < 32) : bt (x <<< ((16 : Int32) &&& 31)) i = (decide (16 ≤ i) && bt x (i - 16)) := b_shl 16 (by omega) x hi
theorem b_shl24 (x : Int32) {i : Nat} (hi : i < 32) : bt (x <<< ((24 : Int32) &&& 31)) i = (decide (24 ≤ i) && bt x (i - 24)) := b_shl 24 (by omega) x hi
theorem b_sshr8 (x : Int32) {i : Nat} (hi : i < 32) : bt (x >>> ((8 : Int32) &&& 31)) i = if 8 + i < 32 then bt x (8 + i) else bt x 31 := b_sshr 8 (by omega) x hi
/-! ===== nI under and, xor, >>>, one bit, 65535 ===== -/
theorem nx_and (a b : Nat) : nI a &&& nI b = nI (a &&& b) := by
  apply Int32.toBitVec_inj.1
  show BitVec.ofNat 32 a &&& BitVec.ofNat 32 b = BitVec.ofNat 32 (a &&& b)
  apply BitVec.eq_of_getLsbD_eq
  intro i hi
  simp [hi]
theorem nx_xor (a b : Nat) : nI a ^^^ nI b = nI (a ^^^ b) := by
  apply Int32.toBitVec_inj.1
  show BitVec.ofNat 32 a ^^^ BitVec.ofNat 32 b = BitVec.ofNat 32 (a ^^^ b)
  apply BitVec.eq_of_getLsbD_eq
  intro i hi
  simp [hi]
theorem nx_cnt : ∀ j : Fin 32, (UInt32.ofNat j.val &&& Int32.toUInt32 31).toNat % 32 = j.val := by decide +kernel
theorem nx_ush {k j : Nat} (hk : k < 65536) (hj : j < 32) : ((nI k).toUInt32 >>> ((nI j).toUInt32 &&& Int32.toUInt32 31)).toInt32 = nI (k >>> j) := by
  have hs : k >>> j ≤ k := by
    rw [Nat.shiftRight_eq_div_pow]
    exact Nat.div_le_self _ _
  have e2 : UInt32.ofNat k >>> (UInt32.ofNat j &&& Int32.toUInt32 31) = UInt32.ofNat (k >>> j) := by
    apply UInt32.toNat_inj.1
    have h1 : (UInt32.ofNat k).toNat = k := Nat.mod_eq_of_lt (by omega)
    have h2 : (UInt32.ofNat (k >>> j)).toNat = k >>> j := Nat.mod_eq_of_lt (by omega)
    rw [UInt32.toNat_shiftRight, nx_cnt ⟨j, hj⟩, h1, h2]
  show (UInt32.ofNat k >>> (UInt32.ofNat j &&& Int32.toUInt32 31)).toInt32 = _
  rw [e2]
  rfl
theorem nx_bit {k j : Nat} (hk : k < 65536) (hj : j < 16) : (((nI k).toUInt32 >>> ((nI j).toUInt32 &&& Int32.toUInt32 31)).toInt32 &&& 1) = 0 ↔ k.testBit j = false := by
  rw [nx_ush hk (by omega)]
  show nI (k >>> j) &&& nI 1 = 0 ↔ _
  rw [nx_and, Nat.and_one_is_mod, ← nI_0, nI_eq (by omega) (by omega), Nat.testBit_eq_decide_div_mod_eq, Nat.shiftRight_eq_div_pow, decide_eq_false_iff_not]
  generalize k / 2 ^ j = z
  omega
theorem nx_mod (k : Nat) : nI k &&& 65535 = nI (k % 65536) := by
  show nI k &&& nI 65535 = _
  rw [nx_and, show (65535 : Nat) = 2 ^ 16 - 1 from rfl, Nat.and_two_pow_sub_one_eq_mod]
theorem nx_m16 {k : Nat} (h : k < 65536) : nI k &&& 65535 = nI k := by rw [nx_mod, Nat.mod_eq_of_lt h]
theorem nx_mask (x : Int32) : ∃ k, k < 65536 ∧ x &&& 65535 = nI k := by
  have e : x = nI x.toBitVec.toNat := by
    apply Int32.toBitVec_inj.1
    show x.toBitVec = BitVec.ofNat 32 x.toBitVec.toNat
    simp
  refine ⟨x.toBitVec.toNat % 65536, Nat.mod_lt _ (by omega), ?_⟩
  rw [← nx_mod, ← e]
/-! ===== sets of cells as bits ===== -/
theorem pq_ext {x y : Int32} (h : ∀ i, i < 32 → (bt x i = true ↔ bt y i = true)) : x = y := b_ext fun i hi => by
  have := h i hi
  cases h1 : bt x i <;> cases h2 : bt y i <;> simp_all
theorem pq_1 (i : Nat) : bt 1 i = decide (i = 0) := by
  rcases Nat.lt_or_ge i 32 with h | h
  · exact (by decide +kernel : ∀ i, i < 32 → bt 1 i = decide (i = 0)) i h
  · rw [b_big h, decide_eq_false (by omega)]
theorem pq_one {c : Nat} (hc : c < 32) {i : Nat} (hi : i < 32) : bt (1 <<< (nI c &&& 31)) i = decide (i = c) := by
  rw [b_shl c hc 1 hi, pq_1]
  by_cases h : i = c
  · subst h; simp
  · rw [decide_eq_false h]
    by_cases h2 : c ≤ i
    · rw [decide_eq_false (show ¬ i - c = 0 by omega), Bool.and_false]
    · rw [decide_eq_false h2, Bool.false_and]
theorem pq_not (x : Int32) {i : Nat} (hi : i < 32) : bt (x ^^^ (-1)) i = !bt x i := by rw [b_xor, b_m1 i hi, Bool.xor_true]
/-- one bit taken out -/
theorem pq_at (x : Int32) {c : Nat} (hc : c < 32) : ((x >>> (nI c &&& 31)) &&& 1) = if bt x c = true then 1 else 0 := by
  apply b_ext
  intro i hi
  rw [b_and, pq_1, b_sshr c hc x hi]
  by_cases h : i = 0
  · subst h
    rw [Nat.add_zero, if_pos hc]
    cases hb : bt x c <;> simp [pq_1, b_0]
  · rw [decide_eq_false h, Bool.and_false]
    split
    · rw [pq_1, decide_eq_false h]
    · rw [b_0]
theorem pq_has (x : Int32) {c : Nat} (hc : c < 32) : pf_has x (nI c) ↔ bt x c = true := by
  unfold pf_has
  rw [pq_at x hc]
  cases bt x c <;> simp
/-- sets of the sixteen cells -/
def pq_16 (x : Int32) : Prop := ∀ i, 16 ≤ i → bt x i = false
theorem pq_nI (n : Nat) {i : Nat} (hi : i < 32) : bt (nI n) i = n.testBit i := by
  show (BitVec.ofNat 32 n).getLsbD i = _
  rw [BitVec.getLsbD_ofNat]
  simp [hi]
theorem pq_16n {n : Nat} (h : n < 65536) : pq_16 (nI n) := by
  intro i hi
  rcases Nat.lt_or_ge i 32 with h2 | h2
  · rw [pq_nI n h2]
    exact Nat.testBit_lt_two_pow (Nat.lt_of_lt_of_le h (Nat.le_trans (by decide : 65536 ≤ 2 ^ 16) (Nat.pow_le_pow_right (by omega) hi)))
  · exact b_big h2
theorem pq_16m {x : Int32} (h : pq_16 x) : x = x &&& 65535 := by
  apply b_ext
  intro i hi
  rw [b_and, b_65535]
  by_cases h2 : i < 16
  · rw [decide_eq_true h2, Bool.and_true]
  · rw [h i (by omega), Bool.false_and]
theorem pq_16o {x : Int32} (h : pq_16 x) : ∃ n, n < 65536 ∧ x = nI n := by
  obtain ⟨k, hk, e⟩ := nx_mask x
  exact ⟨k, hk, (pq_16m h).trans e⟩
theorem pq_16or {x y : Int32} (hx : pq_16 x) (hy : pq_16 y) : pq_16 (x ||| y) := fun i hi => by rw [b_or, hx i hi, hy i hi]; rfl
theorem pq_16and {x : Int32} (hx : pq_16 x) (y : Int32) : pq_16 (x &&& y) := fun i hi => by rw [b_and, hx i hi]; rfl
theorem pq_16andr {y : Int32} (hy : pq_16 y) (x : Int32) : pq_16 (x &&& y) := fun i hi => by rw [b_and, hy i hi, Bool.and_false]
theorem pq_16one {c : Nat} (hc : c < 16) : pq_16 (1 <<< (nI c &&& 31)) := by
  intro i hi
  rcases Nat.lt_or_ge i 32 with h2 | h2
  · rw [pq_one (by omega) h2, decide_eq_false (by omega)]
  · exact b_big h2
theorem pq_160 : pq_16 0 := fun i _ => b_0 i
theorem pq_ext16 {x y : Int32} (hx : pq_16 x) (hy : pq_16 y) (h : ∀ i, i < 16 → (bt x i = true ↔ bt y i = true)) : x = y := by
  apply pq_ext
  intro i hi
  by_cases h2 : i < 16
  · exact h i h2
  · rw [hx i (by omega), hy i (by omega)]
/-! cells of a colour -/
theorem pq_ones (m : Nat → Int32) (x : Int32) : ∀ n, n ≤ 16 → ∀ i, i < 32 → (bt (pf_ones m x n) i = true ↔ i < n ∧ m i = x)
  | 0, _, i, _ => by
    show bt 0 i = true ↔ _
    rw [b_0]
    simp
  | n + 1, hn, i, hi => by
    unfold pf_ones
    rw [b_or, Bool.or_eq_true, pq_ones m x n (by omega) i hi]
    by_cases h : m n = x
    · rw [if_neg (fun g => g h), pq_one (by omega) hi, decide_eq_true_eq]
      constructor
      · rintro (⟨h1, h2⟩ | h1)
        · exact ⟨by omega, h2⟩
        · subst h1; exact ⟨by omega, h⟩
      · rintro ⟨h1, h2⟩
        by_cases h3 : i = n
        · exact Or.inr h3
        · exact Or.inl ⟨by omega, h2⟩
    · rw [if_pos h, b_0]
      constructor
      · rintro (⟨h1, h2⟩ | h1)
        · exact ⟨by omega, h2⟩
        · cases h1
      · rintro ⟨h1, h2⟩
        by_cases h3 : i = n
        · subst h3; exact absurd h2 h
        · exact Or.inl ⟨by omega, h2⟩
theorem pq_ones16 (m : Nat → Int32) (x : Int32) : pq_16 (pf_ones m x 16) := by
  intro i hi
  rcases Nat.lt_or_ge i 32 with h2 | h2
  · cases hb : bt (pf_ones m x 16) i
    · rfl
    · exact absurd ((pq_ones m x 16 (by omega) i h2).mp hb).1 (by omega)
  · exact b_big h2
theorem pq_onesb (m : Nat → Int32) (x : Int32) {i : Nat} (hi : i < 16) : bt (pf_ones m x 16) i = true ↔ m i = x := by
  rw [pq_ones m x 16 (by omega) i (by omega)]
  exact ⟨fun h => h.2, fun h => ⟨hi, h⟩⟩
/-! a quarter turn: both ways of doing it -/
theorem pq_sh4 : ∀ k, k < 16 → ((((4 * (nI k - nI k / 4 * 4)) + 3) - (nI k / 4)) &&& 31) = (nI (4 * (k % 4) + 3 - k / 4) &&& 31) := by decide +kernel
theorem pq_sh4o : ∀ k, k < 16 → ((((nI k / 4) * 4 + 3) - (nI k - nI k / 4 * 4)) &&& 31) = (nI (k / 4 * 4 + 3 - k % 4) &&& 31) := by decide +kernel
theorem pq_mq (x : Int32) : ∀ n, n ≤ 16 → ∀ i, i < 32 → (bt (pf_mq x n) i = true ↔ ∃ c, c < n ∧ bt x c = true ∧ i = 4 * (c % 4) + 3 - c / 4)
  | 0, _, i, _ => by
    show bt 0 i = true ↔ _
    rw [b_0]
    simp
  | n + 1, hn, i, hi => by
    unfold pf_mq
    rw [b_or, Bool.or_eq_true, pq_mq x n (by omega) i hi]
    have key : (bt (if ¬ (pf_has x (nI n)) then (0 : Int32) else (1 <<< ((((4 * (nI n - nI n / 4 * 4)) + 3) - (nI n / 4)) &&& 31))) i = true) ↔ (bt x n = true ∧ i = 4 * (n % 4) + 3 - n / 4) := by
      by_cases h : pf_has x (nI n)
      · rw [if_neg (fun g => g h), pq_sh4 n (by omega), pq_one (by omega) hi, decide_eq_true_eq]
        exact ⟨fun e => ⟨(pq_has x (by omega)).mp h, e⟩, fun e => e.2⟩
      · rw [if_pos h, b_0]
        exact ⟨fun e => absurd e (by decide), fun e => absurd ((pq_has x (by omega)).mpr e.1) h⟩
    rw [key]
    constructor
    · rintro (⟨c, h1, h2, h3⟩ | ⟨h1, h2⟩)
      · exact ⟨c, by omega, h2, h3⟩
      · exact ⟨n, by omega, h1, h2⟩
    · rintro ⟨c, h1, h2, h3⟩
      by_cases h4 : c = n
      · subst h4; exact Or.inr ⟨h2, h3⟩
      · exact Or.inl ⟨c, by omega, h2, h3⟩
theorem pq_mo (x : Int32) : ∀ n, n ≤ 16 → ∀ i, i < 32 → (bt (pf_mo x n) i = true ↔ ∃ c, c < n ∧ bt x c = true ∧ i = c / 4 * 4 + 3 - c % 4)
  | 0, _, i, _ => by
    show bt 0 i = true ↔ _
    rw [b_0]
    simp
  | n + 1, hn, i, hi => by
    unfold pf_mo
    rw [b_or, Bool.or_eq_true, pq_mo x n (by omega) i hi]
    have key : (bt (if ¬ (pf_has x (nI n)) then (0 : Int32) else (1 <<< (((((nI n / 4) * 4) + 3) - (nI n - nI n / 4 * 4)) &&& 31))) i = true) ↔ (bt x n = true ∧ i = n / 4 * 4 + 3 - n % 4) := by
      by_cases h : pf_has x (nI n)
      · rw [if_neg (fun g => g h), pq_sh4o n (by omega), pq_one (by omega) hi, decide_eq_true_eq]
        exact ⟨fun e => ⟨(pq_has x (by omega)).mp h, e⟩, fun e => e.2⟩
      · rw [if_pos h, b_0]
        exact ⟨fun e => absurd e (by decide), fun e => absurd ((pq_has x (by omega)).mpr e.1) h⟩
    rw [key]
    constructor
    · rintro (⟨c, h1, h2, h3⟩ | ⟨h1, h2⟩)
      · exact ⟨c, by omega, h2, h3⟩
      · exact ⟨n, by omega, h1, h2⟩
    · rintro ⟨c, h1, h2, h3⟩
      by_cases h4 : c = n
      · subst h4; exact Or.inr ⟨h2, h3⟩
      · exact Or.inl ⟨c, by omega, h2, h3⟩
theorem pq_q1a : ∀ r, r < 4 → ∀ p, p < 4 → (((4 * nI r) + nI p) &&& 31) = (nI (4 * r + p) &&& 31) := by decide +kernel
theorem pq_q1b : ∀ r, r < 4 → ∀ p, p < 4 → (((((4 * nI p) + 4) - 1) - nI r) &&& 31) = (nI (4 * p + 3 - r) &&& 31) := by decide +kernel
theorem pq_q1s (x : Int32) {r p : Nat} (hr : r < 4) (hp : p < 4) {i : Nat} (hi : i < 32) : bt (pf_q1s x r p) i = true ↔ bt x (4 * r + p) = true ∧ i = 4 * p + 3 - r := by
  unfold pf_q1s
  rw [pq_q1a r hr p hp, pq_q1b r hr p hp, pq_at x (by omega), b_shl _ (by omega) _ hi]
  cases hb : bt x (4 * r + p)
  · simp [b_0]
  · simp only [if_true, pq_1, Bool.and_eq_true, decide_eq_true_eq, true_and]
    omega
theorem pq_q1r (x : Int32) {r : Nat} (hr : r < 4) (t : Int32) {i : Nat} (hi : i < 32) : ∀ n, n ≤ 4 → (bt (pf_q1r x r t n) i = true ↔ bt t i = true ∨ ∃ p, p < n ∧ bt x (4 * r + p) = true ∧ i = 4 * p + 3 - r)
  | 0, _ => by
    show bt t i = true ↔ _
    simp
  | n + 1, hn => by
    unfold pf_q1r
    rw [b_or, Bool.or_eq_true, pq_q1r x hr t hi n (by omega), pq_q1s x hr (by omega) hi]
    constructor
    · rintro ((h | ⟨p, h1, h2, h3⟩) | ⟨h1, h2⟩)
      · exact Or.inl h
      · exact Or.inr ⟨p, by omega, h2, h3⟩
      · exact Or.inr ⟨n, by omega, h1, h2⟩
    · rintro (h | ⟨p, h1, h2, h3⟩)
      · exact Or.inl (Or.inl h)
      · by_cases h4 : p = n
        · subst h4; exact Or.inr ⟨h2, h3⟩
        · exact Or.inl (Or.inr ⟨p, by omega, h2, h3⟩)
theorem pq_q1t (x : Int32) {i : Nat} (hi : i < 32) : ∀ n, n ≤ 4 → (bt (pf_q1t x n) i = true ↔ ∃ r, r < n ∧ ∃ p, p < 4 ∧ bt x (4 * r + p) = true ∧ i = 4 * p + 3 - r)
  | 0, _ => by
    show bt 0 i = true ↔ _
    rw [b_0]
    simp
  | n + 1, hn => by
    unfold pf_q1t
    rw [pq_q1r x (by omega) _ hi 4 (by omega), pq_q1t x hi n (by omega)]
    constructor
    · rintro (⟨r, h1, h2⟩ | h)
      · exact ⟨r, by omega, h2⟩
      · exact ⟨n, by omega, h⟩
    · rintro ⟨r, h1, h2⟩
      by_cases h4 : r = n
      · subst h4; exact Or.inr h2
      · exact Or.inl ⟨r, by omega, h2⟩
theorem pq_q1 (x : Int32) : pf_q1 x = pf_mq x 16 := by
  apply pq_ext
  intro i hi
  unfold pf_q1
  rw [pq_q1t x hi 4 (by omega), pq_mq x 16 (by omega) i hi]
  constructor
  · rintro ⟨r, h1, p, h2, h3, h4⟩
    refine ⟨4 * r + p, by omega, h3, ?_⟩
    omega
  · rintro ⟨c, h1, h2, h3⟩
    refine ⟨c / 4, by omega, c % 4, by omega, ?_, by omega⟩
    rw [show 4 * (c / 4) + c % 4 = c by omega]
    exact h2
theorem pq_mq16 (x : Int32) : pq_16 (pf_mq x 16) := by
  intro i hi
  rcases Nat.lt_or_ge i 32 with h2 | h2
  · cases hb : bt (pf_mq x 16) i
    · rfl
    · obtain ⟨c, h1, _, h3⟩ := (pq_mq x 16 (by omega) i h2).mp hb
      omega
  · exact b_big h2
theorem pq_mo16 (x : Int32) : pq_16 (pf_mo x 16) := by
  intro i hi
  rcases Nat.lt_or_ge i 32 with h2 | h2
  · cases hb : bt (pf_mo x 16) i
    · rfl
    · obtain ⟨c, h1, _, h3⟩ := (pq_mo x 16 (by omega) i h2).mp hb
      omega
  · exact b_big h2
theorem pq_c1 : ∀ i, i < 32 → bt 4369 i = decide (i < 16 ∧ i % 4 = 0) := by decide +kernel
theorem pq_c8 : ∀ i, i < 32 → bt 34952 i = decide (i < 16 ∧ i % 4 = 3) := by decide +kernel
theorem pq_c2 : ∀ i, i < 32 → bt 8738 i = decide (i < 16 ∧ i % 4 = 1) := by decide +kernel
theorem pq_c4 : ∀ i, i < 32 → bt 17476 i = decide (i < 16 ∧ i % 4 = 2) := by decide +kernel
theorem pq_shl (n : Nat) (hn : n < 32) (x : Int32) {i : Nat} (hi : i < 32) : bt (x <<< (nI n &&& 31)) i = true ↔ n ≤ i ∧ bt x (i - n) = true := by
  rw [b_shl n hn x hi, Bool.and_eq_true, decide_eq_true_eq]
theorem pq_shr {x : Int32} (hx : pq_16 x) (n : Nat) (hn : n < 32) {i : Nat} (hi : i < 32) : bt (x >>> (nI n &&& 31)) i = true ↔ bt x (n + i) = true := by
  rw [b_sshr n hn x hi]
  split
  · rfl
  · rw [hx 31 (by omega), hx (n + i) (by omega)]
theorem pq_ov (x : Int32) : pf_tu_over x = pf_mo x 16 := by
  apply pq_ext
  intro i hi
  have n1 : pq_16 (x &&& 4369) := pq_16andr (fun i hi => by
    rcases Nat.lt_or_ge i 32 with h2 | h2
    · rw [pq_c1 i h2, decide_eq_false (by omega)]
    · exact b_big h2) x
  have n8 : pq_16 (x &&& 34952) := pq_16andr (fun i hi => by
    rcases Nat.lt_or_ge i 32 with h2 | h2
    · rw [pq_c8 i h2, decide_eq_false (by omega)]
    · exact b_big h2) x
  have n4 : pq_16 (x &&& 17476) := pq_16andr (fun i hi => by
    rcases Nat.lt_or_ge i 32 with h2 | h2
    · rw [pq_c4 i h2, decide_eq_false (by omega)]
    · exact b_big h2) x
  rw [pq_mo x 16 (by omega) i hi]
  have e1 : bt ((x &&& 4369) <<< (3 &&& 31)) i = true ↔ 3 ≤ i ∧ bt x (i - 3) = true ∧ i - 3 < 16 ∧ (i - 3) % 4 = 0 := by
    refine (pq_shl 3 (by omega) (x &&& 4369) hi).trans ?_
    rw [b_and, Bool.and_eq_true, pq_c1 _ (by omega), decide_eq_true_eq]
  have e8 : bt ((x &&& 34952) >>> (3 &&& 31)) i = true ↔ bt x (3 + i) = true ∧ 3 + i < 16 ∧ (3 + i) % 4 = 3 := by
    refine (pq_shr n8 3 (by omega) hi).trans ?_
    rw [b_and, Bool.and_eq_true]
    rcases Nat.lt_or_ge (3 + i) 32 with h2 | h2
    · rw [pq_c8 _ h2, decide_eq_true_eq]
    · rw [b_big h2]
      simp
  have e2 : bt ((x &&& 8738) <<< (1 &&& 31)) i = true ↔ 1 ≤ i ∧ bt x (i - 1) = true ∧ i - 1 < 16 ∧ (i - 1) % 4 = 1 := by
    refine (pq_shl 1 (by omega) (x &&& 8738) hi).trans ?_
    rw [b_and, Bool.and_eq_true, pq_c2 _ (by omega), decide_eq_true_eq]
  have e4 : bt ((x &&& 17476) >>> (1 &&& 31)) i = true ↔ bt x (1 + i) = true ∧ 1 + i < 16 ∧ (1 + i) % 4 = 2 := by
    refine (pq_shr n4 1 (by omega) hi).trans ?_
    rw [b_and, Bool.and_eq_true]
    rcases Nat.lt_or_ge (1 + i) 32 with h2 | h2
    · rw [pq_c4 _ h2, decide_eq_true_eq]
    · rw [b_big h2]
      simp
  unfold pf_tu_over
  rw [b_or, b_or, b_or, Bool.or_eq_true, Bool.or_eq_true, Bool.or_eq_true, e1, e8, e2, e4]
  constructor
  · rintro ((⟨h1, h2, h3, h4⟩ | ⟨h2, h3, h4⟩) | (⟨h1, h2, h3, h4⟩ | ⟨h2, h3, h4⟩))
    · exact ⟨i - 3, by omega, h2, by omega⟩
    · exact ⟨3 + i, by omega, h2, by omega⟩
    · exact ⟨i - 1, by omega, h2, by omega⟩
    · exact ⟨1 + i, by omega, h2, by omega⟩
  · rintro ⟨c, h1, h2, h3⟩
    rcases (show c % 4 = 0 ∨ c % 4 = 1 ∨ c % 4 = 2 ∨ c % 4 = 3 by omega) with h | h | h | h
    · exact Or.inl (Or.inl ⟨by omega, by rw [show i - 3 = c by omega]; exact h2, by omega, by omega⟩)
    · exact Or.inr (Or.inl ⟨by omega, by rw [show i - 1 = c by omega]; exact h2, by omega, by omega⟩)
    · exact Or.inr (Or.inr ⟨by rw [show 1 + i = c by omega]; exact h2, by omega, by omega⟩)
    · exact Or.inl (Or.inr ⟨by rw [show 3 + i = c by omega]; exact h2, by omega, by omega⟩)
theorem pq_qs (x : Int32) {q : Nat} (hq : q ≤ 4) : pf_qs x (nI q) = pf_mqs x (nI q) := by
  unfold pf_qs pf_mqs
  rw [pt_nI (by omega), show (min (q : Int) 4).toNat = q by omega, show ((q : Int)).toNat = q by omega]
  clear hq
  induction q generalizing x with
  | zero => rfl
  | succ q ih =>
    unfold pf_qit pf_mqit
    rw [pq_q1, ih]
theorem pq_mqs16 {x : Int32} (hx : pq_16 x) (q : Int32) : pq_16 (pf_mqs x q) := by
  unfold pf_mqs
  generalize q.toInt.toNat = n
  induction n generalizing x with
  | zero => exact hx
  | succ n ih =>
    unfold pf_mqit
    exact ih (pq_mq16 x)
theorem pq_landle (a b : Nat) : Nat.land a b ≤ a := Nat.and_le_left
theorem pq_nIsub {a b : Nat} (h : b ≤ a) : nI a - nI b = nI (a - b) := by
  have e : nI a = nI (a - b) + nI b := by rw [nI_add, Nat.sub_add_cancel h]
  rw [e]
  exact Int32.add_sub_cancel _ _
theorem pq_bcN {n : Nat} (hn : n < 65536) : pf_bc (nI n) = nI (pq_bc n) := by
  unfold pf_bc pq_bc
  have r1 : Nat.shiftRight n 1 ≤ n := Nat.le_trans (Nat.le_of_eq (Nat.shiftRight_eq_div_pow n 1)) (Nat.div_le_self _ _)
  have h1 : pq_b1 n < 65536 := by
    show n - _ < _
    omega
  have e1 : pf_bc1 (nI n) = nI (pq_b1 n) := by
    unfold pf_bc1 pf_u
    have e := nx_ush hn (show 1 < 32 by omega)
    have e2 := nx_and (n >>> 1) 1431655765
    refine (congrArg (fun z => nI n - (z &&& (1431655765 : Int32))) e).trans ?_
    refine (congrArg (fun z => nI n - z) e2).trans ?_
    exact pq_nIsub (Nat.le_trans (pq_landle _ _) r1)
  rw [e1]
  generalize pq_b1 n = m at *
  have h2 : pq_b2 m < 65536 := by
    have a1 : Nat.land m 858993459 ≤ 13107 := (by
      have e : m = m &&& 65535 := by rw [show (65535 : Nat) = 2 ^ 16 - 1 from rfl, Nat.and_two_pow_sub_one_eq_mod, Nat.mod_eq_of_lt h1]
      show m &&& 858993459 ≤ _
      rw [e, Nat.and_assoc]
      exact Nat.and_le_right)
    have h3 : m >>> 2 < 65536 := by
      rw [Nat.shiftRight_eq_div_pow]
      omega
    have a2 : Nat.land (Nat.shiftRight m 2) 858993459 ≤ 13107 := (by
      show (m >>> 2) &&& 858993459 ≤ _
      generalize m >>> 2 = k at *
      have e : k = k &&& 65535 := by rw [show (65535 : Nat) = 2 ^ 16 - 1 from rfl, Nat.and_two_pow_sub_one_eq_mod, Nat.mod_eq_of_lt h3]
      rw [e, Nat.and_assoc]
      exact Nat.and_le_right)
    show Nat.land m 858993459 + Nat.land (Nat.shiftRight m 2) 858993459 < _
    omega
  have e2 : pf_bc2 (nI m) = nI (pq_b2 m) := by
    unfold pf_bc2 pf_u
    have e := nx_ush h1 (show 2 < 32 by omega)
    refine (congrArg (fun z => (nI m &&& (858993459 : Int32)) + (z &&& (858993459 : Int32))) e).trans ?_
    have e3 := nx_and (m >>> 2) 858993459
    have e4 := nx_and m 858993459
    refine (congrArg (fun z => (nI m &&& (858993459 : Int32)) + z) e3).trans ?_
    refine (congrArg (fun z => z + nI ((m >>> 2) &&& 858993459)) e4).trans ?_
    exact nI_add _ _
  have h30 : pq_b2 m ≤ 26214 := by
    have a1 : Nat.land m 858993459 ≤ 13107 := (by
      have e : m = m &&& 65535 := by rw [show (65535 : Nat) = 2 ^ 16 - 1 from rfl, Nat.and_two_pow_sub_one_eq_mod, Nat.mod_eq_of_lt h1]
      show m &&& 858993459 ≤ _
      rw [e, Nat.and_assoc]
      exact Nat.and_le_right)
    have h3 : m >>> 2 < 65536 := by
      rw [Nat.shiftRight_eq_div_pow]
      omega
    have a2 : Nat.land (Nat.shiftRight m 2) 858993459 ≤ 13107 := (by
      show (m >>> 2) &&& 858993459 ≤ _
      generalize m >>> 2 = k at *
      have e : k = k &&& 65535 := by rw [show (65535 : Nat) = 2 ^ 16 - 1 from rfl, Nat.and_two_pow_sub_one_eq_mod, Nat.mod_eq_of_lt h3]
      rw [e, Nat.and_assoc]
      exact Nat.and_le_right)
    show Nat.land m 858993459 + Nat.land (Nat.shiftRight m 2) 858993459 ≤ _
    omega
  rw [e2]
  generalize pq_b2 m = k at *
  have e3 : pf_bc3 (nI k) = nI (pq_b3 k) := by
    unfold pf_bc3 pf_u
    have e := nx_ush h2 (show 4 < 32 by omega)
    refine (congrArg (fun z => (nI k + z) &&& (252645135 : Int32)) e).trans ?_
    rw [nI_add]
    exact nx_and _ _
  have h3 : pq_b3 k ≤ 30000 := by
    refine Nat.le_trans (pq_landle _ _) ?_
    show k + k >>> 4 ≤ _
    rw [Nat.shiftRight_eq_div_pow]
    omega
  rw [e3]
  generalize pq_b3 k = j at *
  have e4 : pf_bc4 (nI j) = nI (pq_b4 j) := by
    unfold pf_bc4 pf_u
    have e := nx_ush (show j < 65536 by omega) (show 8 < 32 by omega)
    refine (congrArg (fun z => nI j + z) e).trans ?_
    exact nI_add _ _
  have h4 : pq_b4 j < 65536 := by
    show j + j >>> 8 < _
    rw [Nat.shiftRight_eq_div_pow]
    omega
  rw [e4]
  generalize pq_b4 j = i at *
  have e5 : pf_bc5 (nI i) = nI (pq_b5 i) := by
    unfold pf_bc5 pf_u
    have e := nx_ush (show i < 65536 by omega) (show 16 < 32 by omega)
    refine (congrArg (fun z => nI i + z) e).trans ?_
    exact nI_add _ _
  rw [e5]
  exact nx_and _ _
theorem pq_bitsN (x : Int32) : ∀ k, k ≤ 16 → pf_bits x k = nI (pq_pop k x.toBitVec.toNat)
  | 0, _ => rfl
  | k + 1, hk => by
    unfold pf_bits
    rw [pq_bitsN x k (by omega), pq_at x (by omega)]
    have e : (if bt x k = true then (1 : Int32) else 0) = nI (Nat.mod (Nat.shiftRight x.toBitVec.toNat k) 2) := by
      unfold bt
      rw [BitVec.getLsbD, Nat.testBit_eq_decide_div_mod_eq]
      show _ = nI ((x.toBitVec.toNat >>> k) % 2)
      rw [Nat.shiftRight_eq_div_pow]
      have := Nat.mod_lt (x.toBitVec.toNat / 2 ^ k) (show 0 < 2 by omega)
      rcases (show x.toBitVec.toNat / 2 ^ k % 2 = 0 ∨ x.toBitVec.toNat / 2 ^ k % 2 = 1 by omega) with h | h
      · rw [h]; rfl
      · rw [h]; rfl
    rw [e, nI_add]
    rfl
theorem pq_bc16 {x : Int32} (hx : pq_16 x) : pf_bc x = pf_bits x 16 := by
  obtain ⟨n, hn, rfl⟩ := pq_16o hx
  rw [pq_bcN hn, pq_bitsN _ 16 (by omega), Nat.eq_of_beq_eq_true (pq_bcpop n hn)]
  have e : (nI n).toBitVec.toNat = n := by
    show (BitVec.ofNat 32 n).toNat = n
    rw [BitVec.toNat_ofNat]
    exact Nat.mod_eq_of_lt (by omega)
  rw [e]
theorem pq_pople : ∀ k n, pq_pop k n ≤ k
  | 0, _ => Nat.le_refl _
  | k + 1, n => by
    have := pq_pople k n
    have h2 := Nat.mod_lt (Nat.shiftRight n k) (show 0 < 2 by omega)
    show pq_pop k n + (Nat.shiftRight n k) % 2 ≤ _
    omega
theorem pq_bitsle (x : Int32) : ∃ n, n ≤ 16 ∧ pf_bits x 16 = nI n := ⟨_, pq_pople 16 _, pq_bitsN x 16 (Nat.le_refl _)⟩
theorem pq_bits0 (x : Int32) : ∀ k, k ≤ 16 → (pf_bits x k = 0 ↔ ∀ i, i < k → bt x i = false)
  | 0, _ => ⟨fun _ i h => absurd h (by omega), fun _ => rfl⟩
  | k + 1, hk => by
    have ih := pq_bits0 x k (by omega)
    rw [pq_bitsN x k (by omega)] at ih
    have h3 := pq_pople k x.toBitVec.toNat
    unfold pf_bits
    rw [pq_bitsN x k (by omega), pq_at x (by omega)]
    by_cases h : bt x k = true
    · rw [if_pos h, nI_1]
      constructor
      · intro h2
        exact absurd h2 (nI_ne0 (by omega) (by omega))
      · intro h2
        rw [h2 k (by omega)] at h
        cases h
    · rw [if_neg h, Int32.add_zero, ih]
      constructor
      · intro h2 i hi
        by_cases e : i = k
        · rw [e]; exact Bool.eq_false_iff.mpr h
        · exact h2 i (by omega)
      · intro h2 i hi
        exact h2 i (by omega)
theorem pq_bits16 {x : Int32} (hx : pq_16 x) : pf_bits x 16 = 0 ↔ x = 0 := by
  rw [pq_bits0 x 16 (by omega)]
  constructor
  · intro h
    apply b_ext
    intro i _
    rw [b_0]
    by_cases h2 : i < 16
    · exact h i h2
    · exact hx i (by omega)
  · rintro rfl i _
    exact b_0 i
/-! the lowest bit -/
theorem pq_low {x : Int32} (hx : pq_16 x) (h0 : x ≠ 0) : ∃ c, c < 16 ∧ bt x c = true ∧ (∀ j, j < c → bt x j = false) ∧ (∀ i, i < 32 → bt (x - 1) i = (if i < c then true else if i = c then false else bt x i)) := by
  obtain ⟨n, hn, rfl⟩ := pq_16o hx
  have hn0 : n ≠ 0 := fun h => h0 (by rw [h]; rfl)
  have key : ∀ k n, n < 2 ^ k → n ≠ 0 → ∃ c t, c < k ∧ n = 2 ^ (c + 1) * t + 2 ^ c := by
    intro k
    induction k with
    | zero => intro n h1 h2; exact absurd (by simpa using h1) h2
    | succ k ih =>
      intro n h1 h2
      by_cases h3 : n % 2 = 1
      · exact ⟨0, n / 2, by omega, by rw [Nat.zero_add, Nat.pow_one, Nat.pow_zero]; omega⟩
      · obtain ⟨c, t, h4, h5⟩ := ih (n / 2) (by rw [Nat.pow_succ] at h1; omega) (by omega)
        refine ⟨c + 1, t, by omega, ?_⟩
        have : n = 2 * (n / 2) := by omega
        rw [this, h5, Nat.pow_succ 2 (c + 1), Nat.pow_succ 2 c, Nat.mul_add]
        rw [Nat.mul_comm (2 ^ c * 2) 2, Nat.mul_comm (2 ^ c) 2, ← Nat.mul_assoc]
  obtain ⟨c, t, hc, e⟩ := key 16 n hn hn0
  have p0 : 0 < 2 ^ c := Nat.pow_pos (by omega)
  have p1 : 2 ^ (c + 1) = 2 * 2 ^ c := by rw [Nat.pow_succ, Nat.mul_comm]
  have b1 : ∀ j, n.testBit j = if j < c + 1 then decide (j = c) else t.testBit (j - (c + 1)) := by
    intro j
    rw [e, Nat.testBit_two_pow_mul_add t (by omega)]
    split
    · rw [Nat.testBit_two_pow]
      exact decide_eq_decide.mpr eq_comm
    · rfl
  have b2 : ∀ j, (n - 1).testBit j = if j < c + 1 then decide (j < c) else t.testBit (j - (c + 1)) := by
    intro j
    have e2 : n - 1 = 2 ^ (c + 1) * t + (2 ^ c - 1) := by omega
    rw [e2, Nat.testBit_two_pow_mul_add t (by omega)]
    split
    · rw [Nat.testBit_two_pow_sub_one]
    · rfl
  refine ⟨c, hc, ?_, fun j hj => ?_, fun i hi => ?_⟩
  · rw [pq_nI n (by omega), b1, if_pos (by omega)]
    exact decide_eq_true rfl
  · rw [pq_nI n (by omega), b1, if_pos (by omega)]
    exact decide_eq_false (by omega)
  · have e3 : nI n - 1 = nI (n - 1) := pq_nIsub (b := 1) (by omega)
    rw [e3, pq_nI n hi, pq_nI _ hi, b1, b2]
    by_cases h : i < c + 1
    · rw [if_pos h]
      by_cases h2 : i = c
      · rw [if_neg (by omega), if_pos h2, decide_eq_false (by omega)]
      · rw [if_pos (by omega), decide_eq_true (by omega)]
    · rw [if_neg h, if_neg (by omega), if_neg (by omega), if_neg h]
theorem pq_lowY {x : Int32} (hx : pq_16 x) (h0 : x ≠ 0) : ∃ c, c < 16 ∧ bt x c = true ∧ (∀ j, j < c → bt x j = false) ∧ (∀ i, i < 32 → (bt ((x ^^^ (-1)) &&& (x - 1)) i = decide (i < c))) := by
  obtain ⟨c, h1, h2, h3, h4⟩ := pq_low hx h0
  refine ⟨c, h1, h2, h3, fun i hi => ?_⟩
  rw [b_and, pq_not _ hi, h4 i hi]
  by_cases a : i < c
  · rw [if_pos a, h3 i a, decide_eq_true a]; rfl
  · rw [if_neg a, decide_eq_false a]
    by_cases b : i = c
    · rw [if_pos b, Bool.and_false]
    · rw [if_neg b]
      cases bt x i <;> rfl
def pq_ntzY (y : Int32) : Int32 := if (0 : Int32) < y then (fun s : Int32 × Int32 => s.2 + pf_u s.1 1) (pf_nt 4 2 (pf_nt 16 4 (pf_nt 256 8 (pf_nt 65536 16 (y, 1))))) else y &&& 32
theorem pq_ntzc : ∀ c, c < 16 → pq_ntzY (nI (2 ^ c - 1)) = nI c := by decide +kernel
theorem pq_ntz {x : Int32} (hx : pq_16 x) (h0 : x ≠ 0) : ∃ c, c < 16 ∧ bt x c = true ∧ (∀ j, j < c → bt x j = false) ∧ pf_ntz x = nI c := by
  obtain ⟨c, h1, h2, h3, h4⟩ := pq_lowY hx h0
  refine ⟨c, h1, h2, h3, ?_⟩
  have e : (x ^^^ (-1)) &&& (x - 1) = nI (2 ^ c - 1) := by
    apply b_ext
    intro i hi
    rw [h4 i hi, pq_nI _ hi, Nat.testBit_two_pow_sub_one]
  show pq_ntzY ((x ^^^ (-1)) &&& (x - 1)) = _
  rw [e]
  exact pq_ntzc c h1
theorem pq_neg (x : Int32) : -x = (x - 1) ^^^ (-1) := by
  apply Int32.toBitVec_inj.mp
  rw [Int32.toBitVec_neg, Int32.toBitVec_xor, Int32.toBitVec_sub]
  show -x.toBitVec = (x.toBitVec - 1#32) ^^^ (BitVec.allOnes 32)
  rw [BitVec.xor_allOnes, BitVec.not_eq_neg_add, BitVec.neg_sub]
  exact (BitVec.add_sub_cancel _ _).symm
theorem pq_lowbit {x : Int32} (hx : pq_16 x) (h0 : x ≠ 0) : ∃ c, c < 16 ∧ bt x c = true ∧ (∀ j, j < c → bt x j = false) ∧ (x &&& (-x)) = 1 <<< (nI c &&& 31) := by
  obtain ⟨c, h1, h2, h3, h4⟩ := pq_low hx h0
  refine ⟨c, h1, h2, h3, ?_⟩
  apply b_ext
  intro i hi
  rw [b_and, pq_neg, pq_not _ hi, h4 i hi, pq_one (by omega) hi]
  by_cases a : i < c
  · rw [h3 i a, decide_eq_false (by omega)]; rfl
  · rw [if_neg a]
    by_cases b : i = c
    · rw [if_pos b, b, h2, decide_eq_true rfl]; rfl
    · rw [if_neg b, decide_eq_false b]
      cases bt x i <;> rfl
