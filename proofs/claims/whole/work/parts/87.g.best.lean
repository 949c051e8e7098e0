/-! ===== the better of two sets; what is best of some ===== -/
abbrev px_bet (y x : Int32) : Prop := pf_bits x 16 < pf_bits y 16 ∨ (pf_bits y 16 = pf_bits x 16 ∧ y < x)
theorem px_tot {x y : Int32} (h1 : ¬ px_bet y x) (h2 : ¬ px_bet x y) : x = y := by
  simp only [px_bet, pt_lt, pt_eq] at h1 h2
  rw [pt_eq]
  omega
theorem px_tr {x y z : Int32} (h1 : px_bet z y) (h2 : px_bet y x) : px_bet z x := by
  simp only [px_bet, pt_lt, pt_eq] at *
  omega
theorem px_irr (x : Int32) : ¬ px_bet x x := by
  simp only [px_bet, pt_lt, pt_eq]
  omega
theorem px_0 {x : Int32} (hx : pq_16 x) : ¬ px_bet 0 x := by
  obtain ⟨n, hn, e⟩ := pq_bitsle x
  have e0 : pf_bits 0 16 = nI 0 := by decide
  rintro (q | ⟨q, q2⟩)
  · rw [e, e0] at q
    exact nI_nlt (a := n) (b := 0) (by omega) (by omega) q
  · rw [e0] at q
    rw [(pq_bits16 hx).mp q.symm] at q2
    exact Int32.lt_irrefl q2
def px_I (C : Int32 → Prop) (b : Int32) : Prop := (b = 0 ∨ C b) ∧ ∀ y, C y → ¬ px_bet y b
theorem px_I16 {C : Int32 → Prop} {b : Int32} (hC : ∀ y, C y → pq_16 y) (h : px_I C b) : pq_16 b := by
  rcases h.1 with rfl | h
  · exact pq_160
  · exact hC b h
theorem px_uni {C : Int32 → Prop} {a b : Int32} (hC : ∀ y, C y → pq_16 y) (ha : px_I C a) (hb : px_I C b) : a = b := by
  have ha16 := px_I16 hC ha
  have hb16 := px_I16 hC hb
  refine px_tot ?_ ?_
  · rcases hb.1 with e | h
    · rw [e]; exact px_0 ha16
    · exact ha.2 b h
  · rcases ha.1 with e | h
    · rw [e]; exact px_0 hb16
    · exact hb.2 a h
theorem px_eqv {C D : Int32 → Prop} {b : Int32} (h : ∀ z, C z ↔ D z) (hb : px_I C b) : px_I D b := ⟨hb.1.imp id (fun q => (h b).mp q), fun y hy => hb.2 y ((h y).mpr hy)⟩
theorem px_step {C : Int32 → Prop} {b : Int32} (h : px_I C b) (y : Int32) : px_I (fun z => C z ∨ z = y) (if px_bet y b then y else b) := by
  by_cases g : px_bet y b
  · rw [if_pos g]
    refine ⟨Or.inr (Or.inr rfl), fun z hz => ?_⟩
    rcases hz with hz | rfl
    · exact fun q => h.2 z hz (px_tr q g)
    · exact px_irr z
  · rw [if_neg g]
    refine ⟨h.1.imp id Or.inl, fun z hz => ?_⟩
    rcases hz with hz | rfl
    · exact h.2 z hz
    · exact g
theorem px_mo (x y : Int32) : (if (pf_bits x 16) < (pf_bits y 16) then y else (if ¬ (pf_bits y 16) = (pf_bits x 16) then x else (if x ≤ y then x else y))) = if px_bet y x then y else x := by
  by_cases h1 : pf_bits x 16 < pf_bits y 16
  · rw [if_pos h1, if_pos (show px_bet y x from Or.inl h1)]
  · rw [if_neg h1]
    by_cases h2 : pf_bits y 16 = pf_bits x 16
    · rw [if_neg (not_not_intro h2)]
      by_cases h3 : x ≤ y
      · rw [if_pos h3, if_neg (show ¬ px_bet y x from fun q => q.elim h1 (fun q => Int32.not_lt.mpr h3 q.2))]
      · rw [if_neg h3, if_pos (show px_bet y x from Or.inr ⟨h2, Int32.not_le.mp h3⟩)]
    · rw [if_pos h2, if_neg (show ¬ px_bet y x from fun q => q.elim h1 (fun q => h2 q.1))]
theorem px_cl {x y : Int32} (hx : pq_16 x) (hy : pq_16 y) : pf_sh_greater x y = if px_bet y x then y else x := by
  unfold pf_sh_greater
  rw [pq_bc16 hx, pq_bc16 hy]
  obtain ⟨n, hn, ex⟩ := pq_bitsle x
  obtain ⟨m, hm, ey⟩ := pq_bitsle y
  have c0 : nI n - nI m = 0 ↔ n = m := by
    rw [pt_eq, pk_sub_toInt (by omega) (by omega), show (0 : Int32).toInt = 0 from rfl]
    omega
  have c1 : nI n - nI m ≤ 0 ↔ n ≤ m := by
    rw [pt_le, pk_sub_toInt (by omega) (by omega), show (0 : Int32).toInt = 0 from rfl]
    omega
  have cb : px_bet y x ↔ n < m ∨ (m = n ∧ y < x) := by
    unfold px_bet
    rw [ex, ey, nI_ltI (by omega) (by omega), nI_eq (by omega) (by omega)]
  rw [← ex, ← ey] at c0 c1
  by_cases h0 : n = m
  · rw [if_neg (not_not_intro (c0.mpr h0))]
    by_cases h1 : y < x
    · rw [if_pos h1, if_pos (cb.mpr (Or.inr ⟨h0.symm, h1⟩))]
    · rw [if_neg h1, if_neg (fun q => (cb.mp q).elim (fun q => by omega) (fun q => h1 q.2))]
  · rw [if_pos (fun q => h0 (c0.mp q))]
    by_cases h1 : n ≤ m
    · rw [if_pos (c1.mpr h1), if_pos (cb.mpr (Or.inl (by omega)))]
    · rw [if_neg (fun q => h1 (c1.mp q)), if_neg (fun q => (cb.mp q).elim (fun q => by omega) (fun q => h0 q.1.symm))]
/-! how many -/
def px_n (x : Int32) : Nat → Nat
  | 0 => 0
  | k + 1 => px_n x k + (if bt x k = true then 1 else 0)
theorem px_nle {x y : Int32} : ∀ k, (∀ i, i < k → bt x i = true → bt y i = true) → px_n x k ≤ px_n y k
  | 0, _ => Nat.le_refl _
  | k + 1, h => by
    have ih := px_nle k (fun i hi => h i (by omega))
    have hk := h k (by omega)
    unfold px_n
    by_cases e : bt x k = true
    · rw [if_pos e, if_pos (hk e)]; omega
    · rw [if_neg e]; omega
theorem px_nlt {x y : Int32} {j : Nat} (h1 : bt y j = true) (h2 : ¬ bt x j = true) : ∀ k, j < k → (∀ i, i < k → bt x i = true → bt y i = true) → px_n x k < px_n y k
  | 0, hj, _ => by omega
  | k + 1, hj, h => by
    unfold px_n
    by_cases e : j = k
    · have := px_nle (x := x) (y := y) k (fun i hi => h i (by omega))
      rw [← e] at this ⊢
      rw [if_pos h1, if_neg h2]
      omega
    · have ih := px_nlt h1 h2 k (by omega) (fun i hi => h i (by omega))
      have hk := h k (by omega)
      by_cases e : bt x k = true
      · rw [if_pos e, if_pos (hk e)]; omega
      · rw [if_neg e]; omega
theorem px_nk (x : Int32) : ∀ k, px_n x k ≤ k
  | 0 => Nat.le_refl _
  | k + 1 => by
    have := px_nk x k
    unfold px_n
    split <;> omega
theorem px_npos {x : Int32} {j : Nat} (h : bt x j = true) (k : Nat) (hj : j < k) : 0 < px_n x k := by
  have := px_nlt (x := 0) h (by rw [b_0]; exact fun q => by cases q) k hj (fun i _ q => by rw [b_0] at q; cases q)
  omega
theorem px_nz {x : Int32} (hx : pq_16 x) (h : px_n x 16 = 0) : x = 0 := by
  refine pq_ext16 hx pq_160 (fun i hi => ?_)
  rw [b_0]
  exact ⟨fun q => by have := px_npos q 16 hi; omega, fun q => by cases q⟩
/-! cells beside cells -/
def px_adj (i j : Nat) : Prop := (0 < i % 4 ∧ j + 1 = i) ∨ (i % 4 < 3 ∧ j = i + 1) ∨ (3 < i ∧ j + 4 = i) ∨ (i < 12 ∧ j = i + 4)
theorem px_sym {i j : Nat} (hi : i < 16) (hj : j < 16) (h : px_adj i j) : px_adj j i := by
  unfold px_adj at *
  omega
def px_F (S x : Int32) : Int32 := x ||| (pf_sh_beside x &&& S)
theorem px_F16 {S x : Int32} (hS : pq_16 S) (hx : pq_16 x) : pq_16 (px_F S x) := pq_16or hx (pq_16andr hS _)
theorem px_m8 : ∀ j, j < 16 → bt (-34953) j = decide (¬ j % 4 = 3) := by decide +kernel
theorem px_m1 : ∀ j, j < 16 → bt (-4370) j = decide (¬ j % 4 = 0) := by decide +kernel
theorem px_Fb {S x : Int32} (hx : pq_16 x) {i : Nat} (hi : i < 16) : bt (px_F S x) i = true ↔ bt x i = true ∨ (bt S i = true ∧ ∃ j, j < 16 ∧ px_adj i j ∧ bt x j = true) := by
  have s1 : bt ((x &&& (-34953)) <<< ((1 : Int32) &&& 31)) i = true ↔ 1 ≤ i ∧ bt (x &&& (-34953)) (i - 1) = true := pq_shl 1 (by omega) _ (by omega)
  have s2 : bt ((x &&& (-4370)) >>> ((1 : Int32) &&& 31)) i = true ↔ bt (x &&& (-4370)) (1 + i) = true := pq_shr (pq_16and hx _) 1 (by omega) (by omega)
  have s3 : bt (x <<< ((4 : Int32) &&& 31)) i = true ↔ 4 ≤ i ∧ bt x (i - 4) = true := pq_shl 4 (by omega) _ (by omega)
  have s4 : bt (x >>> ((4 : Int32) &&& 31)) i = true ↔ bt x (4 + i) = true := pq_shr hx 4 (by omega) (by omega)
  have t1 : (1 ≤ i ∧ bt (x &&& (-34953)) (i - 1) = true) ↔ (0 < i % 4 ∧ bt x (i - 1) = true) := by
    constructor
    · rintro ⟨h1, h2⟩
      rw [b_and, px_m8 _ (by omega), Bool.and_eq_true, decide_eq_true_iff] at h2
      exact ⟨by omega, h2.1⟩
    · rintro ⟨h1, h2⟩
      refine ⟨by omega, ?_⟩
      rw [b_and, px_m8 _ (by omega), Bool.and_eq_true, decide_eq_true_iff]
      exact ⟨h2, by omega⟩
  have lt : ∀ j, bt x j = true → j < 16 := fun j hj => Decidable.byContradiction (fun q => by rw [hx j (by omega)] at hj; cases hj)
  have t2 : bt (x &&& (-4370)) (1 + i) = true ↔ (i % 4 < 3 ∧ bt x (i + 1) = true) := by
    rw [Nat.add_comm 1 i]
    constructor
    · intro h2
      rw [b_and, Bool.and_eq_true] at h2
      have := lt _ h2.1
      rw [px_m1 _ this, decide_eq_true_iff] at h2
      exact ⟨by omega, h2.1⟩
    · rintro ⟨h1, h2⟩
      have := lt _ h2
      rw [b_and, px_m1 _ this, Bool.and_eq_true, decide_eq_true_iff]
      exact ⟨h2, by omega⟩
  unfold px_F pf_sh_beside
  rw [b_or, b_and, b_or, b_or, b_or, Bool.or_eq_true, Bool.and_eq_true, Bool.or_eq_true, Bool.or_eq_true, Bool.or_eq_true, s1, s2, s3, s4, t1, t2]
  constructor
  · rintro (h | ⟨h, hS⟩)
    · exact Or.inl h
    · refine Or.inr ⟨hS, ?_⟩
      rcases h with ((⟨h1, h2⟩ | ⟨h1, h2⟩) | ⟨h1, h2⟩) | h2
      · exact ⟨i - 1, by omega, Or.inl ⟨h1, by omega⟩, h2⟩
      · exact ⟨i + 1, lt _ h2, Or.inr (Or.inl ⟨h1, rfl⟩), h2⟩
      · exact ⟨i - 4, by omega, Or.inr (Or.inr (Or.inl ⟨by omega, by omega⟩)), h2⟩
      · have := lt _ h2
        exact ⟨i + 4, by omega, Or.inr (Or.inr (Or.inr ⟨by omega, rfl⟩)), by rw [Nat.add_comm]; exact h2⟩
  · rintro (h | ⟨hS, j, hj, ha, hb⟩)
    · exact Or.inl h
    · refine Or.inr ⟨?_, hS⟩
      rcases ha with ⟨a1, a2⟩ | ⟨a1, a2⟩ | ⟨a1, a2⟩ | ⟨a1, a2⟩
      · exact Or.inl (Or.inl (Or.inl ⟨a1, by rw [show i - 1 = j by omega]; exact hb⟩))
      · exact Or.inl (Or.inl (Or.inr ⟨a1, by rw [← a2]; exact hb⟩))
      · exact Or.inl (Or.inr ⟨by omega, by rw [show i - 4 = j by omega]; exact hb⟩)
      · exact Or.inr (by rw [show 4 + i = j by omega]; exact hb)
theorem px_pfS (S : Int32) : ∀ (n : Nat) (x : Int32), pf_pf S (n + 1) x = px_F S (pf_pf S n x)
  | 0, _ => rfl
  | n + 1, x => by
    show pf_pf S (n + 1) (px_F S x) = px_F S (pf_pf S n (px_F S x))
    exact px_pfS S n _
theorem px_pf16 {S : Int32} (hS : pq_16 S) : ∀ (n : Nat) {x : Int32}, pq_16 x → pq_16 (pf_pf S n x)
  | 0, _, hx => hx
  | n + 1, x, hx => px_pf16 hS n (px_F16 hS hx)
theorem px_up {S : Int32} (hS : pq_16 S) {i : Nat} (hi : i < 16) : ∀ (n : Nat) {x : Int32}, pq_16 x → bt x i = true → bt (pf_pf S n x) i = true
  | 0, _, _, h => h
  | n + 1, x, hx, h => px_up hS hi n (px_F16 hS hx) ((px_Fb hx hi).mpr (Or.inl h))
theorem px_least {S : Int32} (hS : pq_16 S) {Y : Nat → Prop} (hY : ∀ i j, i < 16 → j < 16 → bt S i = true → px_adj i j → Y j → Y i) : ∀ (n : Nat) {x : Int32}, pq_16 x → (∀ i, i < 16 → bt x i = true → Y i) → ∀ i, i < 16 → bt (pf_pf S n x) i = true → Y i
  | 0, _, _, h => h
  | n + 1, x, hx, h => px_least hS hY n (px_F16 hS hx) (fun i hi q => by
    rcases (px_Fb hx hi).mp q with q | ⟨q1, j, hj, q2, q3⟩
    · exact h i hi q
    · exact hY i j hi hj q1 q2 (h j hj q3))
theorem px_grow {S x : Int32} (hS : pq_16 S) (hx : pq_16 x) : px_F S x = x ∨ px_n x 16 < px_n (px_F S x) 16 := by
  by_cases h : px_n x 16 < px_n (px_F S x) 16
  · exact Or.inr h
  · refine Or.inl (pq_ext16 (px_F16 hS hx) hx (fun i hi => ⟨fun q => ?_, fun q => (px_Fb hx hi).mpr (Or.inl q)⟩))
    refine Decidable.byContradiction (fun z => h (px_nlt q z 16 hi (fun j hj w => (px_Fb hx hj).mpr (Or.inl w))))
theorem px_fixn {S x : Int32} (hS : pq_16 S) (hx : pq_16 x) {c : Nat} (hc : c < 16) (hb : bt x c = true) : ∀ n, px_F S (pf_pf S n x) = pf_pf S n x ∨ n + 1 ≤ px_n (pf_pf S n x) 16
  | 0 => Or.inr (px_npos hb 16 hc)
  | n + 1 => by
    rw [px_pfS]
    rcases px_fixn hS hx hc hb n with e | e
    · rw [e]; exact Or.inl e
    · rcases px_grow hS (px_pf16 hS n hx) with g | g
      · rw [g]; exact Or.inl g
      · exact Or.inr (by omega)
theorem px_fix {S x : Int32} (hS : pq_16 S) (hx : pq_16 x) {c : Nat} (hc : c < 16) (hb : bt x c = true) : px_F S (pf_pf S 16 x) = pf_pf S 16 x := by
  rcases px_fixn hS hx hc hb 16 with e | e
  · exact e
  · have := px_nk (pf_pf S 16 x) 16
    omega
/-- all that hang together with a cell -/
def px_K (S : Int32) (c : Nat) : Int32 := pf_pf S 16 (1 <<< (nI c &&& 31))
theorem px_one {c : Nat} (hc : c < 16) : bt (1 <<< (nI c &&& 31)) c = true := by rw [pq_one (by omega) (by omega)]; exact decide_eq_true rfl
theorem px_K16 {S : Int32} (hS : pq_16 S) {c : Nat} (hc : c < 16) : pq_16 (px_K S c) := px_pf16 hS 16 (pq_16one hc)
theorem px_Kc {S : Int32} (hS : pq_16 S) {c : Nat} (hc : c < 16) : bt (px_K S c) c = true := px_up hS hc 16 (pq_16one hc) (px_one hc)
theorem px_Kcl {S : Int32} (hS : pq_16 S) {c : Nat} (hc : c < 16) {i j : Nat} (hi : i < 16) (hj : j < 16) (h1 : bt S i = true) (h2 : px_adj i j) (h3 : bt (px_K S c) j = true) : bt (px_K S c) i = true := by
  have e : px_F S (px_K S c) = px_K S c := px_fix hS (pq_16one hc) hc (px_one hc)
  rw [← e]
  exact (px_Fb (px_K16 hS hc) hi).mpr (Or.inr ⟨h1, j, hj, h2, h3⟩)
theorem px_Kl {S : Int32} (hS : pq_16 S) {c : Nat} (hc : c < 16) {Y : Nat → Prop} (hY : ∀ i j, i < 16 → j < 16 → bt S i = true → px_adj i j → Y j → Y i) (h : Y c) {i : Nat} (hi : i < 16) (hb : bt (px_K S c) i = true) : Y i :=
  px_least hS hY 16 (pq_16one hc) (fun i hi q => by
    rw [pq_one (by omega) (by omega), decide_eq_true_iff] at q
    rw [q]; exact h) i hi hb
theorem px_KS {S : Int32} (hS : pq_16 S) {c : Nat} (hc : c < 16) (h : bt S c = true) {i : Nat} (hi : i < 16) (hb : bt (px_K S c) i = true) : bt S i = true := px_Kl hS hc (Y := fun i => bt S i = true) (fun i j _ _ h _ _ => h) h hi hb
theorem px_Ksub {S : Int32} (hS : pq_16 S) {c d : Nat} (hc : c < 16) (hd : d < 16) (h : bt (px_K S c) d = true) {i : Nat} (hi : i < 16) (hb : bt (px_K S d) i = true) : bt (px_K S c) i = true := px_Kl hS hd (Y := fun i => bt (px_K S c) i = true) (fun i j hi hj h1 h2 h3 => px_Kcl hS hc hi hj h1 h2 h3) h hi hb
theorem px_Ksym {S : Int32} (hS : pq_16 S) {c d : Nat} (hc : c < 16) (hd : d < 16) (hcS : bt S c = true) (h : bt (px_K S c) d = true) : bt (px_K S d) c = true := by
  refine Decidable.byContradiction (fun z => ?_)
  have := px_Kl hS hc (Y := fun i => bt S i = true ∧ ¬ bt (px_K S d) i = true) (fun i j hi hj h1 h2 h3 => ⟨h1, fun q => h3.2 (px_Kcl hS hd hj hi h3.1 (px_sym hi hj h2) q)⟩) ⟨hcS, z⟩ hd h
  exact this.2 (px_Kc hS hd)
theorem px_Keq {S : Int32} (hS : pq_16 S) {c d : Nat} (hc : c < 16) (hd : d < 16) (hcS : bt S c = true) (h : bt (px_K S c) d = true) : px_K S d = px_K S c :=
  pq_ext16 (px_K16 hS hd) (px_K16 hS hc) (fun _ hi => ⟨fun q => px_Ksub hS hc hd h hi q, fun q => px_Ksub hS hd hc (px_Ksym hS hc hd hcS h) hi q⟩)
/-- in what is left it is the same -/
theorem px_Krest {S r : Int32} (hS : pq_16 S) (hr : pq_16 r) (h1 : ∀ i, i < 16 → bt r i = true → bt S i = true) (h2 : ∀ i j, i < 16 → j < 16 → bt r i = true → bt S j = true → px_adj i j → bt r j = true) {c : Nat} (hc : c < 16) (hcr : bt r c = true) : px_K r c = px_K S c := by
  refine pq_ext16 (px_K16 hr hc) (px_K16 hS hc) (fun i hi => ⟨fun q => ?_, fun q => ?_⟩)
  · exact px_Kl hr hc (Y := fun i => bt (px_K S c) i = true) (fun i j hi hj g1 g2 g3 => px_Kcl hS hc hi hj (h1 i hi g1) g2 g3) (px_Kc hS hc) hi q
  · exact px_Kl hS hc (Y := fun i => bt (px_K r c) i = true) (fun i j hi hj g1 g2 g3 => px_Kcl hr hc hi hj (h2 j i hj hi (px_KS hr hc hcr hj g3) g1 (px_sym hi hj g2)) g2 g3) (px_Kc hr hc) hi q
