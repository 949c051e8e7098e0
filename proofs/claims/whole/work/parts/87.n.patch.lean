/-! ===== patch ===== -/
theorem pv_on (had : Int32) {c : Nat} (hc : c < 16) : pv_mo_spread_14_0 had (nI c) = 0 ↔ ¬ ∃ j, px_adj c j ∧ bt had j = true := by
  have em : nI c - nI c / 4 * 4 = nI (c % 4) := pt_nmod (d := 4) (by omega) (by omega) (by omega)
  have i1 : (nI (c % 4) ≤ 0) ↔ (c % 4 = 0) := by
    rw [show (0 : Int32) = nI 0 from rfl, nI_leI (by omega) (by omega)]
    omega
  have i2 : ((3 : Int32) ≤ nI (c % 4)) ↔ (c % 4 = 3) := by
    rw [show (3 : Int32) = nI 3 from rfl, nI_leI (by omega) (by omega)]
    omega
  have i3 : (nI c ≤ 3) ↔ (c ≤ 3) := by rw [show (3 : Int32) = nI 3 from rfl, nI_leI (by omega) (by omega)]
  have i4 : ((12 : Int32) ≤ nI c) ↔ (12 ≤ c) := by rw [show (12 : Int32) = nI 12 from rfl, nI_leI (by omega) (by omega)]
  have h1 : ¬ c % 4 = 0 → (pf_has had (nI c - 1) ↔ bt had (c - 1) = true) := fun q => by
    rw [show nI c - 1 = nI (c - 1) from pq_nIsub (b := 1) (by omega)]
    exact pq_has had (by omega)
  have h2 : pf_has had (nI c + 1) ↔ bt had (c + 1) = true := by
    rw [nI_1]
    exact pq_has had (by omega)
  have h3 : ¬ c ≤ 3 → (pf_has had (nI c - 4) ↔ bt had (c - 4) = true) := fun q => by
    rw [show nI c - 4 = nI (c - 4) from pq_nIsub (b := 4) (by omega)]
    exact pq_has had (by omega)
  have h4 : pf_has had (nI c + 4) ↔ bt had (c + 4) = true := by
    rw [show nI c + 4 = nI (c + 4) from nI_add c 4]
    exact pq_has had (by omega)
  have ex : (∃ j, px_adj c j ∧ bt had j = true) ↔ ((¬ c % 4 = 0 ∧ bt had (c - 1) = true) ∨ (¬ c % 4 = 3 ∧ bt had (c + 1) = true) ∨ (¬ c ≤ 3 ∧ bt had (c - 4) = true) ∨ (¬ 12 ≤ c ∧ bt had (c + 4) = true)) := by
    constructor
    · rintro ⟨j, ⟨a1, a2⟩ | ⟨a1, a2⟩ | ⟨a1, a2⟩ | ⟨a1, a2⟩, hb⟩
      · exact Or.inl ⟨by omega, by rw [show c - 1 = j by omega]; exact hb⟩
      · exact Or.inr (Or.inl ⟨by omega, by rw [show c + 1 = j by omega]; exact hb⟩)
      · exact Or.inr (Or.inr (Or.inl ⟨by omega, by rw [show c - 4 = j by omega]; exact hb⟩))
      · exact Or.inr (Or.inr (Or.inr ⟨by omega, by rw [show c + 4 = j by omega]; exact hb⟩))
    · rintro (⟨a1, hb⟩ | ⟨a1, hb⟩ | ⟨a1, hb⟩ | ⟨a1, hb⟩)
      · exact ⟨c - 1, Or.inl ⟨by omega, by omega⟩, hb⟩
      · exact ⟨c + 1, Or.inr (Or.inl ⟨by omega, rfl⟩), hb⟩
      · exact ⟨c - 4, Or.inr (Or.inr (Or.inl ⟨by omega, by omega⟩)), hb⟩
      · exact ⟨c + 4, Or.inr (Or.inr (Or.inr ⟨by omega, rfl⟩)), hb⟩
  have pz0 : ∀ (P : Prop) [Decidable P], pz P = 0 ↔ ¬ P := fun P _ => by
    by_cases p : P
    · rw [pz_t p]; exact ⟨fun q => absurd q (by decide), fun q => absurd p q⟩
    · rw [pz_f p]; exact ⟨fun _ => p, fun _ => rfl⟩
  have one : ¬ (1 : Int32) = 0 := by decide
  rw [ex]
  unfold pv_mo_spread_14_0
  rw [em]
  simp only [i1, i2, i3, i4, h2, h4]
  by_cases g1 : c % 4 = 0
  · have g2 : ¬ c % 4 = 3 := by omega
    simp only [if_pos g1, if_neg g2]
    by_cases g3 : c ≤ 3
    · have g4 : ¬ 12 ≤ c := by omega
      simp only [if_pos g3]
      by_cases b2 : bt had (c + 1) = true <;> by_cases b4 : bt had (c + 4) = true <;> simp [pz, g1, g3, g4, b2, b4]
    · simp only [if_neg g3, h3 g3]
      by_cases g4 : 12 ≤ c <;> by_cases b2 : bt had (c + 1) = true <;> by_cases b3 : bt had (c - 4) = true <;> by_cases b4 : bt had (c + 4) = true <;> simp [pz, g1, show ¬ c ≤ 3 from g3, show 3 < c by omega, g4, show (c < 12) = ¬ 12 ≤ c from by rw [Nat.not_le], b2, b3, b4]
  · simp only [if_neg g1, h1 g1]
    by_cases g2 : c % 4 = 3
    · simp only [if_pos g2]
      by_cases g3 : c ≤ 3
      · have g4 : ¬ 12 ≤ c := by omega
        simp only [if_pos g3]
        by_cases b1 : bt had (c - 1) = true <;> by_cases b4 : bt had (c + 4) = true <;> simp [pz, g2, g3, g4, b1, b4]
      · simp only [if_neg g3, h3 g3]
        by_cases g4 : 12 ≤ c <;> by_cases b1 : bt had (c - 1) = true <;> by_cases b3 : bt had (c - 4) = true <;> by_cases b4 : bt had (c + 4) = true <;> simp [pz, g2, show ¬ c ≤ 3 from g3, show 3 < c by omega, g4, show (c < 12) = ¬ 12 ≤ c from by rw [Nat.not_le], b1, b3, b4]
    · simp only [if_neg g2]
      by_cases g3 : c ≤ 3
      · have g4 : ¬ 12 ≤ c := by omega
        simp only [if_pos g3]
        by_cases b1 : bt had (c - 1) = true <;> by_cases b2 : bt had (c + 1) = true <;> by_cases b4 : bt had (c + 4) = true <;> simp [pz, g1, g2, g3, g4, b1, b2, b4]
      · simp only [if_neg g3, h3 g3]
        by_cases g4 : 12 ≤ c <;> by_cases b1 : bt had (c - 1) = true <;> by_cases b2 : bt had (c + 1) = true <;> by_cases b3 : bt had (c - 4) = true <;> by_cases b4 : bt had (c + 4) = true <;> simp [pz, g1, g2, show ¬ c ≤ 3 from g3, show 3 < c by omega, g4, show (c < 12) = ¬ 12 ≤ c from by rw [Nat.not_le], b1, b2, b3, b4]
theorem px_spi (had S x : Int32) : ∀ k, k ≤ 16 → ∀ i, i < 32 → (bt (pf_spi had S x k) i = true ↔ bt x i = true ∨ (i < k ∧ bt S i = true ∧ ∃ j, px_adj i j ∧ bt had j = true))
  | 0, _, i, _ => by
    show bt x i = true ↔ _
    exact ⟨Or.inl, fun h => h.elim id (fun h => by omega)⟩
  | k + 1, hk, i, hi => by
    have ih := px_spi had S x k (by omega) i hi
    unfold pf_spi
    rw [b_or, Bool.or_eq_true, ih]
    have e : bt (pf_spc had S (nI k)) i = true ↔ i = k ∧ bt S i = true ∧ ∃ j, px_adj i j ∧ bt had j = true := by
      unfold pf_spc
      by_cases g : pv_mo_spread_14_0 had (nI k) = 0
      · rw [if_pos g, b_0]
        have := (pv_on had (by omega)).mp g
        exact ⟨fun q => (by cases q), fun q => absurd (q.1 ▸ q.2.2) this⟩
      · rw [if_neg g]
        by_cases g2 : pf_has S (nI k)
        · rw [if_neg (not_not_intro g2), pq_one (by omega) hi, decide_eq_true_iff]
          have g3 : ∃ j, px_adj k j ∧ bt had j = true := Classical.byContradiction (fun z => g ((pv_on had (by omega)).mpr z))
          exact ⟨fun q => ⟨q, by rw [q]; exact (pq_has S (by omega)).mp g2, by rw [q]; exact g3⟩, fun q => q.1⟩
        · rw [if_pos g2, b_0]
          exact ⟨fun q => (by cases q), fun q => absurd ((pq_has S (by omega)).mpr (q.1 ▸ q.2.1)) g2⟩
    rw [e]
    constructor
    · rintro ((h | ⟨h1, h2⟩) | ⟨h1, h2⟩)
      · exact Or.inl h
      · exact Or.inr ⟨by omega, h2⟩
      · exact Or.inr ⟨by omega, h2⟩
    · rintro (h | ⟨h1, h2⟩)
      · exact Or.inl (Or.inl h)
      · by_cases q : i = k
        · exact Or.inr ⟨q, h2⟩
        · exact Or.inl (Or.inr ⟨by omega, h2⟩)
theorem px_spr {S x : Int32} (hS : pq_16 S) (hx : pq_16 x) : pf_spr S x = px_F S x := by
  have b := px_spi x S x 16 (by omega)
  have lt : ∀ j, bt x j = true → j < 16 := fun j hj => Decidable.byContradiction (fun q => by rw [hx j (by omega)] at hj; cases hj)
  have h16 : pq_16 (pf_spr S x) := fun i hi => by
    by_cases h32 : i < 32
    · cases e : bt (pf_spr S x) i
      · rfl
      · rcases (b i h32).mp e with q | q
        · rw [hx i hi] at q; cases q
        · omega
    · exact b_big (by omega)
  refine pq_ext16 h16 (px_F16 hS hx) (fun i hi => ?_)
  show bt (pf_spi x S x 16) i = true ↔ _
  rw [b i (by omega), px_Fb hx hi]
  constructor
  · rintro (h | ⟨_, h2, j, h3, h4⟩)
    · exact Or.inl h
    · exact Or.inr ⟨h2, j, lt j h4, h3, h4⟩
  · rintro (h | ⟨h2, j, _, h3, h4⟩)
    · exact Or.inl h
    · exact Or.inr ⟨hi, h2, j, h3, h4⟩
theorem px_spn {S : Int32} (hS : pq_16 S) : ∀ (n : Nat) {x : Int32}, pq_16 x → pf_spn S n x = pf_pf S n x
  | 0, _, _ => rfl
  | n + 1, x, hx => by
    unfold pf_spn
    rw [px_spr hS hx, px_spn hS n (px_F16 hS hx)]
    rfl
theorem ss_spK (L : Nat) (hi : Nat → Nat → Int32) (hl : Nat → Nat → Int64) {S : Int32} (hS : pq_16 S) {c : Nat} (hc : c < 16) : pe_C pj_m133 [.int (1 <<< (nI c &&& 31)), .int S] (pj_SH L, hi, hl) (some (.int (px_K S c))) (pj_SH L, hi, hl) := by
  have e := px_spn hS 16 (pq_16one hc)
  have := ss_spread (1 <<< (nI c &&& 31)) S (pj_SH L, hi, hl) 16 (fun q => by
    have := px_one hc
    rw [q, b_0] at this
    cases this) (by
    rw [e, px_spr hS (px_pf16 hS 16 (pq_16one hc))]
    exact px_fix hS (pq_16one hc) hc (px_one hc))
  rw [e] at this
  exact this
/-! the model's fold -/
def px_y (m : Nat → Int32) (c : Nat) : Int32 := if ¬ m c = 0 then px_K (pf_ones m (m c) 16) c else 0
def px_mp (m : Nat → Int32) : Nat → Int32
  | 0 => 0
  | c + 1 => if px_bet (px_y m c) (px_mp m c) then px_y m c else px_mp m c
theorem ss_mpat (x : Int32) (L : Nat) (hi : Nat → Nat → Int32) (hl : Nat → Nat → Int64) (v : 0 ≤ x ∧ x ≤ 1) : pe_C pj_m134 [.ref 32, .int x] (pj_SH L, hi, hl) (some (.int (if ¬ x = 0 then px_mp (ph_asN hi 34) 16 else pf_bits (px_mp (ph_asN hi 34) 16) 16))) (pj_SH L, ph_asN hi, hl) := by
  refine (pb_mo_patch_0.trans (if_pos v)).mpr ?_
  generalize ph_asN hi = h
  have g : ∀ (n c : Nat) (a4 : Option Value), c + n = 16 → pe_E pj_m134 20 [some (.ref 32), some (.int x), some (.int (px_mp (h 34) c)), some (.int (nI c)), a4] [] (pj_SH L, h, hl) (some (.int (if ¬ x = 0 then px_mp (h 34) 16 else pf_bits (px_mp (h 34) 16) 16)), (pj_SH L, h, hl)) := by
    intro n
    induction n with
    | zero =>
      intro c a4 hc
      rw [show c = 16 by omega]
      exact ((pb_mo_patch_20 (fun h => absurd (Int32.le_refl _) h) (fun h => absurd (Int32.le_refl _) h)).trans ((if_pos (Int32.le_refl _)).trans pb_mo_patch_100)).mpr rfl
    | succ n ih =>
      intro c a4 hc
      have ix : ¬ (nI c < 0 ∨ 32 ≤ (nI c).toNatClampNeg) := pt_ixN (by omega) (by omega)
      refine ((pb_mo_patch_20 (fun _ => ix) (fun _ _ => ix)).trans (if_neg (show ¬ (16 : Int32) ≤ nI c from nI_ge (b := 16) (by omega) (by omega)))).mpr ?_
      rw [pt_clamp (by omega)]
      have ih := ih (c + 1) (some (.int (px_y (h 34) c))) (by omega)
      by_cases z : ¬ h 34 c = 0
      · rw [if_pos z]
        refine ((pk_mo_patch_52 (ss_spK L h hl (pq_ones16 _ _) (by omega))).trans pb_mo_patch_55).mpr ?_
        rw [px_mo, nI_1]
        have e : px_y (h 34) c = px_K (pf_ones (h 34) (h 34 c) 16) c := if_pos z
        rw [e] at ih
        have e2 : px_mp (h 34) (c + 1) = if px_bet (px_K (pf_ones (h 34) (h 34 c) 16) c) (px_mp (h 34) c) then px_K (pf_ones (h 34) (h 34 c) 16) c else px_mp (h 34) c := by rw [← e]; rfl
        rw [e2] at ih
        exact ih
      · rw [if_neg z]
        refine pb_mo_patch_55.mpr ?_
        rw [px_mo, nI_1]
        have e : px_y (h 34) c = 0 := if_neg z
        have e2 : px_mp (h 34) (c + 1) = if px_bet 0 (px_mp (h 34) c) then 0 else px_mp (h 34) c := by
          show (if px_bet (px_y (h 34) c) (px_mp (h 34) c) then px_y (h 34) c else px_mp (h 34) c) = _
          simp only [e]
        rw [e, e2] at ih
        exact ih
  exact g 16 0 none rfl
theorem px_mpC {m m' : Nat → Int32} (h : ∀ c, c < 16 → m' c = m c) : ∀ c, c ≤ 16 → px_mp m' c = px_mp m c
  | 0, _ => rfl
  | c + 1, hc => by
    have e : px_y m' c = px_y m c := by
      unfold px_y
      rw [h c (by omega), pf_onesC h _ 16 (Nat.le_refl _)]
    show (if px_bet (px_y m' c) (px_mp m' c) then px_y m' c else px_mp m' c) = (if px_bet (px_y m c) (px_mp m c) then px_y m c else px_mp m c)
    simp only [e, px_mpC h c (by omega)]
/-! both find the best of all patches -/
def px_Pm (m : Nat → Int32) (n : Nat) (z : Int32) : Prop := ∃ d, d < n ∧ ¬ m d = 0 ∧ z = px_K (pf_ones m (m d) 16) d
theorem px_Pm16 (m : Nat → Int32) (z : Int32) (h : px_Pm m 16 z) : pq_16 z := by
  obtain ⟨d, hd, _, rfl⟩ := h
  exact px_K16 (pq_ones16 _ _) hd
theorem px_mpI (m : Nat → Int32) : ∀ c, c ≤ 16 → px_I (px_Pm m c) (px_mp m c)
  | 0, _ => ⟨Or.inl rfl, fun y hy => by obtain ⟨d, hd, _⟩ := hy; omega⟩
  | c + 1, hc => by
    have ih := px_mpI m c (by omega)
    show px_I _ (if px_bet (px_y m c) (px_mp m c) then px_y m c else px_mp m c)
    by_cases z : m c = 0
    · have e : px_y m c = 0 := if_neg (not_not_intro z)
      have b16 : pq_16 (px_mp m c) := px_I16 (fun y hy => by obtain ⟨d, hd, _, rfl⟩ := hy; exact px_K16 (pq_ones16 _ _) (by omega)) ih
      have e2 : (if px_bet (px_y m c) (px_mp m c) then px_y m c else px_mp m c) = px_mp m c := by
        simp only [e]
        rw [if_neg (px_0 b16)]
      rw [e2]
      refine px_eqv (fun y => ⟨?_, ?_⟩) ih
      · rintro ⟨d, hd, h⟩; exact ⟨d, by omega, h⟩
      · rintro ⟨d, hd, h1, h2⟩
        by_cases q : d = c
        · subst q; exact absurd z h1
        · exact ⟨d, by omega, h1, h2⟩
    · refine px_eqv (fun y => ⟨?_, ?_⟩) (px_step ih (px_y m c))
      · rintro (⟨d, hd, h⟩ | rfl)
        · exact ⟨d, by omega, h⟩
        · exact ⟨c, by omega, z, if_pos z⟩
      · rintro ⟨d, hd, h1, h2⟩
        by_cases q : d = c
        · subst q; exact Or.inr (h2.trans (if_pos z).symm)
        · exact Or.inl ⟨d, by omega, h1, h2⟩
/-- patches of the first colours, and of those of a colour that are no more among the rest -/
def px_Pc (m : Nat → Int32) (k : Nat) (r : Int32) (z : Int32) : Prop := ∃ d, d < 16 ∧ z = px_K (pf_ones m (m d) 16) d ∧ ((∃ j, 1 ≤ j ∧ j < k ∧ m d = nI j) ∨ (m d = nI k ∧ bt r d = false))
theorem px_Pc16 (m : Nat → Int32) (k : Nat) (r z : Int32) (h : px_Pc m k r z) : pq_16 z := by
  obtain ⟨d, hd, rfl, _⟩ := h
  exact px_K16 (pq_ones16 _ _) hd
theorem px_gpi (m : Nat → Int32) (k : Nat) : ∀ (n : Nat) (b r : Int32), pq_16 r → (∀ i, i < 16 → bt r i = true → bt (pf_ones m (nI k) 16) i = true) → (∀ i j, i < 16 → j < 16 → bt r i = true → bt (pf_ones m (nI k) 16) j = true → px_adj i j → bt r j = true) → px_n r 16 ≤ n → px_I (px_Pc m k r) b → px_I (px_Pc m k 0) (pf_gpi n b r)
  | 0, b, r, hr, _, _, hn, hb => by
    rw [px_nz hr (by omega)] at hb
    exact hb
  | n + 1, b, r, hr, h1, h2, hn, hb => by
    unfold pf_gpi
    by_cases z : r = 0
    · rw [if_pos z]
      rw [z] at hb
      exact hb
    rw [if_neg z]
    obtain ⟨c, hc, cb, _, ec⟩ := pq_lowbit hr z
    have hS := pq_ones16 m (nI k)
    have cS := h1 c hc cb
    have eP : pf_pf r 16 (r &&& (-r)) = px_K (pf_ones m (nI k) 16) c := by
      rw [ec]
      exact px_Krest hS hr h1 h2 hc cb
    rw [eP]
    have K16 := px_K16 hS hc
    rw [px_cl (px_I16 (px_Pc16 m k r) hb) K16]
    have nb : ∀ {i : Nat}, i < 16 → (bt (r &&& (px_K (pf_ones m (nI k) 16) c ^^^ (-1))) i = true ↔ bt r i = true ∧ ¬ bt (px_K (pf_ones m (nI k) 16) c) i = true) := by
      intro i hi
      rw [b_and, pq_not _ (by omega), Bool.and_eq_true]
      cases bt (px_K (pf_ones m (nI k) 16) c) i <;> simp
    have Kc := px_Kc hS hc
    refine px_gpi m k n _ _ (pq_16and hr _) (fun i hi q => h1 i hi ((nb hi).mp q).1) (fun i j hi hj q1 q2 q3 => ?_) ?_ (px_eqv (fun y => ?_) (px_step hb (px_K (pf_ones m (nI k) 16) c)))
    · obtain ⟨a1, a2⟩ := (nb hi).mp q1
      exact (nb hj).mpr ⟨h2 i j hi hj a1 q2 q3, fun w => a2 (px_Kcl hS hc hi hj (h1 i hi a1) q3 w)⟩
    · have := px_nlt cb (fun w => ((nb hc).mp w).2 Kc) 16 hc (fun i hi w => ((nb hi).mp w).1)
      omega
    · constructor
      · rintro (⟨d, hd, e, h | ⟨e1, e2⟩⟩ | rfl)
        · exact ⟨d, hd, e, Or.inl h⟩
        · refine ⟨d, hd, e, Or.inr ⟨e1, ?_⟩⟩
          rw [b_and, e2]; rfl
        · have mc := (pq_onesb m (nI k) hc).mp cS
          refine ⟨c, hc, by rw [mc], Or.inr ⟨mc, ?_⟩⟩
          rw [b_and, pq_not _ (by omega), Kc, Bool.not_true, Bool.and_false]
      · rintro ⟨d, hd, e, h | ⟨e1, e2⟩⟩
        · exact Or.inl ⟨d, hd, e, Or.inl h⟩
        · by_cases w : bt r d = true
          · have dK : bt (px_K (pf_ones m (nI k) 16) c) d = true := Decidable.byContradiction (fun q => by
              have := (nb hd).mpr ⟨w, q⟩
              rw [e2] at this
              cases this)
            refine Or.inr ?_
            rw [e, e1]
            exact px_Keq hS hc hd cS dK
          · exact Or.inl ⟨d, hd, e, Or.inr ⟨e1, by cases q : bt r d; rfl; exact absurd q w⟩⟩
theorem px_gpo {f m : Nat → Int32} (hf : ∀ k, k < 7 → f k = pf_ones m (nI k) 16) : ∀ (n k : Nat) (b : Int32), 1 ≤ k → k + n = 7 → px_I (px_Pc m k (pf_ones m (nI k) 16)) b → px_I (fun z => ∃ d, d < 16 ∧ z = px_K (pf_ones m (m d) 16) d ∧ ∃ j, 1 ≤ j ∧ j < 7 ∧ m d = nI j) (pf_gpo f n k b)
  | 0, k, b, h1, hk, hb => by
    refine px_eqv (fun z => ⟨?_, ?_⟩) hb
    · rintro ⟨d, hd, e, ⟨j, j1, j2, j3⟩ | ⟨e1, e2⟩⟩
      · exact ⟨d, hd, e, j, j1, by omega, j3⟩
      · have := (pq_onesb m (nI k) hd).mpr e1
        rw [e2] at this
        cases this
    · rintro ⟨d, hd, e, j, j1, j2, j3⟩
      exact ⟨d, hd, e, Or.inl ⟨j, j1, by omega, j3⟩⟩
  | n + 1, k, b, h1, hk, hb => by
    unfold pf_gpo
    rw [pf_celN (by omega), hf k (by omega)]
    refine px_gpo hf n (k + 1) _ (by omega) (by omega) ?_
    have := px_gpi m k 16 b (pf_ones m (nI k) 16) (pq_ones16 _ _) (fun i _ q => q) (fun i j _ _ _ q _ => q) (px_nk _ 16) hb
    refine px_eqv (fun z => ⟨?_, ?_⟩) this
    · rintro ⟨d, hd, e, ⟨j, j1, j2, j3⟩ | ⟨e1, e2⟩⟩
      · exact ⟨d, hd, e, Or.inl ⟨j, j1, by omega, j3⟩⟩
      · exact ⟨d, hd, e, Or.inl ⟨k, h1, by omega, e1⟩⟩
    · rintro ⟨d, hd, e, ⟨j, j1, j2, j3⟩ | ⟨e1, e2⟩⟩
      · by_cases q : j = k
        · subst q; exact ⟨d, hd, e, Or.inr ⟨j3, b_0 d⟩⟩
        · exact ⟨d, hd, e, Or.inl ⟨j, j1, by omega, j3⟩⟩
      · have := (pq_onesb m (nI (k + 1)) hd).mpr e1
        rw [e2] at this
        cases this
theorem px_asK (hi : Nat → Nat → Int32) : pr_K hi (ph_asN hi) := ⟨rfl, rfl, rfl, rfl, rfl, rfl, rfl, rfl, rfl, rfl, rfl, rfl, rfl, rfl, rfl, rfl, rfl, rfl, rfl, rfl, rfl, rfl, rfl, rfl, rfl, rfl⟩
theorem px_as34 (hi : Nat → Nat → Int32) {c : Nat} (hc : c < 32) : ph_asN hi 34 c = hi 33 c := by
  show pf_upto (hi 34) (hi 33) 32 c = _
  unfold pf_upto
  rw [if_pos hc]
theorem pk_patch {L : Nat} (a : Int32) : pr_OK pr_R L pj_m79 pj_m134 [.int a] := by
  intro hi hl R
  obtain ⟨M, T, _⟩ := pr_Rin R
  have C1 := sa_sw_patch a L hi hl
  unfold pf_sw_patch at C1
  by_cases v : 0 ≤ a ∧ a ≤ 1
  case neg =>
    rw [if_pos v] at C1
    exact pr_ok C1 ((pb_mo_patch_0.trans (if_neg v)).mpr rfl) rfl R rfl rfl
  rw [if_neg (not_not_intro v)] at C1
  refine pr_ok C1 (ss_mpat a L hi hl v) ?_ (pr_RK (px_asK hi) R) rfl rfl
  rw [px_mpC (fun c hc => px_as34 hi (by omega)) 16 (Nat.le_refl _)]
  have i1 := px_mpI (hi 33) 16 (Nat.le_refl _)
  have i2 := px_gpo T.1 6 1 0 (by omega) rfl ⟨Or.inl rfl, fun y hy => by
    obtain ⟨d, hd, e, ⟨j, j1, j2, _⟩ | ⟨e1, e2⟩⟩ := hy
    · omega
    · have := (pq_onesb (hi 33) (nI 1) hd).mpr e1
      rw [e2] at this
      cases this⟩
  have e : px_mp (hi 33) 16 = pf_gpo (hi 3) 6 1 0 := by
    refine px_uni (px_Pm16 (hi 33)) i1 (px_eqv (fun z => ⟨?_, ?_⟩) i2)
    · rintro ⟨d, hd, e, j, j1, j2, j3⟩
      exact ⟨d, hd, by rw [j3]; exact nI_ne0 (by omega) (by omega), e⟩
    · rintro ⟨d, hd, h, e⟩
      obtain ⟨j, hj, ej⟩ := M.1 d hd
      exact ⟨d, hd, e, j, by
        rcases Nat.eq_zero_or_pos j with q | q
        · subst q; exact absurd ej h
        · exact q, hj, ej⟩
  unfold pf_sw_countOrSet
  rw [← e, pq_bc16 (px_I16 (px_Pm16 (hi 33)) i1)]
