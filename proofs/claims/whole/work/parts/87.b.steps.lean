/-! ===== steps ===== -/
/-- the model's row of what stands on each step -/
def pf_std : Nat → Int32 → (Nat → Nat → Int32) → (Nat → Nat → Int32)
  | 0, _, h => h
  | k + 1, x, h => pf_std k (x / 10) (pj_up h 38 (k + 1) (x - x / 10 * 10))
theorem st_val (x : Int32) (h : Nat → Nat → Int32) : pf_std 5 x h 38 1 = pf_cans (nI 1) x ∧ pf_std 5 x h 38 2 = pf_cans (nI 2) x ∧ pf_std 5 x h 38 3 = pf_cans (nI 3) x ∧ pf_std 5 x h 38 4 = pf_cans (nI 4) x ∧ pf_std 5 x h 38 5 = pf_cans (nI 5) x := by
  refine ⟨?_, ?_, ?_, ?_, ?_⟩
  all_goals
    unfold pf_cans
    simp only [show (5 - (nI 1).toInt).toNat = 4 by decide, show (5 - (nI 2).toInt).toNat = 3 by decide, show (5 - (nI 3).toInt).toNat = 2 by decide, show (5 - (nI 4).toInt).toNat = 1 by decide, show (5 - (nI 5).toInt).toNat = 0 by decide]
    simp [pf_std, pj_up, upd, pf_div10]
theorem st_row (j : Nat) (hj : ¬ j = 38) : ∀ (k : Nat) (x : Int32) (h : Nat → Nat → Int32), pf_std k x h j = h j
  | 0, _, _ => rfl
  | k + 1, x, h => by
    unfold pf_std
    rw [st_row j hj k]
    unfold pj_up
    rw [if_neg hj]
theorem st_x1 (a b c h : Int32) : (((a ^^^ b) ^^^ c) ^^^ a) ^^^ h = ((0 ^^^ h) ^^^ b) ^^^ c := b_ext fun i hi => by
  simp only [b_xor, b_0]
  cases bt a i <;> cases bt b i <;> cases bt c i <;> cases bt h i <;> rfl
theorem st_x3 (a b c h : Int32) : (((a ^^^ b) ^^^ c) ^^^ b) ^^^ h = ((0 ^^^ a) ^^^ h) ^^^ c := b_ext fun i hi => by
  simp only [b_xor, b_0]
  cases bt a i <;> cases bt b i <;> cases bt c i <;> cases bt h i <;> rfl
theorem st_x5 (a b c h : Int32) : (((a ^^^ b) ^^^ c) ^^^ c) ^^^ h = ((0 ^^^ a) ^^^ b) ^^^ h := b_ext fun i hi => by
  simp only [b_xor, b_0]
  cases bt a i <;> cases bt b i <;> cases bt c i <;> cases bt h i <;> rfl
def st_W (x : Int32) : Int32 := (pf_cans (nI 1) x ^^^ pf_cans (nI 3) x) ^^^ pf_cans (nI 5) x
def st_o (s : Int32) : Int32 := if ¬ (s - s / 2 * 2) = 1 then (s - 1) else s
theorem st_odd1 (x y : Int32) : pf_odd x (nI 1) y = (st_W x ^^^ pf_cans (nI 1) x) ^^^ (pf_cans (nI 1) x - y) := by
  unfold st_W
  rw [st_x1]
  unfold pf_odd pf_odd1
  rw [if_neg (show ¬ ¬ (1 : Int32) = nI 1 by decide), if_pos (show ¬ (3 : Int32) = nI 1 by decide), if_pos (show ¬ (3 : Int32) = nI 1 - 1 by decide), if_pos (show ¬ (5 : Int32) = nI 1 by decide), if_pos (show ¬ (5 : Int32) = nI 1 - 1 by decide)]
  rfl
theorem st_odd2 (x y : Int32) : pf_odd x (nI 2) y = (st_W x ^^^ pf_cans (nI 1) x) ^^^ (pf_cans (nI 1) x + y) := by
  unfold st_W
  rw [st_x1]
  unfold pf_odd pf_odd1
  rw [if_pos (show ¬ (1 : Int32) = nI 2 by decide), if_neg (show ¬ ¬ (1 : Int32) = nI 2 - 1 by decide), if_pos (show ¬ (3 : Int32) = nI 2 by decide), if_pos (show ¬ (3 : Int32) = nI 2 - 1 by decide), if_pos (show ¬ (5 : Int32) = nI 2 by decide), if_pos (show ¬ (5 : Int32) = nI 2 - 1 by decide)]
  rfl
theorem st_odd3 (x y : Int32) : pf_odd x (nI 3) y = (st_W x ^^^ pf_cans (nI 3) x) ^^^ (pf_cans (nI 3) x - y) := by
  unfold st_W
  rw [st_x3]
  unfold pf_odd pf_odd1
  rw [if_pos (show ¬ (1 : Int32) = nI 3 by decide), if_pos (show ¬ (1 : Int32) = nI 3 - 1 by decide), if_neg (show ¬ ¬ (3 : Int32) = nI 3 by decide), if_pos (show ¬ (5 : Int32) = nI 3 by decide), if_pos (show ¬ (5 : Int32) = nI 3 - 1 by decide)]
  rfl
theorem st_odd4 (x y : Int32) : pf_odd x (nI 4) y = (st_W x ^^^ pf_cans (nI 3) x) ^^^ (pf_cans (nI 3) x + y) := by
  unfold st_W
  rw [st_x3]
  unfold pf_odd pf_odd1
  rw [if_pos (show ¬ (1 : Int32) = nI 4 by decide), if_pos (show ¬ (1 : Int32) = nI 4 - 1 by decide), if_pos (show ¬ (3 : Int32) = nI 4 by decide), if_neg (show ¬ ¬ (3 : Int32) = nI 4 - 1 by decide), if_pos (show ¬ (5 : Int32) = nI 4 by decide), if_pos (show ¬ (5 : Int32) = nI 4 - 1 by decide)]
  rfl
theorem st_odd5 (x y : Int32) : pf_odd x (nI 5) y = (st_W x ^^^ pf_cans (nI 5) x) ^^^ (pf_cans (nI 5) x - y) := by
  unfold st_W
  rw [st_x5]
  unfold pf_odd pf_odd1
  rw [if_pos (show ¬ (1 : Int32) = nI 5 by decide), if_pos (show ¬ (1 : Int32) = nI 5 - 1 by decide), if_pos (show ¬ (3 : Int32) = nI 5 by decide), if_pos (show ¬ (3 : Int32) = nI 5 - 1 by decide), if_neg (show ¬ ¬ (5 : Int32) = nI 5 by decide)]
  rfl
theorem st_cond (x y : Int32) (h : Nat → Int32) (h1 : h 1 = pf_cans (nI 1) x) (h3 : h 3 = pf_cans (nI 3) x) (h5 : h 5 = pf_cans (nI 5) x) {s : Nat} (s1 : 1 ≤ s) (s5 : s ≤ 5) : ((st_W x ^^^ (h (if ¬ (nI s - nI s / 2 * 2) = 1 then (nI s - 1) else nI s : Int32).toNatClampNeg)) ^^^ (if ¬ (nI s - nI s / 2 * 2) = 1 then ((h (if ¬ (nI s - nI s / 2 * 2) = 1 then (nI s - 1) else nI s : Int32).toNatClampNeg) + y) else ((h (if ¬ (nI s - nI s / 2 * 2) = 1 then (nI s - 1) else nI s : Int32).toNatClampNeg) - y))) = pf_odd x (nI s) y := by
  rcases (show s = 1 ∨ s = 2 ∨ s = 3 ∨ s = 4 ∨ s = 5 by omega) with rfl | rfl | rfl | rfl | rfl
  · rw [st_odd1, if_neg (by decide), if_neg (by decide), show (nI 1).toNatClampNeg = 1 by decide, h1]
  · rw [st_odd2, if_pos (by decide), if_pos (by decide), show (nI 2 - 1).toNatClampNeg = 1 by decide, h1]
  · rw [st_odd3, if_neg (by decide), if_neg (by decide), show (nI 3).toNatClampNeg = 3 by decide, h3]
  · rw [st_odd4, if_pos (by decide), if_pos (by decide), show (nI 4 - 1).toNatClampNeg = 3 by decide, h3]
  · rw [st_odd5, if_neg (by decide), if_neg (by decide), show (nI 5).toNatClampNeg = 5 by decide, h5]
theorem st_ix {s : Nat} (s1 : 1 ≤ s) (s5 : s ≤ 5) : ¬ ((if ¬ (nI s - nI s / 2 * 2) = 1 then (nI s - 1) else nI s : Int32) < 0 ∨ 6 ≤ ((if ¬ (nI s - nI s / 2 * 2) = 1 then (nI s - 1) else nI s : Int32)).toNatClampNeg) :=
  (by decide +kernel : ∀ s, s < 6 → 1 ≤ s → ¬ ((if ¬ (nI s - nI s / 2 * 2) = 1 then (nI s - 1) else nI s : Int32) < 0 ∨ 6 ≤ ((if ¬ (nI s - nI s / 2 * 2) = 1 then (nI s - 1) else nI s : Int32)).toNatClampNeg)) s (by omega) s1
theorem ss_mst (x1 x2 : Int32) (L : Nat) (hi : Nat → Nat → Int32) (hl : Nat → Nat → Int64) (v1 : 0 ≤ x1 ∧ x1 ≤ 99999) (v2 : 0 ≤ x2 ∧ x2 ≤ 1) : pe_C pj_m148 [.ref 32, .int x1, .int x2] (pj_SH L, hi, hl) (some (.int (if ¬ x2 = 1 then pz (¬ st_W x1 = 0) else pf_lwo x1 5 1))) (pj_SH L, pf_std 5 x1 hi, hl) := by
  refine (pb_mo_steps_0.trans ((if_neg (not_not_intro v1)).trans (if_pos v2))).mpr ?_
  have g1 : ∀ (o : Option Value × pj_H) (k : Nat) (x3 : Int32) (h : Nat → Nat → Int32), k ≤ 5 → (∀ y3 y4, pe_E pj_m148 54 [some (.ref 32), some (.int x1), some (.int x2), some (.int y3), some (.int y4), none, none, none, none] [] (pj_SH L, pf_std k x3 h, hl) o) → pe_E pj_m148 27 [some (.ref 32), some (.int x1), some (.int x2), some (.int x3), some (.int (nI k)), none, none, none, none] [] (pj_SH L, h, hl) o := by
    intro o k
    induction k with
    | zero =>
      intro x3 h _ K
      exact ((pb_mo_steps_27 (fun h => absurd (Int32.le_refl _) h)).trans (if_pos (Int32.le_refl _))).mpr (K _ _)
    | succ k ih =>
      intro x3 h hk K
      refine ((pb_mo_steps_27 (fun _ => pt_ixN (by omega) (by omega))).trans (if_neg (nI_nle (by omega) (by omega)))).mpr ?_
      rw [pt_clamp (by omega), show nI (k + 1) + (-1) = nI k from by rw [← nI_pred k]; exact (Int32.sub_eq_add_neg _ _).symm]
      exact ih _ _ (by omega) K
  refine g1 _ 5 x1 hi (Nat.le_refl _) (fun y3 y4 => pb_mo_steps_54.mpr ?_)
  obtain ⟨e1, e2, e3, e4, e5⟩ := st_val x1 hi
  have eW : ((pf_std 5 x1 hi 38 1 ^^^ pf_std 5 x1 hi 38 3) ^^^ pf_std 5 x1 hi 38 5) = st_W x1 := by rw [e1, e3, e5]; rfl
  rw [eW]
  have eS : ∀ s, 1 ≤ s → s ≤ 5 → pf_std 5 x1 hi 38 s = pf_cans (nI s) x1 := by
    intro s s1 s5
    rcases (show s = 1 ∨ s = 2 ∨ s = 3 ∨ s = 4 ∨ s = 5 by omega) with rfl | rfl | rfl | rfl | rfl
    · exact e1
    · exact e2
    · exact e3
    · exact e4
    · exact e5
  generalize pf_std 5 x1 hi = hi2 at *
  by_cases w : ¬ x2 = 1
  · refine (pb_mo_steps_79.trans ((if_neg (by decide)).trans (if_pos w))).mpr ?_
    rw [if_pos w, if_pos w]
  rw [if_neg w]
  have inner : ∀ (o : Option Value × pj_H) (s : Nat), 1 ≤ s → s ≤ 5 → (pf_lwi x1 (nI s) 10 1 = none → ∀ x6 a7 a8, pe_E pj_m148 79 [some (.ref 32), some (.int x1), some (.int x2), some (.int y3), some (.int (st_W x1)), some (.int (nI (s + 1))), some (.int x6), a7, a8] [] (pj_SH L, hi2, hl) o) → (∀ v, pf_lwi x1 (nI s) 10 1 = some v → (some (.int v), (pj_SH L, hi2, hl)) = o) → ∀ (n k : Nat) (a7 a8 : Option Value), k + n = 11 → pf_lwi x1 (nI s) n k = pf_lwi x1 (nI s) 10 1 → pe_E pj_m148 94 [some (.ref 32), some (.int x1), some (.int x2), some (.int y3), some (.int (st_W x1)), some (.int (nI s)), some (.int (nI k)), a7, a8] [] (pj_SH L, hi2, hl) o := by
    intro o s s1 s5 K1 K2 n
    have cc := st_ix s1 s5
    induction n with
    | zero =>
      intro k a7 a8 hk he
      rw [show k = 11 by omega] at he ⊢
      have hc : pf_cans (nI s) x1 < nI 11 := by
        rw [pt_lt]
        have := pt_rem10 (pf_div10 (5 - (nI s).toInt).toNat x1)
        exact Int.lt_of_le_of_lt this (by decide)
      refine (pb_mo_steps_94 (pt_ixN (by omega) (by omega)) (fun _ _ => cc) (fun _ _ => cc) (fun _ => cc)).mpr ?_
      rw [pt_clamp (by omega), eS s s1 s5, if_pos hc, nI_1]
      exact K1 he.symm _ _ _
    | succ n ih =>
      intro k a7 a8 hk he
      refine (pb_mo_steps_94 (pt_ixN (by omega) (by omega)) (fun _ _ => cc) (fun _ _ => cc) (fun _ => cc)).mpr ?_
      unfold pf_lwi at he
      have ec := st_cond x1 (nI k) (hi2 38) e1 e3 e5 s1 s5
      rw [pt_clamp (show s < 2147483648 by omega), eS s s1 s5]
      by_cases h1 : pf_cans (nI s) x1 < nI k
      · rw [if_pos h1] at he ⊢
        rw [nI_1]
        exact K1 he.symm _ _ _
      · rw [if_neg h1] at he ⊢
        rw [ec]
        by_cases h2 : ¬ pf_odd x1 (nI s) (nI k) = 0
        · rw [if_pos h2] at he ⊢
          rw [nI_1]
          exact ih (k + 1) _ _ (by omega) he
        · rw [if_neg h2] at he ⊢
          exact K2 _ he.symm
  have outer : ∀ (n s : Nat) (a6 a7 a8 : Option Value), 1 ≤ s → s + n = 6 → pe_E pj_m148 79 [some (.ref 32), some (.int x1), some (.int x2), some (.int y3), some (.int (st_W x1)), some (.int (nI s)), a6, a7, a8] [] (pj_SH L, hi2, hl) (some (.int (pf_lwo x1 n s)), (pj_SH L, hi2, hl)) := by
    intro n
    induction n with
    | zero =>
      intro s a6 a7 a8 s1 hs
      rw [show s = 6 by omega]
      refine (pb_mo_steps_79.trans (if_pos (Int32.le_refl _))).mpr ?_
      rw [if_neg w]
      rfl
    | succ n ih =>
      intro s a6 a7 a8 s1 hs
      refine (pb_mo_steps_79.trans ((if_neg (show ¬ (6 : Int32) ≤ nI s from nI_ge (b := 6) (by omega) (by omega))).trans (if_neg w))).mpr ?_
      refine inner _ s s1 (by omega) (fun e x6 a7 a8 => ?_) (fun v e => ?_) 10 1 _ _ rfl rfl
      · have := ih (s + 1) (some (.int x6)) a7 a8 (by omega) (by omega)
        unfold pf_lwo
        rw [e]
        exact this
      · unfold pf_lwo
        rw [e]
  exact outer 5 1 _ _ _ (by omega) rfl
/-! who wins -/
theorem st_none {c s : Int32} : ∀ (n k : Nat), 1 ≤ k → k + n ≤ 11 → (∀ j, 1 ≤ j → j ≤ 10 → ¬ pf_cans s c < nI j → ¬ pf_odd c s (nI j) = 0) → pf_lwi c s n k = none
  | 0, _, _, _, _ => rfl
  | n + 1, k, h1, h2, h => by
    unfold pf_lwi
    by_cases g : pf_cans s c < nI k
    · rw [if_pos g]
    · rw [if_neg g, if_pos (h k h1 (by omega) g)]
      exact st_none n (k + 1) (by omega) (by omega) h
theorem st_some {c s : Int32} {j : Nat} (hj : j ≤ 10) (h1 : ∀ k, k ≤ j → ¬ pf_cans s c < nI k) (h2 : pf_odd c s (nI j) = 0) : ∀ (n k : Nat), k ≤ j → j < k + n → ¬ pf_lwi c s n k = none
  | 0, _, _, _ => by omega
  | n + 1, k, g1, g2 => by
    unfold pf_lwi
    rw [if_neg (h1 k g1)]
    by_cases e : ¬ pf_odd c s (nI k) = 0
    · rw [if_pos e]
      by_cases ek : k = j
      · subst ek; exact absurd h2 e
      · exact st_some hj h1 h2 n (k + 1) (by omega) (by omega)
    · rw [if_neg e]
      exact fun q => by cases q
theorem st_pos {c : Int32} {s : Nat} (hs : s ≤ 5) {v : Int32} : ∀ (n k : Nat), k + n ≤ 11 → pf_lwi c (nI s) n k = some v → ¬ v = -6
  | 0, _, _, h => by cases h
  | n + 1, k, h1, h => by
    unfold pf_lwi at h
    split at h
    · cases h
    · split at h
      · exact st_pos hs n (k + 1) (by omega) h
      · cases h
        rw [show (10 : Int32) * nI s = nI (10 * s) from pt_nmul 10 s, nI_add]
        intro e
        have := congrArg Int32.toInt e
        rw [pt_nI (by omega), show (-6 : Int32).toInt = -6 by decide] at this
        omega
theorem st_lwoN {c : Int32} : ∀ (n s : Nat), (∀ t, s ≤ t → t < s + n → pf_lwi c (nI t) 10 1 = none) → pf_lwo c n s = -6
  | 0, _, _ => rfl
  | n + 1, s, h => by
    unfold pf_lwo
    rw [h s (by omega) (by omega)]
    exact st_lwoN n (s + 1) (fun t h1 h2 => h t (by omega) (by omega))
theorem st_lwoS {c : Int32} {t : Nat} (ht : ¬ pf_lwi c (nI t) 10 1 = none) : ∀ (n s : Nat), s + n ≤ 6 → s ≤ t → t < s + n → ¬ pf_lwo c n s = -6
  | 0, _, _, _, _ => by omega
  | n + 1, s, h0, h1, h2 => by
    unfold pf_lwo
    cases e : pf_lwi c (nI s) 10 1 with
    | some v => exact st_pos (by omega) 10 1 (by omega) e
    | none =>
      by_cases g : s = t
      · subst g; exact absurd e ht
      · exact st_lwoS ht n (s + 1) (by omega) (by omega) (by omega)
theorem st_div : ∀ (k n : Nat), n < 2147483648 → ∃ m, m < 2147483648 ∧ pf_div10 k (nI n) = nI m
  | 0, n, h => ⟨n, h, rfl⟩
  | k + 1, n, h => by
    unfold pf_div10
    rw [show nI n / 10 = nI (n / 10) from pt_ndiv (d := 10) h (by omega) (by omega)]
    exact st_div k (n / 10) (by omega)
theorem st_dig {n : Nat} (hn : n < 2147483648) (s : Int32) : ∃ d, d < 10 ∧ pf_cans s (nI n) = nI d := by
  unfold pf_cans
  obtain ⟨m, hm, e⟩ := st_div (5 - s.toInt).toNat n hn
  rw [e]
  exact ⟨m % 10, Nat.mod_lt _ (by omega), pt_nmod (d := 10) hm (by omega) (by omega)⟩
theorem st_nim : ∀ a, a < 10 → ∀ b, b < 10 → ∀ c, c < 10 → ¬ (a ^^^ b) ^^^ c = 0 → (((a ^^^ b) ^^^ c) ^^^ a < a ∨ ((a ^^^ b) ^^^ c) ^^^ b < b ∨ ((a ^^^ b) ^^^ c) ^^^ c < c) := by decide +kernel
theorem st_xb : ∀ a, a < 10 → ∀ b, b < 10 → ∀ c, c < 10 → (a ^^^ b) ^^^ c < 2147483648 := by decide +kernel
theorem st_xx (a b : Int32) : (a ^^^ b) ^^^ (a ^^^ b) = 0 := b_ext fun i hi => by
  simp only [b_xor, b_0]
  cases bt a i <;> cases bt b i <;> rfl
theorem st_x0 {a b : Int32} (h : (0 ^^^ a) ^^^ b = 0) : a = b := b_ext fun i hi => by
  have := congrArg (fun z => bt z i) h
  simp only [b_xor, b_0] at this
  revert this
  cases bt a i <;> cases bt b i <;> simp
theorem st_win {n : Nat} (hn : n < 2147483648) : pf_lwo (nI n) 5 1 = -6 ↔ st_W (nI n) = 0 := by
  obtain ⟨a, ha, ea⟩ := st_dig hn (nI 1)
  obtain ⟨b, hb, eb⟩ := st_dig hn (nI 3)
  obtain ⟨c, hc, ec⟩ := st_dig hn (nI 5)
  have eW : st_W (nI n) = nI ((a ^^^ b) ^^^ c) := by unfold st_W; rw [ea, eb, ec, nx_xor, nx_xor]
  have bW := st_xb a ha b hb c hc
  constructor
  · intro e
    refine Decidable.byContradiction (fun w => ?_)
    have w0 : ¬ (a ^^^ b) ^^^ c = 0 := fun z => w (by rw [eW, z]; rfl)
    have mk : ∀ (s d : Nat), 1 ≤ s → s ≤ 5 → d < 10 → pf_cans (nI s) (nI n) = nI d → (∀ y, pf_odd (nI n) (nI s) y = (st_W (nI n) ^^^ nI d) ^^^ (nI d - y)) → ((a ^^^ b) ^^^ c) ^^^ d < d → False := by
      intro s d s1 s5 hd ed eo hlt
      refine st_lwoS (t := s) (st_some (j := d - (((a ^^^ b) ^^^ c) ^^^ d)) (by omega) (fun k hk => ?_) ?_ 10 1 (by omega) (by omega)) 5 1 (by omega) (by omega) (by omega) e
      · rw [ed]; exact nI_nlt (by omega) (by omega)
      · rw [eo, eW, nx_xor, show nI d - nI (d - (((a ^^^ b) ^^^ c) ^^^ d)) = nI (((a ^^^ b) ^^^ c) ^^^ d) from by rw [pq_nIsub (by omega), show d - (d - (((a ^^^ b) ^^^ c) ^^^ d)) = ((a ^^^ b) ^^^ c) ^^^ d by omega], nx_xor, Nat.xor_self]
        rfl
    rcases st_nim a ha b hb c hc w0 with h | h | h
    · exact mk 1 a (by omega) (by omega) ha ea (fun y => by rw [st_odd1, ea]) h
    · exact mk 3 b (by omega) (by omega) hb eb (fun y => by rw [st_odd3, eb]) h
    · exact mk 5 c (by omega) (by omega) hc ec (fun y => by rw [st_odd5, ec]) h
  · intro w
    refine st_lwoN 5 1 (fun t h1 h2 => st_none 10 1 (by omega) (by omega) (fun j j1 j2 g q => ?_))
    have minus : ∀ d, d < 10 → ¬ nI d < nI j → (0 ^^^ nI d) ^^^ (nI d - nI j) = 0 → False := by
      intro d hd gd z
      have z := st_x0 z
      have hj : j ≤ d := by
        refine Decidable.byContradiction (fun k => gd (nI_lt (by omega) (by omega)))
      rw [pq_nIsub hj, nI_eq (by omega) (by omega)] at z
      omega
    have plus : ∀ d, d < 10 → (0 ^^^ nI d) ^^^ (nI d + nI j) = 0 → False := by
      intro d hd z
      have z := st_x0 z
      rw [nI_add, nI_eq (by omega) (by omega)] at z
      omega
    rcases (show t = 1 ∨ t = 2 ∨ t = 3 ∨ t = 4 ∨ t = 5 by omega) with rfl | rfl | rfl | rfl | rfl
    · rw [st_odd1, w, ea] at q; rw [ea] at g; exact minus a ha g q
    · rw [st_odd2, w, ea] at q; exact plus a ha q
    · rw [st_odd3, w, eb] at q; rw [eb] at g; exact minus b hb g q
    · rw [st_odd4, w, eb] at q; exact plus b hb q
    · rw [st_odd5, w, ec] at q; rw [ec] at g; exact minus c hc g q
theorem pk_steps {L : Nat} (a b : Int32) : pr_OK pr_R L pj_m88 pj_m148 [.int a, .int b] := by
  intro hi hl R
  have C1 := sa_sw_steps a b L hi hl
  unfold pf_sw_steps at C1
  by_cases v1 : 0 ≤ a ∧ a ≤ 99999
  case neg =>
    rw [if_pos v1] at C1
    exact pr_ok C1 ((pb_mo_steps_0.trans (if_pos v1)).mpr rfl) rfl R rfl rfl
  rw [if_neg (not_not_intro v1)] at C1
  by_cases v2 : 0 ≤ b ∧ b ≤ 1
  case neg =>
    rw [if_neg v2] at C1
    exact pr_ok C1 ((pb_mo_steps_0.trans ((if_neg (not_not_intro v1)).trans (if_neg v2))).mpr rfl) rfl R rfl rfl
  rw [if_pos v2] at C1
  have st := fun j hj => st_row j hj 5 a hi
  refine pr_ok C1 (ss_mst a b L hi hl v1 v2) ?_ (pr_RK (hi := hi) (hl := hl) ?_ R) rfl (st 0 (by omega))
  · obtain ⟨q, hq, rfl⟩ := pt_of v2 (show (1 : Int32).toInt = (1 : Nat) by decide)
    obtain ⟨n, hn, rfl⟩ := pt_of v1 (show (99999 : Int32).toInt = (99999 : Nat) by decide)
    rcases (show q = 0 ∨ q = 1 by omega) with rfl | rfl
    · rw [if_pos (by decide), if_neg (by decide)]
      have := st_win (n := n) (by omega)
      by_cases z : st_W (nI n) = 0
      · rw [pz_nt z, pz_nt (this.mpr z)]
      · rw [pz_t z, pz_t (show ¬ pf_lwo (nI n) 5 1 = -6 from fun y => z (this.mp y))]
    · rw [if_neg (by decide), if_pos (by decide)]
  · unfold pr_K
    simp only [st _ (show ¬ 1 = 38 by omega), st _ (show ¬ 3 = 38 by omega), st _ (show ¬ 4 = 38 by omega), st _ (show ¬ 5 = 38 by omega), st _ (show ¬ 10 = 38 by omega), st _ (show ¬ 11 = 38 by omega), st _ (show ¬ 12 = 38 by omega), st _ (show ¬ 13 = 38 by omega), st _ (show ¬ 14 = 38 by omega), st _ (show ¬ 15 = 38 by omega), st _ (show ¬ 16 = 38 by omega), st _ (show ¬ 17 = 38 by omega), st _ (show ¬ 18 = 38 by omega), st _ (show ¬ 19 = 38 by omega), st _ (show ¬ 33 = 38 by omega), st _ (show ¬ 35 = 38 by omega), st _ (show ¬ 36 = 38 by omega), st _ (show ¬ 40 = 38 by omega), st _ (show ¬ 41 = 38 by omega), st _ (show ¬ 2 = 38 by omega), st _ (show ¬ 32 = 38 by omega), and_self]
