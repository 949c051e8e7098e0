/-! ===== cover ===== -/
def pf_mch (m : Nat → Int32) (x : Int32) : Nat → Int32
  | 0 => 0
  | k + 1 => pf_mch m x k ||| (if ¬ (pf_has x (nI k)) then (0 : Int32) else m (16 + k))
theorem pf_mchE {f m : Nat → Int32} (h : ∀ i, i < 8 → f i = m (16 + i)) (x : Int32) : ∀ k, k ≤ 8 → pf_hoa f x k = pf_mch m x k
  | 0, _ => rfl
  | k + 1, hk => by
    unfold pf_hoa pf_mch
    rw [pf_mchE h x k (by omega), h k (by omega)]
    by_cases g : pf_has x (nI k)
    · rw [if_neg (not_not_intro g), if_neg (not_not_intro g)]
    · rw [if_pos g, if_pos g, Int32.or_zero]
def pf_mcs (m : Nat → Int32) (x1 x3 x4 : Int32) : Int32 := (if ¬ (x1 &&& (pf_mch m x4 8 ^^^ (-1))) = 0 then x3 else (if x3 < 0 then x4 else (if (pf_bits x3 16) ≤ (pf_bits x4 16) then x3 else x4)))
def pf_mcv (m : Nat → Int32) (x1 : Int32) : Nat → Int32
  | 0 => -6
  | k + 1 => pf_mcs m x1 (pf_mcv m x1 k) (nI (k + 1))
theorem ss_mcv (x1 x2 : Int32) (L : Nat) (hi : Nat → Nat → Int32) (hl : Nat → Nat → Int64) (v1 : 1 ≤ x1 ∧ x1 ≤ 65535) (v2 : 0 ≤ x2 ∧ x2 ≤ 1) : pe_C pj_m136 [.ref 32, .int x1, .int x2] (pj_SH L, hi, hl) (some (.int (if pf_mcv (hi 33) x1 255 < 0 then pf_mcv (hi 33) x1 255 else (if ¬ x2 = 1 then (pf_bits (pf_mcv (hi 33) x1 255) 16) else pf_mcv (hi 33) x1 255)))) (pj_SH L, hi, hl) := by
  refine (pb_mo_cover_0.trans ((if_neg (not_not_intro v1)).trans (if_pos v2))).mpr ?_
  have inn : ∀ (o : Option Value × pj_H) (x3 x4 : Int32) (n k : Nat), k + n = 8 → (∀ y, pe_E pj_m136 84 [some (.ref 32), some (.int x1), some (.int x2), some (.int x3), some (.int x4), some (.int (pf_mch (hi 33) x4 8)), some (.int y)] [] (pj_SH L, hi, hl) o) → pe_E pj_m136 42 [some (.ref 32), some (.int x1), some (.int x2), some (.int x3), some (.int x4), some (.int (pf_mch (hi 33) x4 k)), some (.int (nI k))] [] (pj_SH L, hi, hl) o := by
    intro o x3 x4 n
    induction n with
    | zero =>
      intro k hk K
      rw [show k = 8 by omega]
      exact ((pb_mo_cover_42 (fun h => absurd (Int32.le_refl _) h)).trans (if_pos (Int32.le_refl _))).mpr (K _)
    | succ n ih =>
      intro k hk K
      refine ((pb_mo_cover_42 (fun _ _ => by rw [pt_16 (by omega)]; exact pt_ixN (by omega) (by omega))).trans (if_neg (show ¬ (8 : Int32) ≤ nI k from nI_ge (b := 8) (by omega) (by omega)))).mpr ?_
      rw [pt_16 (by omega), pt_clamp (by omega), nI_1]
      exact ih (k + 1) (by omega) K
  have out : ∀ (n k : Nat) (a5 a6 : Option Value), k + n = 255 → pe_E pj_m136 28 [some (.ref 32), some (.int x1), some (.int x2), some (.int (pf_mcv (hi 33) x1 k)), some (.int (nI (k + 1))), a5, a6] [] (pj_SH L, hi, hl) (some (.int (if pf_mcv (hi 33) x1 255 < 0 then pf_mcv (hi 33) x1 255 else (if ¬ x2 = 1 then (pf_bits (pf_mcv (hi 33) x1 255) 16) else pf_mcv (hi 33) x1 255))), (pj_SH L, hi, hl)) := by
    intro n
    induction n with
    | zero =>
      intro k a5 a6 hk
      rw [show k = 255 by omega]
      exact (pb_mo_cover_28.trans ((if_pos (show (256 : Int32) ≤ nI 256 from Int32.le_refl _)).trans pb_mo_cover_122)).mpr rfl
    | succ n ih =>
      intro k a5 a6 hk
      refine (pb_mo_cover_28.trans (if_neg (show ¬ (256 : Int32) ≤ nI (k + 1) from nI_ge (b := 256) (by omega) (by omega)))).mpr ?_
      refine inn _ _ _ 8 0 rfl (fun y => pb_mo_cover_84.mpr ?_)
      rw [nI_1]
      exact ih (k + 1) _ _ (by omega)
  exact out 255 0 none none rfl
theorem pc_few {f m : Nat → Int32} (h : ∀ i, i < 8 → f i = m (16 + i)) (x1 : Int32) : ∀ k, k ≤ 255 → (pf_few f x1 k = 0 ∧ pf_mcv m x1 k = -6) ∨ (∃ j, 1 ≤ j ∧ j ≤ 255 ∧ pf_few f x1 k = nI j ∧ pf_mcv m x1 k = nI j)
  | 0, _ => Or.inl ⟨rfl, rfl⟩
  | k + 1, hk => by
    have b16 : ∀ j, j ≤ 255 → pf_bc (nI j) = pf_bits (nI j) 16 := fun j hj => pq_bc16 (pq_16n (by omega))
    have ih := pc_few h x1 k (by omega)
    show (pf_fews f x1 (pf_few f x1 k) (nI (k + 1)) = 0 ∧ pf_mcs m x1 (pf_mcv m x1 k) (nI (k + 1)) = -6) ∨ (∃ j, 1 ≤ j ∧ j ≤ 255 ∧ pf_fews f x1 (pf_few f x1 k) (nI (k + 1)) = nI j ∧ pf_mcs m x1 (pf_mcv m x1 k) (nI (k + 1)) = nI j)
    unfold pf_fews pf_mcs
    rw [pf_mchE h _ 8 (by omega)]
    rcases ih with ⟨e1, e2⟩ | ⟨j, j1, j2, e1, e2⟩
    · rw [e1, e2, if_neg (not_not_intro (Or.inl rfl))]
      by_cases g : ¬ (x1 &&& (pf_mch m (nI (k + 1)) 8 ^^^ (-1))) = 0
      · rw [if_pos g, if_pos g]; exact Or.inl ⟨rfl, rfl⟩
      · rw [if_neg g, if_neg g, if_pos (by decide)]; exact Or.inr ⟨k + 1, by omega, by omega, rfl, rfl⟩
    · rw [e1, e2, b16 j j2, b16 (k + 1) (by omega)]
      by_cases g : ¬ (x1 &&& (pf_mch m (nI (k + 1)) 8 ^^^ (-1))) = 0
      · rw [if_pos g, if_pos g, ite_self]; exact Or.inr ⟨j, j1, j2, rfl, rfl⟩
      · rw [if_neg g, if_neg g, if_neg (nI_pos (by omega))]
        by_cases g2 : pf_bits (nI j) 16 ≤ pf_bits (nI (k + 1)) 16
        · rw [if_pos g2, if_pos (show ¬ (nI j = 0 ∨ ¬ pf_bits (nI j) 16 ≤ pf_bits (nI (k + 1)) 16) from fun q => q.elim (nI_ne0 (by omega) (by omega)) (fun q => q g2))]
          exact Or.inr ⟨j, j1, j2, rfl, rfl⟩
        · rw [if_neg g2, if_neg (not_not_intro (Or.inr g2))]
          exact Or.inr ⟨k + 1, by omega, by omega, rfl, rfl⟩
theorem pk_cover {L : Nat} (a b : Int32) : pr_OK pr_R L pj_m81 pj_m136 [.int a, .int b] := by
  intro hi hl R
  obtain ⟨M, T, G, P, I⟩ := pr_Rin R
  have C1 := sa_sw_cover a b L hi hl
  unfold pf_sw_cover at C1
  by_cases v1 : 1 ≤ a ∧ a ≤ 65535
  case neg =>
    rw [if_pos v1] at C1
    exact pr_ok C1 ((pb_mo_cover_0.trans (if_pos v1)).mpr rfl) rfl R rfl rfl
  rw [if_neg (not_not_intro v1)] at C1
  by_cases v2 : 0 ≤ b ∧ b ≤ 1
  case neg =>
    rw [if_neg v2] at C1
    exact pr_ok C1 ((pb_mo_cover_0.trans ((if_neg (not_not_intro v1)).trans (if_neg v2))).mpr rfl) rfl R rfl rfl
  rw [if_pos v2] at C1
  refine pr_ok C1 (ss_mcv a b L hi hl v1 v2) ?_ R rfl rfl
  rcases pc_few T.2.1 a 255 (by omega) with ⟨e1, e2⟩ | ⟨j, j1, j2, e1, e2⟩
  · rw [e1, e2]; rfl
  · rw [e1, e2, if_neg (nI_pos (by omega)), if_pos (nI_ne0 (by omega) (by omega))]
    unfold pf_sw_countOrSet
    obtain ⟨q, hq, rfl⟩ := pt_of v2 (show (1 : Int32).toInt = (1 : Nat) by decide)
    rcases (show q = 0 ∨ q = 1 by omega) with rfl | rfl
    · rw [if_pos (by decide), if_neg (by decide), pq_bc16 (pq_16n (by omega))]
    · rw [if_neg (by decide), if_pos (by decide)]
