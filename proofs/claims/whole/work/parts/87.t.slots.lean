/-! ===== the slots ===== -/
def po_at (h t : Nat) : Nat := (h + t) % 512
theorem po_atl (h t : Nat) : po_at h t < 512 := Nat.mod_lt _ (by decide)
theorem po_511 (k : Nat) : nI k &&& 511 = nI (k % 512) := by
  show nI k &&& nI 511 = _
  rw [nx_and, show (511 : Nat) = 2 ^ 9 - 1 from rfl, Nat.and_two_pow_sub_one_eq_mod]
/-- where a wall's slots begin -/
def po_x (w : Int64) : Int32 := ((((w * (-7046029254386353131))).toUInt64 >>> ((55 : Int32).toInt64.toUInt64 &&& Int64.toUInt64 63)).toInt64 : Int64).toInt32
def po_h (w : Int64) : Nat := (po_x w).toBitVec.toNat
theorem po_xh (w : Int64) : po_x w = nI (po_h w) := Int32.toBitVec_inj.mp (by show _ = BitVec.ofNat 32 _; unfold po_h; simp)
theorem po_xa (w : Int64) (t : Nat) : (po_x w + nI t) &&& 511 = nI (po_at (po_h w) t) := by rw [po_xh, nI_add, po_511]; rfl
theorem po_sur (h : Nat) {k : Nat} (hk : k < 512) : ∃ t, t < 512 ∧ po_at h t = k := ⟨(k + 512 - h % 512) % 512, by omega, by unfold po_at; omega⟩
theorem po_least {P : Nat → Prop} (n : Nat) : P n → ∃ t, t ≤ n ∧ P t ∧ ∀ t', t' < t → ¬ P t' := by
  induction n using Nat.strongRecOn with
  | ind n ih =>
    intro h
    by_cases q : ∃ t', t' < n ∧ P t'
    · obtain ⟨t', h1, h2⟩ := q
      obtain ⟨t, a, b, c⟩ := ih t' h1 h2
      exact ⟨t, by omega, b, c⟩
    · exact ⟨n, Nat.le_refl _, h, fun t' ht hp => q ⟨t', ht, hp⟩⟩
def po_occ (s : Nat → Int64) : Nat → Nat
  | 0 => 0
  | n + 1 => po_occ s n + (if s n = -1 then 0 else 1)
theorem po_free {s : Nat → Int64} : ∀ n, po_occ s n < n → ∃ k, k < n ∧ s k = -1
  | 0, h => by omega
  | n + 1, h => by
    unfold po_occ at h
    by_cases q : s n = -1
    · exact ⟨n, by omega, q⟩
    · rw [if_neg q] at h
      obtain ⟨k, h1, h2⟩ := po_free (s := s) n (by omega)
      exact ⟨k, by omega, h2⟩
theorem po_occU (s : Nat → Int64) (k : Nat) (w : Int64) : ∀ n, po_occ (vp_updL s k w) n ≤ po_occ s n + (if k < n then 1 else 0)
  | 0 => Nat.zero_le _
  | n + 1 => by
    have ih := po_occU s k w n
    unfold po_occ
    by_cases q : n = k
    · subst q
      rw [if_neg (Nat.lt_irrefl n)] at ih
      rw [if_pos (Nat.lt_succ_self n)]
      split <;> split <;> omega
    · rw [pk_uLn q]
      by_cases z : k < n
      · rw [if_pos z] at ih
        rw [if_pos (show k < n + 1 by omega)]
        omega
      · rw [if_neg z] at ih
        rw [if_neg (show ¬ k < n + 1 by omega)]
        omega
theorem po_occ0 {s : Nat → Int64} : ∀ n, (∀ k, k < n → s k = -1) → po_occ s n = 0
  | 0, _ => rfl
  | n + 1, h => by
    unfold po_occ
    rw [po_occ0 n (fun k hk => h k (by omega)), if_pos (h n (by omega))]
def po_S (W : Nat → Int64) (j : Nat) (s : Nat → Int64) : Prop := (∀ k, k < 512 → s k = -1 ∨ ∃ i, i < j ∧ s k = W i) ∧ (∀ i, i < j → ∃ t, t < 512 ∧ s (po_at (po_h (W i)) t) = W i ∧ ∀ t', t' < t → ¬ s (po_at (po_h (W i)) t') = -1) ∧ po_occ s 512 ≤ j
theorem ss_new0 (w : Int64) (L : Nat) (hi : Nat → Nat → Int32) (hl : Nat → Nat → Int64) {t1 : Nat} (h1 : t1 < 512) (h2 : hl 26 (po_at (po_h w) t1) = w) (h3 : ∀ t', t' < t1 → ¬ hl 26 (po_at (po_h w) t') = -1) : pe_C pj_m20 [.ref 21, .long w] (pj_SH L, hi, hl) (some (.int 0)) (pj_SH L, hi, hl) := by
  refine pb_od_isNew_0.mpr ?_
  have g : ∀ (n t : Nat) (a5 : Option Value), t + n = 512 → t ≤ t1 → pe_E pj_m20 13 [some (.ref 21), some (.long w), none, some (.int (po_x w)), some (.int (nI t)), a5] [] (pj_SH L, hi, hl) (some (.int 0), (pj_SH L, hi, hl)) := by
    intro n
    induction n with
    | zero =>
      intro t a5 ht h
      omega
    | succ n ih =>
      intro t a5 ht h
      have e := po_xa w t
      have l := po_atl (po_h w) t
      have ix : ¬ (((po_x w + nI t) &&& 511) < 0 ∨ 512 ≤ ((po_x w + nI t) &&& 511).toNatClampNeg) := by rw [e]; exact pt_ixN l (by decide)
      refine ((pb_od_isNew_13 (fun _ => ix) (fun _ _ => ix) (fun _ _ _ => ix)).trans (if_neg (show ¬ (512 : Int32) ≤ nI t from nI_ge (b := 512) (by omega) (by omega)))).mpr ?_
      rw [e, pt_clamp (by omega), nI_1]
      by_cases q : hl 26 (po_at (po_h w) t) = w
      · rw [if_neg (not_not_intro ((lg_cmp_eq _ _).mpr q))]
      · have lt : t < t1 := by
          rcases Nat.lt_or_ge t t1 with z | z
          · exact z
          · exfalso
            have e1 : t = t1 := by omega
            rw [e1] at q
            exact q h2
        rw [if_pos (fun z => q ((lg_cmp_eq _ _).mp z)), if_pos (fun z => h3 t lt ((lg_cmp_eq _ _).mp z))]
        exact ih (t + 1) _ (by omega) (by omega)
  exact g 512 0 none rfl (Nat.zero_le _)
theorem ss_new1 (w : Int64) (L : Nat) (hi : Nat → Nat → Int32) (hl : Nat → Nat → Int64) {t1 : Nat} (h1 : t1 < 512) (h2 : hl 26 (po_at (po_h w) t1) = -1) (h3 : ∀ t', t' < t1 → ¬ hl 26 (po_at (po_h w) t') = -1) (h4 : ∀ k, k < 512 → ¬ hl 26 k = w) : pe_C pj_m20 [.ref 21, .long w] (pj_SH L, hi, hl) (some (.int 1)) (pj_SH L, hi, pj_uL hl 26 (po_at (po_h w) t1) w) := by
  refine pb_od_isNew_0.mpr ?_
  have g : ∀ (n t : Nat) (a5 : Option Value), t + n = 512 → t ≤ t1 → pe_E pj_m20 13 [some (.ref 21), some (.long w), none, some (.int (po_x w)), some (.int (nI t)), a5] [] (pj_SH L, hi, hl) (some (.int 1), (pj_SH L, hi, pj_uL hl 26 (po_at (po_h w) t1) w)) := by
    intro n
    induction n with
    | zero =>
      intro t a5 ht h
      omega
    | succ n ih =>
      intro t a5 ht h
      have e := po_xa w t
      have l := po_atl (po_h w) t
      have ix : ¬ (((po_x w + nI t) &&& 511) < 0 ∨ 512 ≤ ((po_x w + nI t) &&& 511).toNatClampNeg) := by rw [e]; exact pt_ixN l (by decide)
      refine ((pb_od_isNew_13 (fun _ => ix) (fun _ _ => ix) (fun _ _ _ => ix)).trans (if_neg (show ¬ (512 : Int32) ≤ nI t from nI_ge (b := 512) (by omega) (by omega)))).mpr ?_
      rw [e, pt_clamp (by omega), nI_1, if_pos (fun z => h4 _ l ((lg_cmp_eq _ _).mp z))]
      by_cases q : t = t1
      · subst q
        rw [if_neg (not_not_intro ((lg_cmp_eq _ _).mpr h2))]
      · rw [if_pos (fun z => h3 t (by omega) ((lg_cmp_eq _ _).mp z))]
        exact ih (t + 1) _ (by omega) (by omega)
  exact g 512 0 none rfl (Nat.zero_le _)
theorem ss_new {W : Nat → Int64} {j : Nat} (L : Nat) (hi : Nat → Nat → Int32) (hl : Nat → Nat → Int64) (S : po_S W j (hl 26)) (hj : j < 512) (hn : ∀ i, ¬ W i = -1) : ∃ hl' : Nat → Nat → Int64, pe_C pj_m20 [.ref 21, .long (W j)] (pj_SH L, hi, hl) (some (.int (if po_in W j (W j) = true then 0 else 1))) (pj_SH L, hi, hl') ∧ po_S W (j + 1) (hl' 26) ∧ ∀ k, ¬ k = 26 → hl' k = hl k := by
  obtain ⟨S1, S2, S3⟩ := S
  by_cases q : po_in W j (W j) = true
  · obtain ⟨i, hij, e⟩ := (po_inE W _ j).mp q
    obtain ⟨t, t1, t2, t3⟩ := S2 i hij
    rw [e] at t2 t3
    refine ⟨hl, ?_, ⟨fun k hk => (S1 k hk).imp id (fun ⟨i, a, b⟩ => ⟨i, by omega, b⟩), fun i' hi' => ?_, by omega⟩, fun _ _ => rfl⟩
    · rw [if_pos q]
      exact ss_new0 (W j) L hi hl t1 t2 t3
    · by_cases z : i' = j
      · subst z; exact ⟨t, t1, t2, t3⟩
      · exact S2 i' (by omega)
  · obtain ⟨k, hk, ek⟩ := po_free (s := hl 26) 512 (show po_occ (hl 26) 512 < 512 by omega)
    obtain ⟨t, ht, et⟩ := po_sur (po_h (W j)) hk
    obtain ⟨t1, l1, p1, m1⟩ := po_least (P := fun t => hl 26 (po_at (po_h (W j)) t) = -1) t (by show hl 26 (po_at (po_h (W j)) t) = -1; rw [et]; exact ek)
    have no : ∀ k, k < 512 → ¬ hl 26 k = W j := fun k hk z => by
      rcases S1 k hk with y | ⟨i, a, b⟩
      · exact hn j (z.symm.trans y)
      · exact q ((po_inE W _ j).mpr ⟨i, a, b.symm.trans z⟩)
    have e26 : pj_uL hl 26 (po_at (po_h (W j)) t1) (W j) 26 = vp_updL (hl 26) (po_at (po_h (W j)) t1) (W j) := rfl
    refine ⟨pj_uL hl 26 (po_at (po_h (W j)) t1) (W j), ?_, ?_, fun k hk => if_neg hk⟩
    · rw [if_neg q]
      exact ss_new1 (W j) L hi hl (by omega) p1 m1 no
    · rw [e26]
      refine ⟨fun k hk => ?_, fun i' hi' => ?_, ?_⟩
      · by_cases z : k = po_at (po_h (W j)) t1
        · subst z
          exact Or.inr ⟨j, by omega, pk_uLs⟩
        · rw [pk_uLn z]
          exact (S1 k hk).imp id (fun ⟨i, a, b⟩ => ⟨i, by omega, b⟩)
      · have keep : ∀ k, ¬ hl 26 k = -1 → ¬ vp_updL (hl 26) (po_at (po_h (W j)) t1) (W j) k = -1 := fun k h => by
          by_cases z : k = po_at (po_h (W j)) t1
          · subst z
            rw [pk_uLs]
            exact hn j
          · rw [pk_uLn z]
            exact h
        by_cases z : i' = j
        · subst z
          exact ⟨t1, by omega, pk_uLs, fun t' ht' => keep _ (m1 t' ht')⟩
        · obtain ⟨t, a1, a2, a3⟩ := S2 i' (by omega)
          refine ⟨t, a1, ?_, fun t' ht' => keep _ (a3 t' ht')⟩
          have ne : ¬ po_at (po_h (W i')) t = po_at (po_h (W j)) t1 := fun y => by
            rw [y] at a2
            exact hn i' (a2.symm.trans p1)
          rw [pk_uLn ne]
          exact a2
      · have := po_occU (hl 26) (po_at (po_h (W j)) t1) (W j) 512
        rw [if_pos (po_atl _ _)] at this
        omega
