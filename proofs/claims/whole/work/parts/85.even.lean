/-! ===== the pad: faults, and what a text without one is made of ===== -/
theorem pg_step (r : Nat) (hr : r < 4) (s : Int32) : (pf_mo_step (nI r) s = -6 ∧ pf_pa_readingAfter (nI r) s = 4) ∨ (∃ j, j < 4 ∧ pf_mo_step (nI r) s = nI j ∧ pf_pa_readingAfter (nI r) s = nI j) := by
  rcases (show r = 0 ∨ r = 1 ∨ r = 2 ∨ r = 3 by omega) with rfl | rfl | rfl | rfl
  · have e1 : pf_mo_step (nI 0) s = (if ¬ (65 ≤ s ∧ s ≤ 72) then (if ¬ (97 ≤ s ∧ s ≤ 112) then (if ¬ s = 46 then ((-6) : Int32) else (0 : Int32)) else (3 : Int32)) else (1 : Int32)) := rfl
    have e2 : pf_pa_readingAfter (nI 0) s = (if ¬ (65 ≤ s ∧ s ≤ 72) then (if ¬ (97 ≤ s ∧ s ≤ 112) then (if ¬ s = 46 then (4 : Int32) else (0 : Int32)) else (3 : Int32)) else (1 : Int32)) := rfl
    rw [e1, e2]
    by_cases h1 : ¬ (65 ≤ s ∧ s ≤ 72)
    · rw [if_pos h1, if_pos h1]
      by_cases h2 : ¬ (97 ≤ s ∧ s ≤ 112)
      · rw [if_pos h2, if_pos h2]
        by_cases h3 : ¬ s = 46
        · rw [if_pos h3, if_pos h3]; exact Or.inl ⟨rfl, rfl⟩
        · rw [if_neg h3, if_neg h3]; exact Or.inr ⟨0, by omega, rfl, rfl⟩
      · rw [if_neg h2, if_neg h2]; exact Or.inr ⟨3, by omega, rfl, rfl⟩
    · rw [if_neg h1, if_neg h1]; exact Or.inr ⟨1, by omega, rfl, rfl⟩
  · have e1 : pf_mo_step (nI 1) s = (if ¬ (48 ≤ s ∧ s ≤ 51) then (if ¬ s = 126 then ((-6) : Int32) else (0 : Int32)) else (2 : Int32)) := rfl
    have e2 : pf_pa_readingAfter (nI 1) s = (if ¬ s = 126 then (if ¬ (48 ≤ s ∧ s ≤ 51) then (4 : Int32) else (2 : Int32)) else (0 : Int32)) := rfl
    rw [e1, e2]
    by_cases h1 : s = 126
    · subst h1; exact Or.inr ⟨0, by omega, rfl, rfl⟩
    · rw [if_pos h1, if_pos h1]
      by_cases h2 : ¬ (48 ≤ s ∧ s ≤ 51)
      · rw [if_pos h2, if_pos h2]; exact Or.inl ⟨rfl, rfl⟩
      · rw [if_neg h2, if_neg h2]; exact Or.inr ⟨2, by omega, rfl, rfl⟩
  · have e1 : pf_mo_step (nI 2) s = (if ¬ (49 ≤ s ∧ s ≤ 53) then ((-6) : Int32) else (0 : Int32)) := rfl
    have e2 : pf_pa_readingAfter (nI 2) s = (if ¬ (49 ≤ s ∧ s ≤ 53) then (4 : Int32) else (0 : Int32)) := rfl
    rw [e1, e2]
    by_cases h2 : ¬ (49 ≤ s ∧ s ≤ 53)
    · rw [if_pos h2, if_pos h2]; exact Or.inl ⟨rfl, rfl⟩
    · rw [if_neg h2, if_neg h2]; exact Or.inr ⟨0, by omega, rfl, rfl⟩
  · have e1 : pf_mo_step (nI 3) s = (if ¬ s = 45 then ((-6) : Int32) else (0 : Int32)) := rfl
    have e2 : pf_pa_readingAfter (nI 3) s = (if ¬ s = 45 then (4 : Int32) else (0 : Int32)) := rfl
    rw [e1, e2]
    by_cases h2 : ¬ s = 45
    · rw [if_pos h2, if_pos h2]; exact Or.inl ⟨rfl, rfl⟩
    · rw [if_neg h2, if_neg h2]; exact Or.inr ⟨0, by omega, rfl, rfl⟩
theorem pg_sign {r18 r19 : Nat → Int32} {n k : Nat} (hn : n ≤ 60) (e : r18 1 = nI n) (hk : k < n) : pf_pa_signAt (nI k) r18 r19 = r19 k := by
  unfold pf_pa_signAt
  rw [e, if_neg (nI_pos (by omega)), if_neg (nI_ge hk (by omega)), if_neg (show ¬ (60 : Int32) ≤ nI k from nI_ge (b := 60) (by omega) (by omega)), pt_clamp (by omega)]
theorem pg_fw {r18 r19 r36 : Nat → Int32} {n : Nat} (hn : n ≤ 60) (e : r18 1 = nI n) (h : ∀ i, i < n → r19 i = r36 i) : ∀ m k r, r < 4 → k + m = n → pf_fwr r18 r19 m k (nI r) = pf_mfr (nI n) r36 m k (nI r)
  | 0, k, r, _, _ => by
    unfold pf_fwr pf_mfr
    rw [e]
  | m + 1, k, r, hr, hk => by
    unfold pf_fwr pf_mfr
    rw [pg_sign hn e (by omega), h k (by omega)]
    rcases pg_step r hr (r36 k) with ⟨h1, h2⟩ | ⟨j, hj, h1, h2⟩
    · rw [h1, h2, if_neg (by decide), if_neg (by decide)]
    · rw [h1, h2, if_pos (show ¬ nI j = 4 from fun g => absurd ((nI_eq (a := j) (b := 4) (by omega) (by omega)).mp g) (by omega)), if_pos (show (0 : Int32) ≤ nI j from nI_le (a := 0) (by omega) (by omega))]
      exact pg_fw hn e h m (k + 1) j hj (by omega)
theorem pg_fwP {hi : Nat → Nat → Int32} {n : Nat} (hn : n ≤ 60) (e1 : hi 18 1 = nI n) (e3 : ∀ i, i < n → hi 19 i = hi 36 i) : pf_fw (hi 18) (hi 19) = pf_mfr (nI n) (hi 36) n 0 0 := by
  unfold pf_fw
  rw [show (hi 18 1).toInt.toNat = n by rw [e1, pt_nI (by omega)]; omega]
  exact pg_fw hn e1 e3 n 0 0 (by omega) (by omega)
theorem pk_fault {L : Nat} : pr_OK pr_R L pj_m72 pj_m114 [] := by
  intro hi hl R
  obtain ⟨M, T, G, P, I⟩ := pr_Rin R
  obtain ⟨n, hn, e1, e2, e3⟩ := P
  refine pr_ok (sa_sw_fault L hi hl) (pb_mo_fault_0.trans ((pk_mo_fault_1 (ss_mf hn L hi hl e2)).trans pb_mo_fault_4) |>.mpr rfl) (pg_fwP hn e1 (fun i h => (e3 i h).1)).symm R rfl rfl
def pg_ok (pad : Nat → Int32) (N p : Nat) : Prop := pf_mfr (nI N) pad (N - p) p 0 = -6
theorem pg_n6 {k : Nat} (h : k < 2147483648) : ¬ nI k = -6 := fun e => by
  have := (pt_eq _ _).mp e
  rw [pt_nI h, show (-6 : Int32).toInt = -6 by decide] at this
  omega
theorem pg_pos {N : Nat} {pad : Nat → Int32} {n k r : Nat} (hN : N ≤ 60) (hr0 : r ≠ 0) (hr : r < 4) (h : pf_mfr (nI N) pad n k (nI r) = -6) : ∃ n', n = n' + 1 := by
  cases n with
  | zero =>
    unfold pf_mfr at h
    rw [if_pos (nI_ne0 (by omega) (by omega))] at h
    exact absurd h (pg_n6 (by omega))
  | succ n => exact ⟨n, rfl⟩
theorem pg_next {N : Nat} {pad : Nat → Int32} {n k : Nat} {r : Int32} (hk : k < 1000) (h : pf_mfr (nI N) pad (n + 1) k r = -6) : 0 ≤ pf_mo_step r (pad k) ∧ pf_mfr (nI N) pad n (k + 1) (pf_mo_step r (pad k)) = -6 := by
  unfold pf_mfr at h
  by_cases h1 : 0 ≤ pf_mo_step r (pad k)
  · rw [if_pos h1] at h
    exact ⟨h1, h⟩
  · rw [if_neg h1] at h
    exact absurd h (pg_n6 (by omega))
/-- an act's signs -/
theorem pg_split {N : Nat} {pad : Nat → Int32} {p : Nat} (hN : N ≤ 60) (hp : p < N) (h : pg_ok pad N p) :
    (pad p = 46 ∧ pg_ok pad N (p + 1)) ∨
    (∃ c, c < 16 ∧ pad p = nI (97 + c) ∧ p + 2 ≤ N ∧ pad (p + 1) = 45 ∧ pg_ok pad N (p + 2)) ∨
    (∃ i, i < 8 ∧ pad p = nI (65 + i) ∧ p + 2 ≤ N ∧ pad (p + 1) = 126 ∧ pg_ok pad N (p + 2)) ∨
    (∃ i q c, i < 8 ∧ q < 4 ∧ 1 ≤ c ∧ c < 6 ∧ pad p = nI (65 + i) ∧ p + 3 ≤ N ∧ pad (p + 1) = nI (48 + q) ∧ pad (p + 2) = nI (48 + c) ∧ pg_ok pad N (p + 3)) := by
  unfold pg_ok at h ⊢
  obtain ⟨n, hn⟩ : ∃ n, N - p = n + 1 := ⟨N - p - 1, by omega⟩
  rw [hn] at h
  obtain ⟨h1, h2⟩ := pg_next (by omega) h
  have e1 : pf_mo_step 0 (pad p) = (if ¬ (65 ≤ pad p ∧ pad p ≤ 72) then (if ¬ (97 ≤ pad p ∧ pad p ≤ 112) then (if ¬ pad p = 46 then ((-6) : Int32) else (0 : Int32)) else (3 : Int32)) else (1 : Int32)) := rfl
  rw [e1] at h1 h2
  by_cases c1 : (65 ≤ pad p ∧ pad p ≤ 72)
  · rw [if_neg (not_not_intro c1)] at h1 h2
    obtain ⟨j, j1, j2, ej⟩ := pt_of1 c1 (show (65 : Int32).toInt = (65 : Nat) by decide) (show (72 : Int32).toInt = (72 : Nat) by decide)
    obtain ⟨n', rfl⟩ := pg_pos (r := 1) hN (by omega) (by omega) h2
    obtain ⟨h3, h4⟩ := pg_next (by omega) h2
    have e2 : pf_mo_step 1 (pad (p + 1)) = (if ¬ (48 ≤ pad (p + 1) ∧ pad (p + 1) ≤ 51) then (if ¬ pad (p + 1) = 126 then ((-6) : Int32) else (0 : Int32)) else (2 : Int32)) := rfl
    rw [e2] at h3 h4
    by_cases c2 : (48 ≤ pad (p + 1) ∧ pad (p + 1) ≤ 51)
    · rw [if_neg (not_not_intro c2)] at h3 h4
      obtain ⟨q, q1, q2, eq⟩ := pt_of1 c2 (show (48 : Int32).toInt = (48 : Nat) by decide) (show (51 : Int32).toInt = (51 : Nat) by decide)
      obtain ⟨n2, rfl⟩ := pg_pos (r := 2) hN (by omega) (by omega) h4
      obtain ⟨h5, h6⟩ := pg_next (by omega) h4
      have e3 : pf_mo_step 2 (pad (p + 1 + 1)) = (if ¬ (49 ≤ pad (p + 2) ∧ pad (p + 2) ≤ 53) then ((-6) : Int32) else (0 : Int32)) := rfl
      rw [e3] at h5 h6
      by_cases c3 : (49 ≤ pad (p + 2) ∧ pad (p + 2) ≤ 53)
      · rw [if_neg (not_not_intro c3)] at h6
        obtain ⟨c, d1, d2, ec⟩ := pt_of1 c3 (show (49 : Int32).toInt = (49 : Nat) by decide) (show (53 : Int32).toInt = (53 : Nat) by decide)
        refine Or.inr (Or.inr (Or.inr ⟨j - 65, q - 48, c - 48, by omega, by omega, by omega, by omega, ?_, by omega, ?_, ?_, ?_⟩))
        · rw [ej, show 65 + (j - 65) = j by omega]
        · rw [eq, show 48 + (q - 48) = q by omega]
        · rw [ec, show 48 + (c - 48) = c by omega]
        · rw [show N - (p + 3) = n2 by omega]; exact h6
      · rw [if_pos c3] at h5
        exact absurd h5 (by decide)
    · rw [if_pos c2] at h3 h4
      by_cases c3 : pad (p + 1) = 126
      · rw [if_neg (not_not_intro c3)] at h4
        refine Or.inr (Or.inr (Or.inl ⟨j - 65, by omega, ?_, by omega, c3, ?_⟩))
        · rw [ej, show 65 + (j - 65) = j by omega]
        · rw [show N - (p + 2) = n' by omega]; exact h4
      · rw [if_pos c3] at h3
        exact absurd h3 (by decide)
  · rw [if_pos c1] at h1 h2
    by_cases c2 : (97 ≤ pad p ∧ pad p ≤ 112)
    · rw [if_neg (not_not_intro c2)] at h1 h2
      obtain ⟨j, j1, j2, ej⟩ := pt_of1 c2 (show (97 : Int32).toInt = (97 : Nat) by decide) (show (112 : Int32).toInt = (112 : Nat) by decide)
      obtain ⟨n', rfl⟩ := pg_pos (r := 3) hN (by omega) (by omega) h2
      obtain ⟨h3, h4⟩ := pg_next (by omega) h2
      have e2 : pf_mo_step 3 (pad (p + 1)) = (if ¬ pad (p + 1) = 45 then ((-6) : Int32) else (0 : Int32)) := rfl
      rw [e2] at h3 h4
      by_cases c3 : pad (p + 1) = 45
      · rw [if_neg (not_not_intro c3)] at h4
        refine Or.inr (Or.inl ⟨j - 97, by omega, ?_, by omega, c3, ?_⟩)
        · rw [ej, show 97 + (j - 97) = j by omega]
        · rw [show N - (p + 2) = n' by omega]; exact h4
      · rw [if_pos c3] at h3
        exact absurd h3 (by decide)
    · rw [if_pos c2] at h1 h2
      by_cases c3 : pad p = 46
      · rw [if_neg (not_not_intro c3)] at h2
        refine Or.inl ⟨c3, ?_⟩
        rw [show N - (p + 1) = n by omega]; exact h2
      · rw [if_pos c3] at h1
        exact absurd h1 (by decide)
/-! ===== the model's acts ===== -/
def pm_H (hi hi' : Nat → Nat → Int32) (a : Int32 × (Nat → Int32) × Int32) : Prop := hi' 34 = a.2.1 ∧ hi' 32 6 = hi 32 6 + a.2.2 ∧ (∀ j, j ≠ 6 → hi' 32 j = hi 32 j) ∧ (∀ r, r ≠ 32 → r ≠ 34 → hi' r = hi r)
theorem pm_Hno {hi : Nat → Nat → Int32} {m : Nat → Int32} (e : hi 34 = m) (r : Int32) : pm_H hi hi (r, m, 0) := ⟨e, by rw [Int32.add_zero], fun _ _ => rfl, fun _ _ _ => rfl⟩
theorem pm_row34 {hi : Nat → Nat → Int32} {m m' : Nat → Int32} (e : m = m') : pm_H hi (pj_row hi 34 m) (0, m', 0) := ⟨by rw [pj_row_at]; exact e, by rw [Int32.add_zero]; rfl, fun _ _ => rfl, fun r _ h => by simp [pj_row, h]⟩
theorem pm_trnH {hi : Nat → Nat → Int32} {m : Nat → Int32} (e : hi 34 = m) {i : Nat} (h8 : i < 8) : pf_mo_turnOver (nI i) (hi 34) = (pm_trn m i).1 ∧ pm_H hi (ph_mo_turnOver (nI i) hi) (pm_trn m i) := by
  unfold pf_mo_turnOver ph_mo_turnOver pm_trn
  rw [pt_16 (by omega), pt_clamp (by omega), e]
  by_cases h : ¬ pf_mo (m (16 + i)) 16 = m (16 + i)
  · rw [if_pos h, if_pos h, if_pos h, pj_up_row, e]
    exact ⟨rfl, pm_row34 rfl⟩
  · rw [if_neg h, if_neg h, if_neg h, ← e, pj_up_self]
    exact ⟨rfl, pm_Hno rfl 3⟩
theorem pm_scrH {hi : Nat → Nat → Int32} {m : Nat → Int32} (e : hi 34 = m) {c : Nat} (h16 : c < 16) : pf_mo_scrape (nI c) (hi 34) = (pm_scr m c).1 ∧ pm_H hi (ph_mo_scrape (nI c) hi) (pm_scr m c) := by
  unfold pf_mo_scrape ph_mo_scrape pm_scr
  rw [pt_clamp (by omega)]
  by_cases h : ¬ m c = 0
  · simp only [e, if_pos h]
    refine ⟨trivial, ?_⟩
    have e2 : pj_up hi 34 c 0 34 30 = m 30 := by
      show upd (hi 34) c 0 30 = _
      rw [e, pu_ne (by omega)]
    rw [e2, pj_up_row hi 34 c, pj_up_row2, e]
    exact pm_row34 rfl
  · simp only [e, if_neg h]
    refine ⟨trivial, ?_⟩
    have e1 : m c = hi 34 c := by rw [e]
    rw [e1, pj_up_self, pj_up_self]
    exact pm_Hno e 4
theorem pm_houH {hi : Nat → Nat → Int32} {m : Nat → Int32} (e : hi 34 = m) : pf_mo_endHour (hi 34) = (pm_hou m).1 ∧ pm_H hi (ph_mo_endHour hi) (pm_hou m) := by
  unfold pf_mo_endHour ph_mo_endHour pm_hou
  by_cases h : ¬ m 31 = 99
  · simp only [e, if_pos h]
    refine ⟨trivial, ?_⟩
    rw [pj_up_row hi 34 31, pj_up_row2, e]
    exact pm_row34 rfl
  · simp only [e, if_neg h]
    refine ⟨trivial, ?_⟩
    have e1 : m 31 = hi 34 31 := by rw [e]
    rw [e1, pj_up_self, pj_up_self]
    exact pm_Hno e 5
theorem pm_sprH {hi : Nat → Nat → Int32} {m : Nat → Int32} (e : hi 34 = m) {i q c : Nat} (h8 : i < 8) (hc1 : 1 ≤ c) (hc6 : c < 6) (L : Nat) (hl : Nat → Nat → Int64) : ∃ hi', pe_C pj_m121 [.ref 32, .int (nI i), .int (nI q), .int (nI c)] (pj_SH L, hi, hl) (some (.int (pm_spr m i q c).1)) (pj_SH L, hi', hl) ∧ pm_H hi hi' (pm_spr m i q c) := by
  have C := ss_mspr h8 hc1 hc6 (nI q) L hi hl
  rw [e] at C
  refine ⟨(if ¬ (pf_mqs (m (16 + i)) (nI q)) = 0 then (if (pf_bits (pf_mqs (m (16 + i)) (nI q)) 16) ≤ (m (24 + c)) then (pj_up (pj_row hi 34 (pf_spm m (pf_mqs (m (16 + i)) (nI q)) (nI c) (24 + c))) 32 6 (hi 32 6 + pf_bits (pf_mqs (m (16 + i)) (nI q)) 16)) else hi) else hi), ?_, ?_⟩
  · unfold pm_spr
    by_cases h1 : ¬ (pf_mqs (m (16 + i)) (nI q)) = 0
    · simp only [if_pos h1] at C ⊢
      by_cases h2 : (pf_bits (pf_mqs (m (16 + i)) (nI q)) 16) ≤ (m (24 + c))
      · simp only [if_pos h2] at C ⊢
        exact C
      · simp only [if_neg h2] at C ⊢
        exact C
    · simp only [if_neg h1] at C ⊢
      exact C
  · unfold pm_spr
    by_cases h1 : ¬ (pf_mqs (m (16 + i)) (nI q)) = 0
    · simp only [if_pos h1]
      by_cases h2 : (pf_bits (pf_mqs (m (16 + i)) (nI q)) 16) ≤ (m (24 + c))
      · simp only [if_pos h2]
        refine ⟨?_, ?_, fun j hj => ?_, fun r h32 h34 => ?_⟩
        · rfl
        · rfl
        · show upd (hi 32) 6 _ j = _
          rw [pu_ne hj]
        · simp [pj_up, pj_row, h32, h34]
      · simp only [if_neg h2]
        exact pm_Hno e 2
    · simp only [if_neg h1]
      exact pm_Hno e 1
/-- an act told by the pad at p: what it is, how many signs it has -/
def pg_act (pad : Nat → Int32) (p : Nat) (m : Nat → Int32) (a : Int32 × (Nat → Int32) × Int32) (l : Nat) : Prop :=
    (pad p = 46 ∧ a = pm_hou m ∧ l = 1) ∨
    (∃ c, c < 16 ∧ pad p = nI (97 + c) ∧ pad (p + 1) = 45 ∧ a = pm_scr m c ∧ l = 2) ∨
    (∃ i, i < 8 ∧ pad p = nI (65 + i) ∧ pad (p + 1) = 126 ∧ a = pm_trn m i ∧ l = 2) ∨
    (∃ i q c, i < 8 ∧ q < 4 ∧ 1 ≤ c ∧ c < 6 ∧ pad p = nI (65 + i) ∧ pad (p + 1) = nI (48 + q) ∧ pad (p + 2) = nI (48 + c) ∧ a = pm_spr m i q c ∧ l = 3)
theorem pg_acts {N : Nat} {pad : Nat → Int32} {p : Nat} (hN : N ≤ 60) (hp : p < N) (h : pg_ok pad N p) (m : Nat → Int32) : ∃ a l, pg_act pad p m a l ∧ 1 ≤ l ∧ p + l ≤ N ∧ pg_ok pad N (p + l) := by
  rcases pg_split hN hp h with ⟨h1, h2⟩ | ⟨c, h1, h2, h3, h4, h5⟩ | ⟨i, h1, h2, h3, h4, h5⟩ | ⟨i, q, c, h1, h2, h3, h4, h5, h6, h7, h8, h9⟩
  · exact ⟨_, 1, Or.inl ⟨h1, rfl, rfl⟩, by omega, by omega, h2⟩
  · exact ⟨_, 2, Or.inr (Or.inl ⟨c, h1, h2, h4, rfl, rfl⟩), by omega, h3, h5⟩
  · exact ⟨_, 2, Or.inr (Or.inr (Or.inl ⟨i, h1, h2, h4, rfl, rfl⟩)), by omega, h3, h5⟩
  · exact ⟨_, 3, Or.inr (Or.inr (Or.inr ⟨i, q, c, h1, h2, h3, h4, h5, h7, h8, rfl, rfl⟩)), by omega, h6, h9⟩
theorem pg_lt {a b : Nat} (h : a < b) (hb : b < 2147483648) : ¬ (nI b ≤ nI a) := nI_ge h hb
theorem pg_r1 : ∀ i, i < 8 → pf_pa_readingOfFirst (nI (65 + i)) = 1 := by decide +kernel
theorem pg_r3 : ∀ c, c < 16 → pf_pa_readingOfFirst (nI (97 + c)) = 3 := by decide +kernel
theorem pg_q : ∀ q, q < 4 → ¬ nI (48 + q) = 126 ∧ ¬ nI (48 + q) = 45 := by decide +kernel
theorem pg_a46 : ∀ i, i < 8 → ¬ nI (65 + i) = 46 ∧ ¬ (97 ≤ nI (65 + i) ∧ nI (65 + i) ≤ 112) := by decide +kernel
theorem pg_c46 : ∀ c, c < 16 → ¬ nI (97 + c) = 46 ∧ (97 ≤ nI (97 + c) ∧ nI (97 + c) ≤ 112) := by decide +kernel
theorem pg_65 (i : Nat) : nI (65 + i) - 65 = nI i := by
  refine (pq_nIsub (a := 65 + i) (b := 65) (by omega)).trans ?_
  rw [show 65 + i - 65 = i by omega]
theorem pg_97 (i : Nat) : nI (97 + i) - 97 = nI i := by
  refine (pq_nIsub (a := 97 + i) (b := 97) (by omega)).trans ?_
  rw [show 97 + i - 97 = i by omega]
theorem pg_48 (i : Nat) : nI (48 + i) - 48 = nI i := by
  refine (pq_nIsub (a := 48 + i) (b := 48) (by omega)).trans ?_
  rw [show 48 + i - 48 = i by omega]
theorem pg_p1 (p : Nat) : nI p + 1 = nI (p + 1) := nI_1 p
theorem pg_p2 (p : Nat) : nI p + 2 = nI (p + 2) := nI_add p 2
/-- the class's act -/
theorem pg_cls {hi : Nat → Nat → Int32} {pad m : Nat → Int32} {N p l : Nat} {s : Int32} {a : Int32 × (Nat → Int32) × Int32} (hN : N ≤ 60) (e1 : hi 18 1 = nI N) (e2 : ∀ i, i < N → hi 19 i = pad i) (M : pr_M m) (T : pr_TT hi m s) (A : pg_act pad p m a l) (hl : p + l ≤ N) : pr_Act hi (ph_pa_actAt (nI p) hi) m s (pf_pa_actAt (nI p) (hi 6) (hi 7) (hi 8) (hi 9) (hi 18) (hi 19)) a ∧ pf_pa_lengthOfAct (nI p) (hi 18) (hi 19) = nI l := by
  have sg : ∀ k, k < N → pf_pa_signAt (nI k) (hi 18) (hi 19) = pad k := fun k hk => (pg_sign hN e1 hk).trans (e2 k hk)
  unfold ph_pa_actAt pf_pa_actAt pf_pa_lengthOfAct
  rw [pg_p1, pg_p2]
  rcases A with ⟨h1, rfl, rfl⟩ | ⟨c, h1, h2, h3, rfl, rfl⟩ | ⟨i, h1, h2, h3, rfl, rfl⟩ | ⟨i, q, c, h1, h2, h3, h4, h5, h6, h7, rfl, rfl⟩
  · rw [sg p (by omega), h1]
    refine ⟨?_, rfl⟩
    exact pr_hou M T
  · rw [sg p (by omega), h2, pg_r3 c h1, pg_97]
    refine ⟨?_, rfl⟩
    exact pr_scr M T h1
  · rw [sg p (by omega), sg (p + 1) (by omega), h2, h3, pg_r1 i h1, pg_65]
    refine ⟨?_, rfl⟩
    exact pr_trn M T h1
  · rw [sg p (by omega), sg (p + 1) (by omega), sg (p + 2) (by omega), h5, h6, h7, pg_r1 i h1, pg_65, pg_48, pg_48]
    refine ⟨?_, ?_⟩
    · rw [if_pos rfl, if_pos rfl, if_pos (pg_q q h2).1, if_pos (pg_q q h2).1]
      exact pr_spr M T h1 h2 h3 h4
    · rw [if_pos (by decide), if_neg (by decide), if_neg (pg_q q h2).1]
      rfl
/-- the model's act -/
theorem pg_mod {hi : Nat → Nat → Int32} {pad m : Nat → Int32} {p l : Nat} {a : Int32 × (Nat → Int32) × Int32} (e1 : hi 36 = pad) (e2 : hi 34 = m) (A : pg_act pad p m a l) (hl60 : p + l ≤ 60) (h46 : ¬ pad p = 46) (L : Nat) (hl : Nat → Nat → Int64) : ∃ hi', pe_C pj_m125 [.ref 32, .int (nI p)] (pj_SH L, hi, hl) (some (.int a.1)) (pj_SH L, hi', hl) ∧ pm_H hi hi' a := by
  rcases A with ⟨h1, _, _⟩ | ⟨c, h1, h2, h3, rfl, rfl⟩ | ⟨i, h1, h2, h3, rfl, rfl⟩ | ⟨i, q, c, h1, h2, h3, h4, h5, h6, h7, rfl, rfl⟩
  · exact absurd h1 h46
  · obtain ⟨e3, H⟩ := pm_scrH e2 h1
    refine ⟨_, ?_, H⟩
    have es : hi 36 (nI p).toNatClampNeg = nI (97 + c) := by rw [pt_clamp (by omega), e1, h2]
    refine (pb_mo_oneAct_0 (pt_ixN (by omega) (by omega)) (fun h => ?_) (fun h => ?_) (fun h => ?_) (fun h => ?_) (fun h => ?_) (fun h => ?_) (fun h => ?_)).mpr ?_
    · exact absurd (es ▸ (pg_c46 c h1).2) h
    · exact absurd (es ▸ (pg_c46 c h1).2) h
    · exact absurd (es ▸ (pg_c46 c h1).2) h
    · exact absurd (es ▸ (pg_c46 c h1).2) h
    · exact absurd (es ▸ (pg_c46 c h1).2) h
    · rw [es, pg_97]; exact pt_ixN (by omega) (by omega)
    · intro _
      rw [es, pg_97]; exact pt_ixN (by omega) (by omega)
    · rw [es, if_neg (not_not_intro (pg_c46 c h1).2), pg_97, e3]
  · obtain ⟨e3, H⟩ := pm_trnH e2 h1
    refine ⟨_, ?_, H⟩
    have es : hi 36 (nI p).toNatClampNeg = nI (65 + i) := by rw [pt_clamp (by omega), e1, h2]
    have es1 : hi 36 (nI p + 1).toNatClampNeg = 126 := by rw [pg_p1, pt_clamp (by omega), e1, h3]
    refine (pb_mo_oneAct_0 (pt_ixN (by omega) (by omega)) (fun _ => ?_) (fun _ _ => ?_) (fun _ h => ?_) (fun _ _ => ?_) (fun _ _ _ => ?_) (fun h => ?_) (fun h => ?_)).mpr ?_
    · rw [pg_p1]; exact pt_ixN (by omega) (by omega)
    · rw [pg_p1]; exact pt_ixN (by omega) (by omega)
    · exact absurd es1 h
    · rw [es, pg_65, pt_16 (by omega)]; exact pt_ixN (by omega) (by omega)
    · rw [es, pg_65, pt_16 (by omega)]; exact pt_ixN (by omega) (by omega)
    · exact absurd (es ▸ (pg_a46 i h1).2) h
    · exact absurd (es ▸ (pg_a46 i h1).2) h
    · rw [es, if_pos (pg_a46 i h1).2, es1, if_neg (not_not_intro rfl), pg_65, e3]
      exact pb_mo_oneAct_81.mpr rfl
  · obtain ⟨hi', C, H⟩ := pm_sprH e2 (i := i) (q := q) (c := c) h1 h3 h4 L hl
    refine ⟨hi', ?_, H⟩
    have es : hi 36 (nI p).toNatClampNeg = nI (65 + i) := by rw [pt_clamp (by omega), e1, h5]
    have es1 : hi 36 (nI p + 1).toNatClampNeg = nI (48 + q) := by rw [pg_p1, pt_clamp (by omega), e1, h6]
    have es2 : hi 36 (nI p + 2).toNatClampNeg = nI (48 + c) := by rw [pg_p2, pt_clamp (by omega), e1, h7]
    refine (pb_mo_oneAct_0 (pt_ixN (by omega) (by omega)) (fun _ => ?_) (fun _ _ => ?_) (fun _ _ => ?_) (fun _ h => ?_) (fun _ h => ?_) (fun h => ?_) (fun h => ?_)).mpr ?_
    · rw [pg_p1]; exact pt_ixN (by omega) (by omega)
    · rw [pg_p1]; exact pt_ixN (by omega) (by omega)
    · rw [pg_p2]; exact pt_ixN (by omega) (by omega)
    · rw [es1] at h; exact absurd (pg_q q h2).1 h
    · rw [es1] at h; exact absurd (pg_q q h2).1 h
    · exact absurd (es ▸ (pg_a46 i h1).2) h
    · exact absurd (es ▸ (pg_a46 i h1).2) h
    · rw [es, if_pos (pg_a46 i h1).2, es1, if_pos (pg_q q h2).1, es2, pg_65, pg_48, pg_48]
      exact ((pk_mo_oneAct_78 C).trans pb_mo_oneAct_81).mpr rfl
/-- the model's look for the first mud -/
theorem pg_mud {L : Nat} {hl : Nat → Nat → Int64} {x1 x2 x3 fr : Int32} (h16 : pq_16 fr) (hi : Nat → Nat → Int32) (o : Option Value × pj_H) {k : Nat} (hk : k < 60) (hk10 : hi 32 10 = nI k) (h7 : hi 32 7 = -6 ∨ ∃ j, j < 60 ∧ hi 32 7 = nI j) (K : ∀ x5, pe_E pj_m126 176 [some (.ref 32), some (.int x1), some (.int x2), some (.int x3), some (.int fr), some (.int x5)] [] (pj_SH L, (if ¬ hi 32 7 = -6 then hi else (if fr = 0 then hi else pj_up (pj_up hi 32 7 (nI k)) 32 8 (pf_ntz fr))), hl) o) : pe_E pj_m126 132 [some (.ref 32), some (.int x1), some (.int x2), some (.int x3), some (.int fr), some (.int 0)] [] (pj_SH L, hi, hl) o := by
  rcases h7 with h7 | ⟨j, hj, h7⟩
  · rw [if_neg (not_not_intro h7)] at K
    have hneg : ¬ (0 : Int32) ≤ hi 32 7 := by rw [h7]; decide
    by_cases h0 : fr = 0
    · rw [if_pos h0] at K
      have g : ∀ n j, j + n = 16 → pe_E pj_m126 132 [some (.ref 32), some (.int x1), some (.int x2), some (.int x3), some (.int fr), some (.int (nI j))] [] (pj_SH L, hi, hl) o := by
        intro n
        induction n with
        | zero =>
          intro j hj
          rw [show j = 16 by omega]
          exact (pb_mo_goEvenings_132.trans (if_pos (Int32.le_refl _))).mpr (K _)
        | succ n ih =>
          intro j hj
          refine (pb_mo_goEvenings_132.trans ((if_neg (nI_ge (show j < 16 by omega) (by omega))).trans (if_neg hneg))).mpr ?_
          have hb : ¬ pf_has fr (nI j) := fun h => by
            have := (pq_has fr (by omega)).mp h
            rw [h0, b_0] at this
            cases this
          rw [if_pos hb, if_pos hb, pj_up_self, pj_up_self, nI_1]
          exact ih (j + 1) (by omega)
      exact g 16 0 rfl
    · rw [if_neg h0] at K
      obtain ⟨c, hc, hc1, hc2, hc3⟩ := pq_ntz h16 h0
      rw [hc3] at K
      have g : ∀ n j, j + n = c → pe_E pj_m126 132 [some (.ref 32), some (.int x1), some (.int x2), some (.int x3), some (.int fr), some (.int (nI j))] [] (pj_SH L, hi, hl) o := by
        intro n
        induction n with
        | zero =>
          intro j hj
          rw [show j = c by omega]
          refine (pb_mo_goEvenings_132.trans ((if_neg (nI_ge (show c < 16 by omega) (by omega))).trans (if_neg hneg))).mpr ?_
          have hb : pf_has fr (nI c) := (pq_has fr (by omega)).mpr hc1
          rw [if_neg (not_not_intro hb), if_neg (not_not_intro hb), hk10, nI_1]
          have h72 : pj_up (pj_up hi 32 7 (nI k)) 32 8 (nI c) 32 7 = nI k := rfl
          refine pb_mo_goEvenings_132.mpr ?_
          by_cases h15 : c = 15
          · subst h15
            rw [if_pos (show (16 : Int32) ≤ nI (15 + 1) from Int32.le_refl _)]
            exact K _
          · rw [if_neg (show ¬ (16 : Int32) ≤ nI (c + 1) from nI_ge (b := 16) (by omega) (by omega)), if_pos (show (0 : Int32) ≤ pj_up (pj_up hi 32 7 (nI k)) 32 8 (nI c) 32 7 from by rw [h72]; exact nI_le (a := 0) (by omega) (by omega))]
            exact K _
        | succ n ih =>
          intro j hj
          refine (pb_mo_goEvenings_132.trans ((if_neg (nI_ge (show j < 16 by omega) (by omega))).trans (if_neg hneg))).mpr ?_
          have hb : ¬ pf_has fr (nI j) := fun h => by
            have := (pq_has fr (by omega)).mp h
            rw [hc2 j (by omega)] at this
            cases this
          rw [if_pos hb, if_pos hb, pj_up_self, pj_up_self, nI_1]
          exact ih (j + 1) (by omega)
      exact g c 0 (by omega)
  · rw [if_pos (by rw [h7]; exact pg_n6 (by omega))] at K
    refine (pb_mo_goEvenings_132.trans ((if_neg (by decide)).trans (if_pos ?_))).mpr (K 0)
    rw [h7]
    exact nI_le (a := 0) (by omega) (by omega)
/-! ===== an evening: the class's loop and the model's go together ===== -/
def pg_C (hi H : Nat → Nat → Int32) (st rs : Int32) (k2 : Nat) (m2 : Nat → Int32) (s2 ma2 mw2 : Int32) : Prop := H 20 0 = nI k2 ∧ H 20 1 = st ∧ H 20 2 = rs ∧ H 20 3 = ma2 ∧ H 20 4 = mw2 ∧ pr_TT H m2 s2 ∧ (∀ r, r ≠ 6 → r ≠ 7 → r ≠ 8 → r ≠ 9 → r ≠ 20 → H r = hi r) ∧ (H 6 5 = hi 6 5 ∧ H 6 6 = hi 6 6 ∧ H 6 7 = hi 6 7)
def pg_Mo (L : Nat) (pad : Nat → Int32) (N p k : Nat) (m : Nat → Int32) (s ma mw st rs : Int32) (k2 : Nat) (m2 : Nat → Int32) (s2 ma2 mw2 : Int32) : Prop := ∀ (hi : Nat → Nat → Int32) (hl : Nat → Nat → Int64), hi 34 = m → hi 32 6 = s → hi 32 7 = ma → hi 32 8 = mw → hi 32 10 = nI k → hi 32 4 = nI N → hi 36 = pad → ∃ hi', (∀ (a2 a3 a4 a5 : Option Value), pe_E pj_m126 11 [some (.ref 32), some (.int (nI p)), a2, a3, a4, a5] [] (pj_SH L, hi, hl) (some (.int st), (pj_SH L, hi', hl))) ∧ hi' 34 = m2 ∧ hi' 32 6 = s2 ∧ hi' 32 7 = ma2 ∧ hi' 32 8 = mw2 ∧ hi' 32 10 = nI k2 ∧ (st ≠ -6 → hi' 32 9 = rs) ∧ hi' 32 2 = hi 32 2 ∧ hi' 32 4 = hi 32 4 ∧ (∀ r, r ≠ 32 → r ≠ 34 → hi' r = hi r)
theorem pg_len {pad m : Nat → Int32} {p l : Nat} {a : Int32 × (Nat → Int32) × Int32} (A : pg_act pad p m a l) : nI p + (if pz (¬ (¬ pad p = 46)) = 0 then (if pad (p + 1) = 126 then (2 : Int32) else (if ¬ pad (p + 1) = 45 then (3 : Int32) else (2 : Int32))) else (1 : Int32)) = nI (p + l) := by
  rcases A with ⟨h1, _, rfl⟩ | ⟨c, h1, h2, h3, _, rfl⟩ | ⟨i, h1, h2, h3, _, rfl⟩ | ⟨i, q, c, h1, h2, h3, h4, h5, h6, h7, _, rfl⟩
  · have : pz (¬ (¬ pad p = 46)) = 1 := pz_t (not_not_intro h1)
    rw [this, if_neg (by decide)]
    exact nI_add p 1
  · have : pz (¬ (¬ pad p = 46)) = 0 := by rw [h2]; exact if_neg (not_not_intro (pg_c46 c h1).1)
    rw [this, if_pos rfl, h3]
    exact nI_add p 2
  · have : pz (¬ (¬ pad p = 46)) = 0 := by rw [h2]; exact if_neg (not_not_intro (pg_a46 i h1).1)
    rw [this, if_pos rfl, h3]
    exact nI_add p 2
  · have : pz (¬ (¬ pad p = 46)) = 0 := by rw [h5]; exact if_neg (not_not_intro (pg_a46 i h1).1)
    rw [this, if_pos rfl, h6, if_neg (pg_q q h2).1, if_pos (pg_q q h2).2]
    exact nI_add p 3
theorem pg_l2 {pad m : Nat → Int32} {p l : Nat} {a : Int32 × (Nat → Int32) × Int32} (A : pg_act pad p m a l) (h : ¬ pad p = 46) : 2 ≤ l := by
  rcases A with ⟨h1, _, rfl⟩ | ⟨c, h1, h2, h3, _, rfl⟩ | ⟨i, h1, h2, h3, _, rfl⟩ | ⟨i, q, c, h1, h2, h3, h4, h5, h6, h7, _, rfl⟩
  · exact absurd h1 h
  all_goals omega
/-- the model's loop: to the test of the act's reason -/
theorem pg_m60 {L : Nat} {pad m : Nat → Int32} {N p l : Nat} {a : Int32 × (Nat → Int32) × Int32} (hN : N ≤ 60) (hp : p < N) (A : pg_act pad p m a l) (hpl : p + l ≤ N) (hi : Nat → Nat → Int32) (hl : Nat → Nat → Int64) (e34 : hi 34 = m) (e4 : hi 32 4 = nI N) (e36 : hi 36 = pad) : ∃ h1, pm_H hi h1 a ∧ ∀ (a2 a3 a4 a5 : Option Value) o, pe_E pj_m126 60 [some (.ref 32), some (.int (nI p)), some (.int (pf_ones m 6 16)), some (.int (pz (¬ (¬ pad p = 46)))), a4, a5] [.int a.1, .ref 32] (pj_SH L, h1, hl) o → pe_E pj_m126 11 [some (.ref 32), some (.int (nI p)), a2, a3, a4, a5] [] (pj_SH L, hi, hl) o := by
  have ep : hi 36 (nI p).toNatClampNeg = pad p := by rw [pt_clamp (by omega), e36]
  by_cases h46 : pad p = 46
  · rcases A with ⟨h1, rfl, rfl⟩ | ⟨c, h1, h2, h3, _, rfl⟩ | ⟨i, h1, h2, h3, _, rfl⟩ | ⟨i, q, c, h1, h2, h3, h4, h5, h6, h7, _, rfl⟩
    · obtain ⟨e3, H⟩ := pm_houH e34
      refine ⟨_, H, fun a2 a3 a4 a5 o K => ?_⟩
      refine (pb_mo_goEvenings_11 (fun _ => pt_ixN (by omega) (by omega))).mpr ?_
      rw [e4, if_neg (nI_ge hp (by omega)), ep, if_neg (fun g => g (not_not_intro h46)), e3, e34]
      exact K
    · exact absurd h46 (h2 ▸ (pg_c46 c h1).1)
    · exact absurd h46 (h2 ▸ (pg_a46 i h1).1)
    · exact absurd h46 (h5 ▸ (pg_a46 i h1).1)
  · obtain ⟨hi', C, H⟩ := pg_mod e36 e34 A (by omega) h46 L hl
    refine ⟨hi', H, fun a2 a3 a4 a5 o K => ?_⟩
    refine (pb_mo_goEvenings_11 (fun _ => pt_ixN (by omega) (by omega))).mpr ?_
    rw [e4, if_neg (nI_ge hp (by omega)), ep, if_pos (fun g => g h46), e34]
    exact (pk_mo_goEvenings_57 C).mpr K
theorem pg_s3 (x4 x5 : Int32) (hi : Nat → Nat → Int32) : ph_evs x4 x5 hi 20 3 = (if ¬ ((ph_pa_actAt x4 hi) 20 3) = (-6) then ((ph_pa_actAt x4 hi) 20 3) else (if ((ph_pa_actAt x4 hi) 6 9) = 0 then ((ph_pa_actAt x4 hi) 20 3) else x5)) := by
  unfold ph_evs
  generalize ph_pa_actAt x4 hi = H
  rfl
theorem pg_s4 (x4 x5 : Int32) (hi : Nat → Nat → Int32) : ph_evs x4 x5 hi 20 4 = (if ¬ ((ph_pa_actAt x4 hi) 20 3) = (-6) then ((ph_pa_actAt x4 hi) 20 4) else (if ((ph_pa_actAt x4 hi) 6 9) = 0 then ((ph_pa_actAt x4 hi) 20 4) else (pf_ntz ((ph_pa_actAt x4 hi) 6 9)))) := by
  unfold ph_evs
  generalize ph_pa_actAt x4 hi = H
  rfl
theorem pg_s0 (x4 x5 : Int32) (hi : Nat → Nat → Int32) : ph_evs x4 x5 hi 20 0 = ph_pa_actAt x4 hi 20 0 + 1 := by
  unfold ph_evs
  generalize ph_pa_actAt x4 hi = H
  rfl
theorem pg_s1 (x4 x5 : Int32) (hi : Nat → Nat → Int32) : ph_evs x4 x5 hi 20 1 = ph_pa_actAt x4 hi 20 1 := by
  unfold ph_evs
  generalize ph_pa_actAt x4 hi = H
  rfl
theorem pg_s2 (x4 x5 : Int32) (hi : Nat → Nat → Int32) : ph_evs x4 x5 hi 20 2 = ph_pa_actAt x4 hi 20 2 := by
  unfold ph_evs
  generalize ph_pa_actAt x4 hi = H
  rfl
theorem pg_sr (x4 x5 : Int32) (hi : Nat → Nat → Int32) {r : Nat} (h : r ≠ 20) : ph_evs x4 x5 hi r = ph_pa_actAt x4 hi r := by
  unfold ph_evs
  generalize ph_pa_actAt x4 hi = H
  simp only [pj_up, if_neg h]
theorem pg_evl (n : Nat) (x4 x5 : Int32) (hi : Nat → Nat → Int32) : ph_evl (n + 1) x4 x5 hi = (if (pf_pa_length (hi 18)) ≤ x4 then hi else (if (pf_pa_actAt x4 (hi 6) (hi 7) (hi 8) (hi 9) (hi 18) (hi 19)) = 0 then ph_evl n (x4 + (pf_pa_lengthOfAct x4 ((ph_pa_actAt x4 hi) 18) ((ph_pa_actAt x4 hi) 19))) (x5 + 1) (ph_evs x4 x5 hi) else (pj_up (pj_up (ph_pa_actAt x4 hi) 20 1 x5) 20 2 (pf_pa_actAt x4 (hi 6) (hi 7) (hi 8) (hi 9) (hi 18) (hi 19))))) := rfl
/-- the relation of the trial scene needs its four rows alone -/
theorem pr_TTc {hi hi' : Nat → Nat → Int32} {m : Nat → Int32} {s : Int32} (h6 : hi' 6 = hi 6) (h7 : hi' 7 = hi 7) (h8 : hi' 8 = hi 8) (h9 : hi' 9 = hi 9) (T : pr_TT hi m s) : pr_TT hi' m s := by
  unfold pr_TT at *
  rw [h6, h7, h8, h9]
  exact T
theorem pg_sim {L N : Nat} {pad : Nat → Int32} (hN : N ≤ 60) : ∀ (n p k : Nat) (hi : Nat → Nat → Int32) (m : Nat → Int32) (s ma mw : Int32), k + n = 60 → N ≤ p + n → p ≤ N → pg_ok pad N p → pr_M m → pr_TT hi m s → hi 20 0 = nI k → hi 20 1 = -6 → hi 20 2 = -6 → hi 20 3 = ma → hi 20 4 = mw → (ma = -6 ∨ ∃ j, j < 60 ∧ ma = nI j) → (ma = -6 → hi 6 9 = 0) → hi 18 1 = nI N → (∀ i, i < N → hi 19 i = pad i) → ∃ (st rs : Int32) (k2 : Nat) (m2 : Nat → Int32) (s2 ma2 mw2 : Int32), pg_C hi (ph_evl n (nI p) (nI k) hi) st rs k2 m2 s2 ma2 mw2 ∧ pg_Mo L pad N p k m s ma mw st rs k2 m2 s2 ma2 mw2 ∧ pr_M m2 ∧ ((st = -6 ∧ rs = -6) ∨ ∃ j, j < 60 ∧ st = nI j) := by
  intro n
  induction n with
  | zero =>
    intro p k hi m s ma mw hk hNp hpN ok M T f0 f1 f2 f3 f4 ha hm e18 e19
    have : p = N := by omega
    subst this
    refine ⟨-6, -6, k, m, s, ma, mw, ⟨f0, f1, f2, f3, f4, T, fun _ _ _ _ _ _ => rfl, rfl, rfl, rfl⟩, ?_, M, Or.inl ⟨rfl, rfl⟩⟩
    intro hi hl g34 g6 g7 g8 g10 g4 g36
    refine ⟨hi, fun a2 a3 a4 a5 => ((pb_mo_goEvenings_11 (fun h => absurd (by rw [g4]; exact Int32.le_refl _) h)).trans (if_pos (by rw [g4]; exact Int32.le_refl _))).mpr rfl, g34, g6, g7, g8, g10, fun h => absurd rfl h, rfl, rfl, fun _ _ _ => rfl⟩
  | succ n ih =>
    intro p k hi m s ma mw hk hNp hpN ok M T f0 f1 f2 f3 f4 ha hm e18 e19
    by_cases hp : p = N
    · subst hp
      have ec : ph_evl (n + 1) (nI p) (nI k) hi = hi := by
        unfold ph_evl
        rw [if_pos (show pf_pa_length (hi 18) ≤ nI p from by unfold pf_pa_length; rw [e18]; exact Int32.le_refl _)]
      rw [ec]
      refine ⟨-6, -6, k, m, s, ma, mw, ⟨f0, f1, f2, f3, f4, T, fun _ _ _ _ _ _ => rfl, rfl, rfl, rfl⟩, ?_, M, Or.inl ⟨rfl, rfl⟩⟩
      intro hi hl g34 g6 g7 g8 g10 g4 g36
      refine ⟨hi, fun a2 a3 a4 a5 => ((pb_mo_goEvenings_11 (fun h => absurd (by rw [g4]; exact Int32.le_refl _) h)).trans (if_pos (by rw [g4]; exact Int32.le_refl _))).mpr rfl, g34, g6, g7, g8, g10, fun h => absurd rfl h, rfl, rfl, fun _ _ _ => rfl⟩
    · have hpl : p < N := by omega
      obtain ⟨a, l, A, l1, l2, ok2⟩ := pg_acts hN hpl ok m
      obtain ⟨⟨c1, c2, c3, ⟨c4, d5, d6, d7⟩, c5, j, hj, c6⟩, cl⟩ := pg_cls hN e18 e19 M T A l2
      have F18 : ph_pa_actAt (nI p) hi 18 = hi 18 := c4 18 (by omega) (by omega) (by omega) (by omega)
      have F19 : ph_pa_actAt (nI p) hi 19 = hi 19 := c4 19 (by omega) (by omega) (by omega) (by omega)
      have F20 : ph_pa_actAt (nI p) hi 20 = hi 20 := c4 20 (by omega) (by omega) (by omega) (by omega)
      have hlen : ¬ (pf_pa_length (hi 18) ≤ nI p) := by unfold pf_pa_length; rw [e18]; exact nI_ge hpl (by omega)
      by_cases h0 : a.1 = 0
      · -- the act can be
        have ec : ph_evl (n + 1) (nI p) (nI k) hi = ph_evl n (nI (p + l)) (nI (k + 1)) (ph_evs (nI p) (nI k) hi) := by
          rw [pg_evl]
          rw [if_neg hlen, c1, if_pos h0, F18, F19, cl, nI_add, nI_1]
        have fr : ma = -6 → ph_pa_actAt (nI p) hi 6 9 = pm_fr m a.2.1 := fun h => c5 h0 (hm h)
        have v3 : ph_evs (nI p) (nI k) hi 20 3 = (if ¬ ma = -6 then ma else (if pm_fr m a.2.1 = 0 then ma else nI k)) := by
          rw [pg_s3, F20, f3]
          by_cases h : ma = -6
          · rw [if_neg (not_not_intro h), if_neg (not_not_intro h), fr h]
          · rw [if_pos h, if_pos h]
        have v4 : ph_evs (nI p) (nI k) hi 20 4 = (if ¬ ma = -6 then mw else (if pm_fr m a.2.1 = 0 then mw else pf_ntz (pm_fr m a.2.1))) := by
          rw [pg_s4, F20, f3, f4]
          by_cases h : ma = -6
          · rw [if_neg (not_not_intro h), if_neg (not_not_intro h), fr h]
          · rw [if_pos h, if_pos h]
        have v0 : ph_evs (nI p) (nI k) hi 20 0 = nI (k + 1) := by
          rw [pg_s0, F20, f0, nI_1]
        have v1 : ph_evs (nI p) (nI k) hi 20 1 = -6 := by
          rw [pg_s1, F20, f1]
        have v2 : ph_evs (nI p) (nI k) hi 20 2 = -6 := by
          rw [pg_s2, F20, f2]
        have ha' : (if ¬ ma = -6 then ma else (if pm_fr m a.2.1 = 0 then ma else nI k)) = -6 ∨ ∃ j, j < 60 ∧ (if ¬ ma = -6 then ma else (if pm_fr m a.2.1 = 0 then ma else nI k)) = nI j := by
          split
          · exact ha
          · split
            · exact ha
            · exact Or.inr ⟨k, by omega, rfl⟩
        have hm' : (if ¬ ma = -6 then ma else (if pm_fr m a.2.1 = 0 then ma else nI k)) = -6 → ph_evs (nI p) (nI k) hi 6 9 = 0 := by
          rw [pg_sr _ _ _ (show 6 ≠ 20 by omega)]
          intro h
          by_cases h3 : ma = -6
          · rw [fr h3]
            rw [if_neg (not_not_intro h3)] at h
            by_cases h4 : pm_fr m a.2.1 = 0
            · exact h4
            · rw [if_neg h4] at h
              exact absurd h (pg_n6 (by omega))
          · rw [if_pos h3] at h
            exact absurd h h3
        obtain ⟨st, rs, k2, m2, s2, ma2, mw2, C, Mo, M2, st2⟩ := ih (p + l) (k + 1) (ph_evs (nI p) (nI k) hi) a.2.1 (s + a.2.2) _ _ (by omega) (by omega) l2 ok2 c3 (pr_TTc (pg_sr _ _ _ (by omega)) (pg_sr _ _ _ (by omega)) (pg_sr _ _ _ (by omega)) (pg_sr _ _ _ (by omega)) c2) v0 v1 v2 v3 v4 ha' hm' (by
          rw [pg_sr _ _ _ (show 18 ≠ 20 by omega), F18, e18]) (fun i h => by
          rw [pg_sr _ _ _ (show 19 ≠ 20 by omega), F19]
          exact e19 i h)
        rw [← ec] at C
        refine ⟨st, rs, k2, m2, s2, ma2, mw2, ⟨C.1, C.2.1, C.2.2.1, C.2.2.2.1, C.2.2.2.2.1, C.2.2.2.2.2.1, fun r h6 h7 h8 h9 h20 => ?_, ?_, ?_, ?_⟩, ?_, M2, st2⟩
        · rw [C.2.2.2.2.2.2.1 r h6 h7 h8 h9 h20]
          rw [pg_sr _ _ _ h20]
          exact c4 r h6 h7 h8 h9
        · rw [C.2.2.2.2.2.2.2.1, pg_sr _ _ _ (show 6 ≠ 20 by omega), d5]
        · rw [C.2.2.2.2.2.2.2.2.1, pg_sr _ _ _ (show 6 ≠ 20 by omega), d6]
        · rw [C.2.2.2.2.2.2.2.2.2, pg_sr _ _ _ (show 6 ≠ 20 by omega), d7]
        · intro hi hl g34 g6 g7 g8 g10 g4 g36
          obtain ⟨h1, H, K⟩ := pg_m60 (L := L) hN hpl A l2 hi hl g34 g4 g36
          obtain ⟨q1, q2, q3, q4⟩ := H
          -- the heap behind the act, its reason, its mud, its number
          have e36 : h1 36 = pad := (q4 36 (by omega) (by omega)).trans g36
          have z7 : pj_up h1 32 9 a.1 32 7 = ma := (q3 7 (by omega)).trans g7
          have z10 : pj_up h1 32 9 a.1 32 10 = nI k := (q3 10 (by omega)).trans g10
          have mud := pg_mud (L := L) (hl := hl) (k := k) (x1 := nI (p + l)) (x2 := pf_ones m 6 16) (x3 := pz (¬ (¬ pad p = 46))) (pq_16and (pq_ones16 a.2.1 6) (pf_ones m 6 16 ^^^ (-1))) (pj_up h1 32 9 a.1)
          generalize hX : (if ¬ pj_up h1 32 9 a.1 32 7 = -6 then pj_up h1 32 9 a.1 else (if (pf_ones a.2.1 6 16 &&& (pf_ones m 6 16 ^^^ (-1))) = 0 then pj_up h1 32 9 a.1 else pj_up (pj_up (pj_up h1 32 9 a.1) 32 7 (nI k)) 32 8 (pf_ntz (pf_ones a.2.1 6 16 &&& (pf_ones m 6 16 ^^^ (-1)))))) = X at mud
          have X34 : X 34 = a.2.1 := by rw [← hX]; split; exact q1; split <;> exact q1
          have X6 : X 32 6 = s + a.2.2 := by
            have : X 32 6 = h1 32 6 := by rw [← hX]; split; rfl; split <;> rfl
            rw [this, q2, g6]
          have X7 : X 32 7 = (if ¬ ma = -6 then ma else (if pm_fr m a.2.1 = 0 then ma else nI k)) := by
            rw [← hX, z7]
            unfold pm_fr
            split
            · exact z7
            · split
              · exact z7
              · rfl
          have X8 : X 32 8 = (if ¬ ma = -6 then mw else (if pm_fr m a.2.1 = 0 then mw else pf_ntz (pm_fr m a.2.1))) := by
            rw [← hX, z7]
            unfold pm_fr
            have z8 : pj_up h1 32 9 a.1 32 8 = mw := (q3 8 (by omega)).trans g8
            split
            · exact z8
            · split
              · exact z8
              · rfl
          have X10 : X 32 10 = nI k := by
            have : X 32 10 = h1 32 10 := by rw [← hX]; split; rfl; split <;> rfl
            rw [this, q3 10 (by omega), g10]
          have X2 : X 32 2 = hi 32 2 := by
            have : X 32 2 = h1 32 2 := by rw [← hX]; split; rfl; split <;> rfl
            rw [this, q3 2 (by omega)]
          have X4 : X 32 4 = hi 32 4 := by
            have : X 32 4 = h1 32 4 := by rw [← hX]; split; rfl; split <;> rfl
            rw [this, q3 4 (by omega)]
          have Xr : ∀ r, r ≠ 32 → r ≠ 34 → X r = hi r := by
            intro r h32 h34
            have : X r = h1 r := by
              rw [← hX]
              split
              · simp [pj_up, h32]
              · split <;> simp [pj_up, h32]
            rw [this, q4 r h32 h34]
          obtain ⟨hi', E, r34, r6, r7, r8, r10, r9, r2, r4, rr⟩ := Mo (pj_up X 32 10 (nI (k + 1))) hl X34 X6 X7 X8 rfl (X4.trans g4) ((Xr 36 (by omega) (by omega)).trans g36)
          refine ⟨hi', fun a2 a3 a4 a5 => K a2 a3 a4 a5 _ ?_, r34, r6, r7, r8, r10, r9, r2.trans X2, r4.trans X4, fun r h32 h34 => (rr r h32 h34).trans ?_⟩
          · have hidx : pz (¬ (¬ pad p = 46)) = 0 → ¬ ((nI p + 1) < 0 ∨ 60 ≤ (nI p + 1).toNatClampNeg) := fun h => by
              have h46 : ¬ pad p = 46 := fun h2 => by
                rw [pz_t (not_not_intro h2)] at h
                exact absurd h (by decide)
              have := pg_l2 A h46
              rw [pg_p1]
              exact pt_ixN (by omega) (by omega)
            refine ((pb_mo_goEvenings_60 hidx (fun h _ => hidx h)).trans (if_pos (by rw [h0]; exact Int32.le_refl _))).mpr ?_
            rw [pg_p1, pt_clamp (by omega), e36, pg_len A, q1]
            refine mud _ (by omega) z10 (by rw [z7]; exact ha) (fun x5 => pb_mo_goEvenings_176.mpr ?_)
            rw [X10, nI_1]
            exact E _ _ _ _
          · have : pj_up X 32 10 (nI (k + 1)) r = X r := by simp [pj_up, h32]
            rw [this]
            exact Xr r h32 h34
      · -- the act can not be
        have hj0 : j ≠ 0 := fun h => h0 (by rw [c6, h]; rfl)
        have ec : ph_evl (n + 1) (nI p) (nI k) hi = pj_up (pj_up (ph_pa_actAt (nI p) hi) 20 1 (nI k)) 20 2 a.1 := by
          rw [pg_evl, if_neg hlen, c1, if_neg h0]
        rw [ec]
        refine ⟨nI k, a.1, k, a.2.1, s + a.2.2, ma, mw, ⟨?_, ?_, ?_, ?_, ?_, ?_, fun r h6 h7 h8 h9 h20 => ?_, d5, d6, d7⟩, ?_, c3, Or.inr ⟨k, by omega, rfl⟩⟩
        · exact (congrFun F20 0).trans f0
        · rfl
        · rfl
        · exact (congrFun F20 3).trans f3
        · exact (congrFun F20 4).trans f4
        · exact pr_TTc rfl rfl rfl rfl c2
        · have : pj_up (pj_up (ph_pa_actAt (nI p) hi) 20 1 (nI k)) 20 2 a.1 r = ph_pa_actAt (nI p) hi r := by
            generalize ph_pa_actAt (nI p) hi = H
            simp only [pj_up, if_neg h20]
          rw [this]
          exact c4 r h6 h7 h8 h9
        · intro hi hl g34 g6 g7 g8 g10 g4 g36
          obtain ⟨h1, H, K⟩ := pg_m60 (L := L) hN hpl A l2 hi hl g34 g4 g36
          obtain ⟨q1, q2, q3, q4⟩ := H
          refine ⟨pj_up h1 32 9 a.1, fun a2 a3 a4 a5 => K a2 a3 a4 a5 _ ?_, q1, ?_, ?_, ?_, ?_, fun _ => rfl, ?_, ?_, fun r h32 h34 => ?_⟩
          · have hidx : pz (¬ (¬ pad p = 46)) = 0 → ¬ ((nI p + 1) < 0 ∨ 60 ≤ (nI p + 1).toNatClampNeg) := fun h => by
              have h46 : ¬ pad p = 46 := fun h2 => by
                rw [pz_t (not_not_intro h2)] at h
                exact absurd h (by decide)
              have := pg_l2 A h46
              rw [pg_p1]
              exact pt_ixN (by omega) (by omega)
            refine ((pb_mo_goEvenings_60 hidx (fun h _ => hidx h)).trans (if_neg (by rw [c6]; exact nI_ge (a := 0) (by omega) (by omega)))).mpr ?_
            rw [q3 10 (by omega), g10]
          · exact q2.trans (by rw [g6])
          · exact (q3 7 (by omega)).trans g7
          · exact (q3 8 (by omega)).trans g8
          · exact (q3 10 (by omega)).trans g10
          · exact q3 2 (by omega)
          · exact q3 4 (by omega)
          · have : pj_up h1 32 9 a.1 r = h1 r := by simp [pj_up, h32]
            rw [this]
            exact q4 r h32 h34
