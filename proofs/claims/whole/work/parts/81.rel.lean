/-! ===== THE RELATION between the class and the model, that every pair of calls keeps ===== -/
/-- the model's thirty-two numbers: cells, cards, cans, wet ones, the hour -/
def pr_M (m : Nat → Int32) : Prop := (∀ c, c < 16 → ∃ k, k < 7 ∧ m c = nI k) ∧ (∀ i, i < 8 → ∃ n, n < 65536 ∧ m (16 + i) = nI n) ∧ (∀ c, 1 ≤ c → c < 6 → ∃ n, n < 1000 ∧ m (24 + c) = nI n) ∧ (∃ n, n < 65536 ∧ m 30 = nI n) ∧ (∃ n, n < 100 ∧ m 31 = nI n)
/-- a scene of the class (its fields at row r, its arrays at the next three) holds those numbers -/
def pr_S (hi : Nat → Nat → Int32) (r : Nat) (m : Nat → Int32) : Prop := (∀ k, k < 7 → hi (r + 1) k = pf_ones m (nI k) 16) ∧ (∀ i, i < 8 → hi (r + 2) i = m (16 + i)) ∧ (∀ c, 1 ≤ c → c < 6 → hi (r + 3) c = m (24 + c)) ∧ hi r 3 = m 30 ∧ hi r 4 = m 31
/-- sights: what was told of cells under holes (b = 1) or under card (b = 0) -/
def pf_sg (g : Nat → Int32) (b : Int32) : Nat → Int32
  | 0 => 0
  | i + 1 => if g (2 * i + 1) = b then pf_sg g b i ||| (1 <<< (g (2 * i) &&& 31)) else pf_sg g b i
def pr_G (s5 s6 s7 n2 : Int32) (g : Nat → Int32) : Prop := ∃ n, n ≤ 8 ∧ s5 = nI n ∧ n2 = nI n ∧ (∀ i, i < n → (∃ c, c < 16 ∧ g (2 * i) = nI c) ∧ (g (2 * i + 1) = 0 ∨ g (2 * i + 1) = 1)) ∧ s6 = pf_sg g 1 n ∧ s7 = pf_sg g 0 n
/-- the pad -/
def pr_P (n1 n2 : Int32) (s1 s2 : Nat → Int32) : Prop := ∃ n, n ≤ 60 ∧ n1 = nI n ∧ n2 = nI n ∧ ∀ i, i < n → s1 i = s2 i ∧ ∃ c, 33 ≤ c ∧ c < 127 ∧ s2 i = nI c
/-- an image -/
def pr_I (hi : Nat → Nat → Int32) (r e : Nat) (kept : Int32) : Prop := (kept = 0 ∧ hi 41 e = 0) ∨ (kept = 1 ∧ hi 41 e = 1 ∧ pr_M (fun k => hi 40 (50 * e + k)) ∧ pr_S hi r (fun k => hi 40 (50 * e + k)) ∧ pr_G (hi r 5) (hi r 6) (hi r 7) (hi 40 (50 * e + 49)) (fun k => hi 40 (50 * e + 32 + k)))
def pr_R (hi : Nat → Nat → Int32) (_ : Nat → Nat → Int64) : Prop := pr_M (hi 33) ∧ pr_S hi 2 (hi 33) ∧ pr_G (hi 2 5) (hi 2 6) (hi 2 7) (hi 32 2) (hi 35) ∧ pr_P (hi 18 1) (hi 32 4) (hi 19) (hi 36) ∧ pr_I hi 10 0 (hi 1 4) ∧ pr_I hi 14 1 (hi 1 5)
/-! what the constructors leave -/
theorem pr_e33 (hi : Nat → Nat → Int32) (k : Nat) : pu_16_hi hi 33 k = if 25 ≤ k ∧ k ≤ 29 then 50 else 0 := by
  have e : pu_16_hi hi 33 k = if k = 29 then 50 else if k = 28 then 50 else if k = 27 then 50 else if k = 26 then 50 else if k = 25 then 50 else 0 := rfl
  rw [e]
  by_cases h : 25 ≤ k ∧ k ≤ 29
  · rw [if_pos h]
    rcases (show k = 25 ∨ k = 26 ∨ k = 27 ∨ k = 28 ∨ k = 29 by omega) with rfl | rfl | rfl | rfl | rfl <;> rfl
  · rw [if_neg h, if_neg (by omega), if_neg (by omega), if_neg (by omega), if_neg (by omega), if_neg (by omega)]
theorem pr_e3 (hi : Nat → Nat → Int32) (k : Nat) : pu_16_hi hi 3 k = if k = 0 then 65535 else 0 := rfl
theorem pr_e4 (hi : Nat → Nat → Int32) (k : Nat) : pu_16_hi hi 4 k = 0 := rfl
theorem pr_e5 (hi : Nat → Nat → Int32) (k : Nat) : pu_16_hi hi 5 k = if k = 5 then 50 else if k = 4 then 50 else if k = 3 then 50 else if k = 2 then 50 else if k = 1 then 50 else if k = 0 then 50 else 0 := rfl
theorem pr_e2 (hi : Nat → Nat → Int32) (k : Nat) : pu_16_hi hi 2 k = 0 := rfl
theorem pr_e32 (hi : Nat → Nat → Int32) (k : Nat) : pu_16_hi hi 32 k = 0 := rfl
theorem pr_e18 (hi : Nat → Nat → Int32) (k : Nat) : pu_16_hi hi 18 k = 0 := rfl
theorem pr_e41 (hi : Nat → Nat → Int32) (k : Nat) : pu_16_hi hi 41 k = 0 := rfl
theorem pr_e1 (hi : Nat → Nat → Int32) (k : Nat) : pu_16_hi hi 1 k = 0 := rfl
theorem pf_ones_0 (m : Nat → Int32) (h : ∀ c, c < 16 → m c = 0) (x : Int32) : ∀ n, n ≤ 16 → pf_ones m x n = pf_ones (fun _ => 0) x n
  | 0, _ => rfl
  | n + 1, hn => by
    unfold pf_ones
    rw [pf_ones_0 m h x n (by omega), h n (by omega)]
theorem pr_start (hi : Nat → Nat → Int32) (hl : Nat → Nat → Int64) : pr_R (pu_16_hi hi) hl := by
  have hz : ∀ c, c < 16 → pu_16_hi hi 33 c = 0 := fun c hc => by rw [pr_e33, if_neg (by omega)]
  refine ⟨⟨fun c hc => ⟨0, by omega, hz c hc⟩, fun i hi => ⟨0, by omega, by rw [pr_e33, if_neg (by omega)]; rfl⟩, fun c h1 h2 => ⟨50, by omega, by rw [pr_e33, if_pos (by omega)]; rfl⟩, ⟨0, by omega, by rw [pr_e33, if_neg (by omega)]; rfl⟩, ⟨0, by omega, by rw [pr_e33, if_neg (by omega)]; rfl⟩⟩, ⟨fun k hk => ?_, fun i hi => ?_, fun c h1 h2 => ?_, ?_, ?_⟩, ⟨0, by omega, pr_e2 _ _, pr_e32 _ _, fun i h => absurd h (by omega), pr_e2 _ _, pr_e2 _ _⟩, ⟨0, by omega, pr_e18 _ _, pr_e32 _ _, fun i h => absurd h (by omega)⟩, Or.inl ⟨pr_e1 _ _, pr_e41 _ _⟩, Or.inl ⟨pr_e1 _ _, pr_e41 _ _⟩⟩
  · rw [pf_ones_0 _ hz _ 16 (Nat.le_refl _), pr_e3]
    exact (by decide +kernel : ∀ k, k < 7 → (if k = 0 then (65535 : Int32) else 0) = pf_ones (fun _ => 0) (nI k) 16) k hk
  · rw [pr_e4, pr_e33, if_neg (by omega)]
  · rw [pr_e5, pr_e33]
    rcases (show c = 1 ∨ c = 2 ∨ c = 3 ∨ c = 4 ∨ c = 5 by omega) with rfl | rfl | rfl | rfl | rfl <;> rfl
  · rw [pr_e2, pr_e33, if_neg (by omega)]
  · rw [pr_e2, pr_e33, if_neg (by omega)]
