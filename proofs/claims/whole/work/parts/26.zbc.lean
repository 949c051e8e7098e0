/-! ===== every number of sixteen bits tried ===== -/
/-! ===== Integer.bitCount and numberOfTrailingZeros on sixteen bits: every number tried ===== -/
def pq_all : Nat → (Nat → Bool) → Bool
  | 0, _ => true
  | n + 1, p => p n && pq_all n p
theorem pq_allE : ∀ (n : Nat) (p : Nat → Bool), pq_all n p = true → ∀ i, i < n → p i = true
  | 0, _, _, i, hi => absurd hi (Nat.not_lt_zero i)
  | n + 1, p, h, i, hi => by
    have h2 := (Bool.and_eq_true _ _).mp h
    by_cases e : i = n
    · rw [e]; exact h2.1
    · exact pq_allE n p h2.2 i (by omega)
theorem pq_brute (p : Nat → Bool) (h : pq_all 256 (fun a => pq_all 256 (fun b => p (256 * a + b))) = true) : ∀ n, n < 65536 → p n = true := by
  intro n hn
  have h1 := pq_allE 256 _ h (n / 256) (by omega)
  have h2 := pq_allE 256 _ h1 (n % 256) (by omega)
  have e : 256 * (n / 256) + n % 256 = n := by omega
  rw [e] at h2
  exact h2
def pq_pop : Nat → Nat → Nat
  | 0, _ => 0
  | k + 1, n => Nat.add (pq_pop k n) (Nat.mod (Nat.shiftRight n k) 2)
def pq_b1 (n : Nat) : Nat := Nat.sub n (Nat.land (Nat.shiftRight n 1) 1431655765)
def pq_b2 (n : Nat) : Nat := Nat.add (Nat.land n 858993459) (Nat.land (Nat.shiftRight n 2) 858993459)
def pq_b3 (n : Nat) : Nat := Nat.land (Nat.add n (Nat.shiftRight n 4)) 252645135
def pq_b4 (n : Nat) : Nat := Nat.add n (Nat.shiftRight n 8)
def pq_b5 (n : Nat) : Nat := Nat.add n (Nat.shiftRight n 16)
def pq_bc (n : Nat) : Nat := Nat.land (pq_b5 (pq_b4 (pq_b3 (pq_b2 (pq_b1 n))))) 63
set_option maxRecDepth 100000 in
theorem pq_bcpop : ∀ n, n < 65536 → Nat.beq (pq_bc n) (pq_pop 16 n) = true := pq_brute _ (by decide +kernel)
