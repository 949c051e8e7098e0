/-! ===== the model: walls by figures ===== -/
theorem po_vp : ∀ (k m code : Nat), po_v (m + k) code = true → po_v m (code / 5 ^ k) = true
  | 0, m, code, h => by rw [Nat.pow_zero, Nat.div_one]; exact h
  | k + 1, m, code, h => by
    have h2 : (po_v (m + k) (code / 5) && !(po_u (m + k) (code / 5)).testBit (code % 5)) = true := h
    rw [Bool.and_eq_true] at h2
    have := po_vp k m (code / 5) h2.1
    rw [Nat.div_div_eq_div_mul, Nat.mul_comm, ← Nat.pow_succ] at this
    exact this
theorem po_fv : ∀ m, m < 6 → pf_fv m 1 = nI (5 ^ m) := by decide +kernel
theorem po_by : ∀ k, k < 5 → (if nI (5 ^ k) ≤ 1 then (1 : Int32) else nI (5 ^ k) / 5) = nI (5 ^ (k - 1)) := by decide +kernel
theorem po_pw : ∀ k, k < 6 → 0 < 5 ^ k ∧ 5 ^ k ≤ 3125 := by decide +kernel
theorem po_w30 (B : Nat → Int32) (c : Nat) : po_w3 B 0 c = 0 := by
  have e : po_w3 B 0 c = lN (po_e 3 (fun _ => 0) 16) := rfl
  rw [e, po_e0 16 (fun _ _ => rfl)]
  rfl
set_option maxHeartbeats 1000000 in
theorem ss_mwc {L : Nat} {hi : Nat → Nat → Int32} {hl : Nat → Nat → Int64} {x1 x2 x5 x6 x7 : Int32} {o : Option Value × pj_H} {c : Nat} {f : Nat → Nat} (hc5 : c < 5) (hf : ∀ i, i < 16 → f i < 2 ^ 3) (K : ∀ y9, pe_E pj_m137 147 [some (.ref 32), some (.int x1), some (.int x2), some (.long (lN (po_e 3 (fun i => if bt (hi 33 (16 + c)) i = true then c + 1 else f i) 16))), none, some (.int x5), some (.int x6), some (.int x7), some (.int (nI c)), some (.int y9)] [] (pj_SH L, hi, hl) o) : ∀ (n k : Nat), k + n = 16 → pe_E pj_m137 88 [some (.ref 32), some (.int x1), some (.int x2), some (.long (lN (po_e 3 (fun i => if i < k ∧ bt (hi 33 (16 + c)) i = true then c + 1 else f i) 16))), none, some (.int x5), some (.int x6), some (.int x7), some (.int (nI c)), some (.int (nI k))] [] (pj_SH L, hi, hl) o := by
  intro n
  induction n with
  | zero =>
    intro k hk
    rw [show k = 16 by omega]
    refine ((pb_mo_wallOf_88 (fun h => absurd (Int32.le_refl _) h)).trans (if_pos (Int32.le_refl _))).mpr ?_
    have e : po_e 3 (fun i => if i < 16 ∧ bt (hi 33 (16 + c)) i = true then c + 1 else f i) 16 = po_e 3 (fun i => if bt (hi 33 (16 + c)) i = true then c + 1 else f i) 16 := po_ec 16 (fun i hq => by
      by_cases q : bt (hi 33 (16 + c)) i = true
      · rw [if_pos ⟨hq, q⟩, if_pos q]
      · rw [if_neg (fun z => q z.2), if_neg q])
    rw [e]
    exact K _
  | succ n ih =>
    intro k hk
    have e16 : (16 : Int32) + nI c = nI (16 + c) := pt_16 (by omega)
    refine ((pb_mo_wallOf_88 (fun _ => by rw [e16]; exact pt_ixN (by omega) (by omega))).trans (if_neg (show ¬ (16 : Int32) ≤ nI k from nI_ge (b := 16) (by omega) (by omega)))).mpr ?_
    rw [e16, pt_clamp (by omega), nI_1 c, nI_1 k, nI_l (by omega)]
    have b3 : ∀ i, i < 16 → (if i < k ∧ bt (hi 33 (16 + c)) i = true then c + 1 else f i) < 2 ^ 3 := fun i hq => by
      have := hf i hq
      split <;> omega
    have nx : (if ¬ (pf_has (hi 33 (16 + c)) (nI k)) then lN (po_e 3 (fun i => if i < k ∧ bt (hi 33 (16 + c)) i = true then c + 1 else f i) 16) else ((lN (po_e 3 (fun i => if i < k ∧ bt (hi 33 (16 + c)) i = true then c + 1 else f i) 16) &&& ((7 <<< (((3 * nI k) : Int32).toInt64 &&& 63)) ^^^ (-1))) ||| (lN (c + 1) <<< (((3 * nI k) : Int32).toInt64 &&& 63)))) = lN (po_e 3 (fun i => if i < k + 1 ∧ bt (hi 33 (16 + c)) i = true then c + 1 else f i) 16) := by
      by_cases q : bt (hi 33 (16 + c)) k = true
      · rw [if_neg (not_not_intro ((pq_has _ (by omega)).mpr q)), po_s3 b3 (by omega) (by omega)]
        exact congrArg lN (po_ec 16 (fun i _ => by
          by_cases z : i = k
          · subst z
            rw [if_pos rfl, if_pos ⟨by omega, q⟩]
          · rw [if_neg z]
            by_cases y : i < k ∧ bt (hi 33 (16 + c)) i = true
            · rw [if_pos y, if_pos ⟨by have := y.1; omega, y.2⟩]
            · rw [if_neg y, if_neg (fun x => y ⟨by have := x.1; omega, x.2⟩)]))
      · rw [if_pos (fun z => q ((pq_has _ (by omega)).mp z))]
        exact congrArg lN (po_ec 16 (fun i _ => by
          by_cases y : i < k ∧ bt (hi 33 (16 + c)) i = true
          · rw [if_pos y, if_pos ⟨by have := y.1; omega, y.2⟩]
          · rw [if_neg y, if_neg (fun x => by
              by_cases z : i = k
              · subst z; exact q x.2
              · exact y ⟨by have := x.1; omega, x.2⟩)]))
    rw [nx]
    exact ih (k + 1) (by omega)
set_option maxHeartbeats 1000000 in
theorem ss_mwo (L : Nat) (hi : Nat → Nat → Int32) (hl : Nat → Nat → Int64) {m code : Nat} (hm : m < 6) (hc : code < 5 ^ m) : pe_C pj_m137 [.ref 32, .int (nI code), .int (nI m)] (pj_SH L, hi, hl) (some (.long (if po_v m code = true then po_w3 (fun c => hi 33 (16 + c)) m code else -1))) (pj_SH L, hi, hl) := by
  have h5 := po_5le hm
  refine pb_mo_wallOf_0.mpr ?_
  have l2 : ∀ (n i : Nat) (a8 a9 : Option Value), i + n = m → po_v i (code / 5 ^ (m - i)) = true → pe_E pj_m137 32 [some (.ref 32), some (.int (nI code)), some (.int (nI m)), some (.long (po_w3 (fun c => hi 33 (16 + c)) i (code / 5 ^ (m - i)))), none, some (.int (nI (po_u i (code / 5 ^ (m - i))))), some (.int (nI (5 ^ (m - 1 - i)))), some (.int (nI i)), a8, a9] [] (pj_SH L, hi, hl) (some (.long (if po_v m code = true then po_w3 (fun c => hi 33 (16 + c)) m code else -1)), (pj_SH L, hi, hl)) := by
    intro n
    induction n with
    | zero =>
      intro i a8 a9 hin hv
      have e : i = m := by omega
      rw [e, Nat.sub_self, Nat.pow_zero, Nat.div_one] at hv
      rw [e, Nat.sub_self, Nat.pow_zero, Nat.div_one]
      refine ((pb_mo_wallOf_32 (fun h => absurd (Int32.le_refl _) h)).trans (if_pos (Int32.le_refl _))).mpr ?_
      rw [if_pos hv]
    | succ n ih =>
      intro i a8 a9 hin hv
      obtain ⟨k, ek⟩ : ∃ k, k = m - 1 - i := ⟨_, rfl⟩
      obtain ⟨p, ep⟩ : ∃ p, p = code / 5 ^ k := ⟨_, rfl⟩
      have pd : code / 5 ^ (m - i) = p / 5 := by rw [show m - i = k + 1 by omega, ep, Nat.pow_succ, Nat.div_div_eq_div_mul]
      have ih' : ∀ a8 a9, _ := fun a8 a9 => ih (i + 1) a8 a9 (by omega)
      rw [show m - (i + 1) = k by omega, show m - 1 - (i + 1) = k - 1 by omega, ← ep] at ih'
      rw [pd] at hv
      rw [pd, ← ek]
      obtain ⟨w1, w2⟩ := po_pw k (by omega)
      have pl : p % 5 < 5 := Nat.mod_lt _ (by decide)
      have ple : p ≤ code := by rw [ep]; exact Nat.div_le_self _ _
      have ec : (nI code / nI (5 ^ k)) - (nI code / nI (5 ^ k)) / 5 * 5 = nI (p % 5) := by
        rw [pt_ndiv (by omega) w1 (by omega), ← ep]
        exact pt_nmod (d := 5) (by omega) (by omega) (by omega)
      have x60 : ¬ nI (5 ^ k) = 0 := nI_ne0 w1 (by omega)
      refine ((pb_mo_wallOf_32 (fun _ => x60)).trans (if_neg (nI_ge (by omega) (by omega)))).mpr ?_
      rw [ec]
      by_cases q : (po_u i (p / 5)).testBit (p % 5) = true
      · rw [if_neg (not_not_intro ((po_utb pl).mpr q))]
        have nv : ¬ po_v m code = true := fun z => by
          have := po_vp k (i + 1) code (by rw [show i + 1 + k = m by omega]; exact z)
          rw [← ep] at this
          have : (po_v i (p / 5) && !(po_u i (p / 5)).testBit (p % 5)) = true := this
          rw [q, Bool.not_true, Bool.and_false] at this
          cases this
        rw [if_neg nv]
      · rw [if_pos (fun z => q ((po_utb pl).mp z)), po_ub _ (po_ul _ _) _ pl, po_by k (by omega)]
        have qf : (po_u i (p / 5)).testBit (p % 5) = false := by cases z : (po_u i (p / 5)).testBit (p % 5); rfl; exact absurd z q
        have vv : po_v (i + 1) p = true := by
          show (po_v i (p / 5) && !(po_u i (p / 5)).testBit (p % 5)) = true
          rw [hv, qf]
          rfl
        have e0 : po_w3 (fun c => hi 33 (16 + c)) i (p / 5) = lN (po_e 3 (fun i' => if i' < 0 ∧ bt (hi 33 (16 + p % 5)) i' = true then p % 5 + 1 else po_g (fun c => hi 33 (16 + c)) i (p / 5) i') 16) := congrArg lN (po_ec 16 (fun i' _ => (if_neg (fun z => absurd z.1 (by omega))).symm))
        rw [e0]
        refine ss_mwc pl (fun i' _ => by have := po_gl (fun c => hi 33 (16 + c)) i (p / 5) i'; omega) (fun y9 => pb_mo_wallOf_147.mpr ?_) 16 0 rfl
        rw [nI_1]
        exact ih' _ _ vv
  have l1 : ∀ (n k : Nat), k + n = m - 1 → pe_E pj_m137 11 [some (.ref 32), some (.int (nI code)), some (.int (nI m)), some (.long 0), none, some (.int 0), some (.int (nI (5 ^ k))), some (.int (nI (k + 1))), none, none] [] (pj_SH L, hi, hl) (some (.long (if po_v m code = true then po_w3 (fun c => hi 33 (16 + c)) m code else -1)), (pj_SH L, hi, hl)) := by
    intro n
    induction n with
    | zero =>
      intro k hk
      refine (pb_mo_wallOf_11.trans ((if_pos (nI_le (show m ≤ k + 1 by omega) (by omega))).trans pb_mo_wallOf_29)).mpr ?_
      have := l2 m 0 none none (by omega) rfl
      rw [po_w30, show m - 1 - 0 = k by omega] at this
      exact this
    | succ n ih =>
      intro k hk
      refine (pb_mo_wallOf_11.trans (if_neg (nI_ge (show k + 1 < m by omega) (by omega)))).mpr ?_
      rw [nI_1, show nI (5 ^ k) * 5 = nI (5 ^ (k + 1)) from (pt_nmul _ 5).trans (by rw [Nat.pow_succ])]
      exact ih (k + 1) (by omega)
  exact l1 (m - 1) 0 (by omega)
