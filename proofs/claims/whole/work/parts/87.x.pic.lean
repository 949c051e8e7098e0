/-! ===== the model: pictures ===== -/
def po_Q (W : Nat → Int64) (j : Nat) (r : Nat → Int64) : Prop := ∀ w, (∃ i, i < po_d W j ∧ r i = w) ↔ po_in W j w = true
theorem po_QS1 {W : Nat → Int64} {j : Nat} {r : Nat → Int64} (Q : po_Q W j r) (q : po_in W j (W j) = true) : po_Q W (j + 1) r := by
  intro w
  have eD : po_d W (j + 1) = po_d W j + (if po_in W j (W j) = true then 0 else 1) := rfl
  have eI : po_in W (j + 1) w = (po_in W j w || decide (W j = w)) := rfl
  rw [eD, if_pos q, Nat.add_zero, Q w, eI, Bool.or_eq_true, decide_eq_true_iff]
  exact ⟨Or.inl, fun h => h.elim id (fun z => by rw [← z]; exact q)⟩
theorem po_QS2 {W : Nat → Int64} {j : Nat} {r : Nat → Int64} (Q : po_Q W j r) (q : ¬ po_in W j (W j) = true) : po_Q W (j + 1) (vp_updL r (po_d W j) (W j)) := by
  intro w
  have eD : po_d W (j + 1) = po_d W j + (if po_in W j (W j) = true then 0 else 1) := rfl
  have eI : po_in W (j + 1) w = (po_in W j w || decide (W j = w)) := rfl
  rw [eD, if_neg q, eI, Bool.or_eq_true, decide_eq_true_iff, ← Q w]
  constructor
  · rintro ⟨i, h1, h2⟩
    by_cases z : i = po_d W j
    · subst z
      rw [pk_uLs] at h2
      exact Or.inr h2
    · rw [pk_uLn z] at h2
      exact Or.inl ⟨i, by omega, h2⟩
  · rintro (⟨i, h1, h2⟩ | h)
    · exact ⟨i, by omega, by rw [pk_uLn (by omega)]; exact h2⟩
    · exact ⟨po_d W j, by omega, by rw [pk_uLs]; exact h⟩
set_option maxHeartbeats 1000000 in
theorem ss_mpl {L : Nat} {hi : Nat → Nat → Int32} {hl : Nat → Nat → Int64} {n : Nat} {x2 x3 : Int32} {w : Int64} {o : Option Value × pj_H} {F b0 : Bool} (hn : n ≤ 326) (hF : F = true ↔ b0 = true ∧ ∀ i, i < n → ¬ hl 37 i = w) (K : ∀ y7, pe_E pj_m139 82 [some (.ref 32), some (.int (nI n)), some (.int x2), some (.int x3), some (.long w), none, some (.int (pz (F = true))), some (.int y7)] [] (pj_SH L, hi, hl) o) : ∀ (k i : Nat) (b : Bool), i + k = n → (b = true ↔ b0 = true ∧ ∀ i', i' < i → ¬ hl 37 i' = w) → pe_E pj_m139 45 [some (.ref 32), some (.int (nI n)), some (.int x2), some (.int x3), some (.long w), none, some (.int (pz (b = true))), some (.int (nI i))] [] (pj_SH L, hi, hl) o := by
  intro k
  induction k with
  | zero =>
    intro i b hik hb
    have ei : i = n := by omega
    subst ei
    have e : b = F := by rw [Bool.eq_iff_iff, hb, hF]
    rw [e]
    exact ((pb_mo_pictures_45 (fun h => absurd (Int32.le_refl _) h)).trans (if_pos (Int32.le_refl _))).mpr (K _)
  | succ k ih =>
    intro i b hik hb
    refine ((pb_mo_pictures_45 (fun _ _ => pt_ixN (by omega) (by omega))).trans (if_neg (nI_ge (by omega) (by omega)))).mpr ?_
    cases b with
    | false =>
      have e : F = false := by
        cases z : F with
        | false => rfl
        | true =>
          have := hF.mp z
          exact absurd (hb.mpr ⟨this.1, fun i' h => this.2 i' (by omega)⟩) (by decide)
      rw [e] at K
      rw [if_pos (pz_f (by decide))]
      exact K _
    | true =>
      rw [if_neg (show ¬ pz (true = true) = 0 by decide), pt_clamp (by omega), nI_1, pc_pzb (b := decide (¬ hl 37 i = w)) (P := ¬ (lg_cmp (hl 37 i) w = 0)) (by rw [decide_eq_true_iff, lg_cmp_eq])]
      refine ih (i + 1) _ (by omega) ?_
      rw [decide_eq_true_iff]
      have hb := hb.mp rfl
      constructor
      · intro h
        refine ⟨hb.1, fun i' h' => ?_⟩
        by_cases z : i' = i
        · subst z; exact h
        · exact hb.2 i' (by omega)
      · intro h
        exact h.2 i (by omega)
def po_q3 (m a : Nat) : Bool := po_all (fun b => !decide (50 * a + b < 5 ^ m) || decide (po_ix m (50 * a + b) ≤ 326)) 50
theorem po_F5a : ∀ m, m < 6 → ∀ a, a < 63 → po_q3 m a = true := by decide +kernel
theorem po_ixl {m code : Nat} (hm : m < 6) (h : code < 5 ^ m) : po_ix m code ≤ 326 := by
  have := po_5le hm
  have this := po_allE (po_F5a m hm (code / 50) (by omega)) (code % 50) (by omega)
  have this : (!decide (50 * (code / 50) + code % 50 < 5 ^ m) || decide (po_ix m (50 * (code / 50) + code % 50) ≤ 326)) = true := this
  rw [show 50 * (code / 50) + code % 50 = code by omega, decide_eq_true h, Bool.not_true, Bool.false_or] at this
  exact of_decide_eq_true this
theorem po_ix6 : po_ix 6 0 = 326 := by decide +kernel
theorem po_ix0 : po_ix 0 0 = 0 := by decide +kernel
theorem po_mI {m : Nat} (h : m < 6) : pf_fv (nI m).toInt.toNat 1 = nI (5 ^ m) := by
  rw [pt_nI (by omega), Int.toNat_natCast, po_fv m h]
theorem po_VE (B : Nat → Int32) {m code : Nat} (h1 : po_T (po_ix m code) = code) (h2 : po_lv (po_ix m code) = m) : po_w3 B m code = po_V B (po_ix m code) := by
  unfold po_V
  rw [h1, h2]
set_option maxHeartbeats 1000000 in
theorem ss_pic (L : Nat) (hi : Nat → Nat → Int32) (hl : Nat → Nat → Int64) : ∃ hl', pe_C pj_m139 [.ref 32] (pj_SH L, hi, hl) (some (.int (nI (po_d (po_V (fun c => hi 33 (16 + c))) 326)))) (pj_SH L, hi, hl') := by
  obtain ⟨V, eV⟩ : ∃ V, V = po_V (fun c => hi 33 (16 + c)) := ⟨_, rfl⟩
  rw [← eV]
  have main : ∀ (nm m : Nat) (hl : Nat → Nat → Int64), m + nm = 6 → po_Q V (po_ix m 0) (hl 37) → ∃ hl', ∀ a3 a4 a6 a7 : Option Value, pe_E pj_m139 4 [some (.ref 32), some (.int (nI (po_d V (po_ix m 0)))), some (.int (nI m)), a3, a4, none, a6, a7] [] (pj_SH L, hi, hl) (some (.int (nI (po_d V 326))), (pj_SH L, hi, hl')) := by
    intro nm
    induction nm with
    | zero =>
      intro m hl hm Q
      have e : m = 6 := by omega
      subst e
      rw [po_ix6]
      exact ⟨hl, fun a3 a4 a6 a7 => (pb_mo_pictures_4.trans ((if_pos (Int32.le_refl _)).trans pb_mo_pictures_110)).mpr rfl⟩
    | succ nm ih =>
      intro m hl hm Q
      have hm6 : m < 6 := by omega
      have h5 := po_5le hm6
      have inn : ∀ (nc code : Nat) (hl : Nat → Nat → Int64), code + nc = 5 ^ m → po_Q V (po_ix m code) (hl 37) → ∃ hl', ∀ a4 a6 a7 : Option Value, pe_E pj_m139 12 [some (.ref 32), some (.int (nI (po_d V (po_ix m code)))), some (.int (nI m)), some (.int (nI code)), a4, none, a6, a7] [] (pj_SH L, hi, hl) (some (.int (nI (po_d V 326))), (pj_SH L, hi, hl')) := by
        intro nc
        induction nc with
        | zero =>
          intro code hl hc Q
          have e : code = 5 ^ m := by omega
          subst e
          rw [po_F3 m hm6] at Q ⊢
          obtain ⟨hl', E⟩ := ih (m + 1) hl (by omega) Q
          refine ⟨hl', fun a4 a6 a7 => (pb_mo_pictures_12.trans ((if_pos ?_).trans pb_mo_pictures_104)).mpr ?_⟩
          · rw [po_mI hm6]
            exact Int32.le_refl _
          · rw [nI_1]
            exact E _ _ _ _
        | succ nc ih2 =>
          intro code hl hc Q
          have hc5 : code < 5 ^ m := by omega
          obtain ⟨F1, F2⟩ := po_F2 hm6 hc5
          have C := ss_mwo L hi hl hm6 hc5
          have head : ∀ (o : Option Value × pj_H) (a4 a6 a7 : Option Value), pe_E pj_m139 45 [some (.ref 32), some (.int (nI (po_d V (po_ix m code)))), some (.int (nI m)), some (.int (nI code)), some (.long (if po_v m code = true then po_w3 (fun c => hi 33 (16 + c)) m code else -1)), none, some (.int (pz (¬ ((lg_cmp (if po_v m code = true then po_w3 (fun c => hi 33 (16 + c)) m code else -1) 0) < 0)))), some (.int (nI 0))] [] (pj_SH L, hi, hl) o → pe_E pj_m139 12 [some (.ref 32), some (.int (nI (po_d V (po_ix m code)))), some (.int (nI m)), some (.int (nI code)), a4, none, a6, a7] [] (pj_SH L, hi, hl) o := fun o a4 a6 a7 h =>
            (pb_mo_pictures_12.trans ((if_neg (by rw [po_mI hm6]; exact nI_ge hc5 (by omega))).trans ((pk_mo_pictures_23 C).trans pb_mo_pictures_26))).mpr h
          have dle := po_dle V (po_ix m code)
          have z0 : pz (false = true) = 0 := by decide
          have z1 : ¬ pz (true = true) = 0 := by decide
          cases v : po_v m code with
          | true =>
            obtain ⟨lt, eT, eL, eS⟩ := F1 v
            rw [if_pos v, po_VE _ eT eL, ← eV] at head
            have Qw := Q (V (po_ix m code))
            have nn : ¬ lg_cmp (V (po_ix m code)) 0 < 0 := by rw [eV]; exact po_w3n _ _ _
            rw [pc_pzb (b := true) ⟨fun _ => nn, fun _ => rfl⟩] at head
            have cd : (nI (po_d V (po_ix m code))).toNatClampNeg = po_d V (po_ix m code) := pt_clamp (by omega)
            have eD : po_d V (po_ix m code + 1) = po_d V (po_ix m code) + (if po_in V (po_ix m code) (V (po_ix m code)) = true then 0 else 1) := rfl
            by_cases q : po_in V (po_ix m code) (V (po_ix m code)) = true
            · have Q' := po_QS1 Q q
              rw [← eS] at Q'
              obtain ⟨hl', E⟩ := ih2 (code + 1) hl (by omega) Q'
              rw [eS, eD, if_pos q, Nat.add_zero] at E
              have hF : false = true ↔ true = true ∧ ∀ i, i < po_d V (po_ix m code) → ¬ hl 37 i = V (po_ix m code) := by
                obtain ⟨i, h1, h2⟩ := Qw.mpr q
                exact ⟨fun h => (by cases h), fun h => absurd h2 (h.2 i h1)⟩
              refine ⟨hl', fun a4 a6 a7 => head _ a4 a6 a7 (ss_mpl (by omega) hF (fun y7 => (pb_mo_pictures_82 (fun h => absurd z0 h)).mpr ?_) (po_d V (po_ix m code)) 0 true (Nat.zero_add _) ⟨fun _ => ⟨rfl, fun i' h => absurd h (by omega)⟩, fun _ => rfl⟩)⟩
              rw [if_pos z0, if_pos z0, pj_uL_self, nI_1]
              exact E _ _ _
            · have Q' : po_Q V (po_ix m code + 1) (pj_uL hl 37 (po_d V (po_ix m code)) (V (po_ix m code)) 37) := po_QS2 Q q
              rw [← eS] at Q'
              obtain ⟨hl', E⟩ := ih2 (code + 1) _ (by omega) Q'
              rw [eS, eD, if_neg q] at E
              have hF : true = true ↔ true = true ∧ ∀ i, i < po_d V (po_ix m code) → ¬ hl 37 i = V (po_ix m code) := ⟨fun _ => ⟨rfl, fun i h1 h2 => q (Qw.mp ⟨i, h1, h2⟩)⟩, fun _ => rfl⟩
              refine ⟨hl', fun a4 a6 a7 => head _ a4 a6 a7 (ss_mpl (by omega) hF (fun y7 => (pb_mo_pictures_82 (fun _ => pt_ixN (by omega) (by omega))).mpr ?_) (po_d V (po_ix m code)) 0 true (Nat.zero_add _) ⟨fun _ => ⟨rfl, fun i' h => absurd h (by omega)⟩, fun _ => rfl⟩)⟩
              rw [if_neg z1, if_neg z1, cd, nI_1, nI_1]
              exact E _ _ _
          | false =>
            have eS := F2 v
            have vf : ¬ po_v m code = true := by rw [v]; decide
            rw [if_neg vf, pc_pzb (b := false) (P := ¬ (lg_cmp (-1) 0 < 0)) ⟨fun h => (by cases h), fun h => absurd po_neg h⟩] at head
            rw [← eS] at Q
            obtain ⟨hl', E⟩ := ih2 (code + 1) hl (by omega) Q
            rw [eS] at E
            have hF : false = true ↔ false = true ∧ ∀ i, i < po_d V (po_ix m code) → ¬ hl 37 i = -1 := ⟨fun h => (by cases h), fun h => h.1⟩
            refine ⟨hl', fun a4 a6 a7 => head _ a4 a6 a7 (ss_mpl (by
              have := po_ixl hm6 hc5
              omega) hF (fun y7 => (pb_mo_pictures_82 (fun h => absurd z0 h)).mpr ?_) (po_d V (po_ix m code)) 0 false (Nat.zero_add _) ⟨fun h => (by cases h), fun h => h.1⟩)⟩
            rw [if_pos z0, if_pos z0, pj_uL_self, nI_1]
            exact E _ _ _
      obtain ⟨hl', E⟩ := inn (5 ^ m) 0 hl (by omega) Q
      exact ⟨hl', fun a3 a4 a6 a7 => (pb_mo_pictures_4.trans (if_neg (show ¬ (6 : Int32) ≤ nI m from nI_ge (b := 6) (by omega) (by omega)))).mpr (E _ _ _)⟩
  obtain ⟨hl', E⟩ := main 6 0 hl rfl (by
    rw [po_ix0]
    intro w
    exact ⟨fun ⟨i, h, _⟩ => absurd h (Nat.not_lt_zero i), fun h => by cases h⟩)
  rw [po_ix0] at E
  exact ⟨hl', pb_mo_pictures_0.mpr (E _ _ _ _)⟩
