/-! ===== the model: which order ===== -/
def po_mr (x : Int32) : Option Nat → Int32
  | none => -6
  | some j => if ¬ x = 0 then po_O j else nI (po_lv j)
theorem po_mr1 (x : Int32) {m code : Nat} (lt : po_ix m code < 326) (eT : po_T (po_ix m code) = code) (eL : po_lv (po_ix m code) = m) (hm : m < 6) : (if ¬ x = 0 then (pf_ord (nI m).toInt.toNat 0 1 (nI code)) else nI m) = po_mr x (some (po_ix m code)) := by
  have F4 := (po_F4 lt).1
  rw [eT, eL] at F4
  have eO : po_O (po_ix m code) = nI (po_o m code) := by unfold po_O; rw [eT, eL]
  have e : po_mr x (some (po_ix m code)) = if ¬ x = 0 then po_O (po_ix m code) else nI (po_lv (po_ix m code)) := rfl
  rw [e, eO, eL, pt_nI (by omega), Int.toNat_natCast, F4]
set_option maxHeartbeats 1000000 in
theorem ss_mm49 {x : Int32} {L : Nat} {hi : Nat → Nat → Int32} {hl : Nat → Nat → Int64} {V : Nat → Int64} {G : Int64} {q : Nat → Bool} {r : Option Nat} {N : Nat} (eV : V = po_V (fun c => hi 33 (16 + c))) (hq : ∀ j, q j = true ↔ V j = G) (hG : ¬ (-1 : Int64) = G) (eN : N = 326) (hr : po_fi q N = r) : ∀ (nm m : Nat) (a5 : Option Value), m + nm = 6 → po_fi q (po_ix m 0) = none → pe_E pj_m140 49 [some (.ref 32), some (.int x), some (.long G), none, some (.int (nI m)), a5] [] (pj_SH L, hi, hl) (some (.int (po_mr x r)), (pj_SH L, hi, hl)) := by
  intro nm
  induction nm with
  | zero =>
    intro m a5 hm Q
    have e : m = 6 := by omega
    subst e
    rw [po_ix6, ← eN, hr] at Q
    rw [Q]
    exact (pb_mo_made_49.trans (if_pos (Int32.le_refl _))).mpr rfl
  | succ nm ih =>
    intro m a5 hm Q
    have hm6 : m < 6 := by omega
    have h5 := po_5le hm6
    have inn : ∀ (nc code : Nat), code + nc = 5 ^ m → po_fi q (po_ix m code) = none → pe_E pj_m140 59 [some (.ref 32), some (.int x), some (.long G), none, some (.int (nI m)), some (.int (nI code))] [] (pj_SH L, hi, hl) (some (.int (po_mr x r)), (pj_SH L, hi, hl)) := by
      intro nc
      induction nc with
      | zero =>
        intro code hc Q
        have e : code = 5 ^ m := by omega
        subst e
        rw [po_F3 m hm6] at Q
        refine (pb_mo_made_59.trans (if_pos ?_)).mpr ?_
        · rw [po_mI hm6]
          exact Int32.le_refl _
        · rw [nI_1]
          exact ih (m + 1) _ (by omega) Q
      | succ nc ih2 =>
        intro code hc Q
        have hc5 : code < 5 ^ m := by omega
        obtain ⟨F1, F2⟩ := po_F2 hm6 hc5
        have C := ss_mwo L hi hl hm6 hc5
        have ih2' := ih2 (code + 1) (by omega)
        rw [← nI_1] at ih2'
        have hd : ¬ pf_fv (nI m).toInt.toNat 1 ≤ nI code := by rw [po_mI hm6]; exact nI_ge hc5 (by omega)
        by_cases w : po_v m code = true
        · have P := F1 w
          have lt := P.1
          have eT := P.2.1
          have eL := P.2.2.1
          have eS := P.2.2.2
          rw [if_pos w, po_VE _ eT eL, ← eV] at C
          refine (pb_mo_made_59.trans ((if_neg hd).trans ((pk_mo_made_74 C).trans pb_mo_made_77))).mpr ?_
          have Qn := po_fiN Q
          by_cases z : V (po_ix m code) = G
          · rw [if_pos ((hq _).mpr z)] at Qn
            have this := po_fiM Qn (N - (po_ix m code + 1))
            rw [show po_ix m code + 1 + (N - (po_ix m code + 1)) = N by omega, hr] at this
            rw [if_neg (not_not_intro ((lg_cmp_eq _ _).mpr z)), this, po_mr1 x lt eT eL hm6]
          · rw [if_neg (fun y => z ((hq _).mp y)), ← eS] at Qn
            rw [if_pos (fun y => z ((lg_cmp_eq _ _).mp y))]
            exact ih2' Qn
        · rw [if_neg w] at C
          refine (pb_mo_made_59.trans ((if_neg hd).trans ((pk_mo_made_74 C).trans (pb_mo_made_77.trans (if_pos (fun z => hG ((lg_cmp_eq _ _).mp z))))))).mpr ?_
          rw [← F2 (by cases y : po_v m code; rfl; exact absurd y w)] at Q
          exact ih2' Q
    exact (pb_mo_made_49.trans (if_neg (show ¬ (6 : Int32) ≤ nI m from nI_ge (b := 6) (by omega) (by omega)))).mpr (inn (5 ^ m) 0 (by omega) Q)
set_option maxHeartbeats 1000000 in
theorem ss_mmade (x : Int32) (L : Nat) (hi : Nat → Nat → Int32) (hl : Nat → Nat → Int64) (v : 0 ≤ x ∧ x ≤ 1) {col : Nat → Nat} (hcol : ∀ i, i < 16 → col i < 7 ∧ hi 33 i = nI (col i)) {q : Nat → Bool} {r : Option Nat} {N : Nat} (hq : ∀ j, q j = true ↔ po_V (fun c => hi 33 (16 + c)) j = lN (po_e 3 col 16)) (eN : N = 326) (hr : po_fi q N = r) : pe_C pj_m140 [.ref 32, .int x] (pj_SH L, hi, hl) (some (.int (po_mr x r))) (pj_SH L, hi, hl) := by
  refine (pb_mo_made_0.trans (if_pos v)).mpr ?_
  have c3 : ∀ i, i < 16 → col i < 2 ^ 3 := fun i h => by have := (hcol i h).1; omega
  have l1 : ∀ (n k : Nat), k + n = 16 → pe_E pj_m140 17 [some (.ref 32), some (.int x), some (.long (lN (po_e 3 col k))), none, some (.int (nI k)), none] [] (pj_SH L, hi, hl) (some (.int (po_mr x r)), (pj_SH L, hi, hl)) := by
    intro n
    induction n with
    | zero =>
      intro k hk
      rw [show k = 16 by omega]
      exact ((pb_mo_made_17 (fun h => absurd (Int32.le_refl _) h)).trans ((if_pos (Int32.le_refl _)).trans pb_mo_made_46)).mpr (ss_mm49 rfl hq (po_ne1 c3) eN hr 6 0 none rfl (by rw [po_ix0]; rfl))
    | succ n ih =>
      intro k hk
      obtain ⟨h1, h2⟩ := hcol k (by omega)
      refine ((pb_mo_made_17 (fun _ => pt_ixN (by omega) (by omega))).trans (if_neg (show ¬ (16 : Int32) ≤ nI k from nI_ge (b := 16) (by omega) (by omega)))).mpr ?_
      rw [pt_clamp (by omega), h2, nI_1, nI_l (by omega), show (3 : Int32) * nI k = nI (3 * k) from pt_nmul 3 k, wb_shl _ (by omega), po_eor k (fun i hq => c3 i (by omega)) (by omega)]
      exact ih (k + 1) (by omega)
  exact l1 16 0 rfl
/-! ===== the pairs ===== -/
theorem po_gC {B B' : Nat → Int32} (h : ∀ c, c < 5 → B c = B' c) : ∀ m code i, po_g B m code i = po_g B' m code i
  | 0, _, _ => rfl
  | m + 1, code, i => by
    unfold po_g
    rw [h (code % 5) (Nat.mod_lt _ (by decide)), po_gC h m (code / 5) i]
theorem po_VC {B B' : Nat → Int32} (h : ∀ c, c < 5 → B c = B' c) : po_V B = po_V B' := by
  funext j
  unfold po_V po_w3
  rw [po_ec 16 (fun i _ => po_gC h _ _ i)]
theorem po_ZK {hi hi' : Nat → Nat → Int32} (Z : po_Z hi hi') : pr_K hi hi' := by
  have z : ∀ k, (¬ k = 21 ∧ ¬ k = 24 ∧ ¬ k = 25) → hi' k = hi k := fun k h => Z k h.1 h.2.1 h.2.2
  exact ⟨z 1 (by decide), z 3 (by decide), z 4 (by decide), z 5 (by decide), z 10 (by decide), z 11 (by decide), z 12 (by decide), z 13 (by decide), z 14 (by decide), z 15 (by decide), z 16 (by decide), z 17 (by decide), z 18 (by decide), z 19 (by decide), z 33 (by decide), z 35 (by decide), z 36 (by decide), z 40 (by decide), z 41 (by decide), congrFun (z 2 (by decide)) 3, congrFun (z 2 (by decide)) 4, congrFun (z 2 (by decide)) 5, congrFun (z 2 (by decide)) 6, congrFun (z 2 (by decide)) 7, congrFun (z 32 (by decide)) 2, congrFun (z 32 (by decide)) 4⟩
theorem pk_pictures {L : Nat} : pr_OK pr_R L pj_m82 pj_m139 [] := by
  intro hi hl R
  obtain ⟨M, T, _⟩ := pr_Rin R
  obtain ⟨hi1, hl1, C1, J, Z⟩ := ss_try L hi hl
  obtain ⟨hl2, C2⟩ := ss_pic L hi1 hl1
  have e33 : hi1 33 = hi 33 := Z 33 (by decide) (by decide) (by decide)
  refine pr_ok ((pb_sw_pictures_0.trans ((pk_sw_pictures_8 C1).trans pb_sw_pictures_11)).mpr rfl) C2 ?_ (pr_RK (po_ZK Z) R) (Z 0 (by decide) (by decide) (by decide)) (Z 0 (by decide) (by decide) (by decide))
  rw [J.2.2.2.1, e33, ← po_VC (B := hi 4) (fun c hc => T.2.1 c (by omega))]
  exact congrArg nI (po_dE (fun i j => (po_w43 (hi 4) _ _ _ _).symm) 326)
theorem pk_made {L : Nat} (a : Int32) : pr_OK pr_R L pj_m83 pj_m140 [.int a] := by
  intro hi hl R
  obtain ⟨M, T, _⟩ := pr_Rin R
  by_cases v : 0 ≤ a ∧ a ≤ 1
  case neg => exact pr_ok ((pb_sw_made_0.trans (if_neg v)).mpr rfl) ((pb_mo_made_0.trans (if_neg v)).mpr rfl) rfl R rfl rfl
  obtain ⟨hi1, hl1, C1, J, Z⟩ := ss_try L hi hl
  have e33 : hi1 33 = hi 33 := Z 33 (by decide) (by decide) (by decide)
  have hex : ∀ i : Nat, ∃ k : Nat, i < 16 → k < 7 ∧ hi 33 i = nI k := fun i => by
    by_cases h : i < 16
    · obtain ⟨k, h1, h2⟩ := M.1 i h
      exact ⟨k, fun _ => ⟨h1, h2⟩⟩
    · exact ⟨0, fun z => absurd z h⟩
  obtain ⟨col, hcol⟩ := Classical.skolem.mp hex
  obtain ⟨N, eN⟩ : ∃ N : Nat, N = 326 := ⟨_, rfl⟩
  have hq : ∀ j, (fun i => decide (po_W (hi 4) i = pf_woc (hi 3) 6)) j = true ↔ po_V (fun c => hi1 33 (16 + c)) j = lN (po_e 3 col 16) := by
    intro j
    rw [e33, ← po_VC (B := hi 4) (fun c hc => T.2.1 c (by omega)), po_tgt T.1 hcol]
    exact decide_eq_true_iff.trans (po_t43 (hi 4) _ _ (fun i h => (hcol i h).1))
  have C2 := ss_mmade a L hi1 hl1 v (col := col) (N := N) (fun i h => by rw [e33]; exact hcol i h) hq eN rfl
  have J8 := J.2.2.2.2.1
  rw [← eN] at J8
  refine pr_ok ((pb_sw_made_0.trans ((if_pos v).trans ((pk_sw_made_20 C1).trans pb_sw_made_23))).mpr rfl) C2 ?_ (pr_RK (po_ZK Z) R) (Z 0 (by decide) (by decide) (by decide)) (Z 0 (by decide) (by decide) (by decide))
  rw [J8]
  cases e : po_fi (fun i => decide (po_W (hi 4) i = pf_woc (hi 3) 6)) N with
  | none =>
    show (-6 : Int32) = if ¬ (-6 : Int32) = -6 then _ else ((-6) : Int32)
    rw [if_neg (not_not_intro rfl)]
  | some j =>
    have lt := po_filt e
    rw [eN] at lt
    obtain ⟨_, F2, F3⟩ := po_F4 lt
    show (if ¬ a = 0 then po_O j else nI (po_lv j)) = if ¬ po_O j = -6 then (if ¬ a = 0 then po_O j else pf_ci 5 0 (po_O j / 10)) else ((-6) : Int32)
    rw [if_pos (show ¬ po_O j = -6 from F3), show pf_ci 5 0 (po_O j / 10) = nI (po_lv j) from F2]
