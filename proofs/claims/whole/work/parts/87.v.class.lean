/-! ===== the class: orders tried ===== -/
def po_J (W : Nat → Int64) (U O : Nat → Int32) (Hc : Nat → Int64) (tg : Int64) (j : Nat) (hi : Nat → Nat → Int32) (hl : Nat → Nat → Int64) : Prop := hi 21 5 = nI j ∧ (∀ i, i < j → hl 23 i = W i ∧ hi 24 i = U i ∧ hi 25 i = O i) ∧ hl 21 6 = tg ∧ hi 21 7 = nI (po_d W j) ∧ hi 21 8 = po_fo O (po_fi (fun i => decide (W i = tg)) j) ∧ po_S W j (hl 26) ∧ (∀ c, c < 5 → hl 22 c = Hc c)
def po_Z (h0 hi : Nat → Nat → Int32) : Prop := ∀ k, ¬ k = 21 → ¬ k = 24 → ¬ k = 25 → hi k = h0 k
def po_H1 (hi : Nat → Nat → Int32) (tg w1 : Int64) (x3 x4 : Int32) : Nat → Nat → Int32 := (pj_up (pj_up (pj_up (pj_up hi 24 ((hi 21 5) : Int32).toNatClampNeg x3) 25 ((hi 21 5) : Int32).toNatClampNeg x4) 21 5 ((hi 21 5) + 1)) 21 8 (if ¬ (hi 21 8) = (-6) then ((pj_up (pj_up (pj_up hi 24 ((hi 21 5) : Int32).toNatClampNeg x3) 25 ((hi 21 5) : Int32).toNatClampNeg x4) 21 5 ((hi 21 5) + 1)) 21 8) else (if ¬ (lg_cmp w1 tg) = 0 then ((pj_up (pj_up (pj_up hi 24 ((hi 21 5) : Int32).toNatClampNeg x3) 25 ((hi 21 5) : Int32).toNatClampNeg x4) 21 5 ((hi 21 5) + 1)) 21 8) else x4)))
theorem po_H1a (hi : Nat → Nat → Int32) (tg w1 : Int64) (x3 x4 v : Int32) : pj_up (po_H1 hi tg w1 x3 x4) 21 7 v 21 5 = hi 21 5 + 1 := rfl
theorem po_H1b (hi : Nat → Nat → Int32) (tg w1 : Int64) (x3 x4 v : Int32) : pj_up (po_H1 hi tg w1 x3 x4) 21 7 v 21 7 = v := rfl
theorem po_H1c (hi : Nat → Nat → Int32) (tg w1 : Int64) (x3 x4 : Int32) : po_H1 hi tg w1 x3 x4 21 7 = hi 21 7 := rfl
theorem po_H1d (hi : Nat → Nat → Int32) (tg w1 : Int64) (x3 x4 v : Int32) : pj_up (po_H1 hi tg w1 x3 x4) 21 7 v 21 8 = (if ¬ (hi 21 8) = (-6) then hi 21 8 else (if ¬ (lg_cmp w1 tg) = 0 then hi 21 8 else x4)) := rfl
theorem po_H1e (hi : Nat → Nat → Int32) (tg w1 : Int64) (x3 x4 v : Int32) : pj_up (po_H1 hi tg w1 x3 x4) 21 7 v 24 = upd (hi 24) ((hi 21 5) : Int32).toNatClampNeg x3 := rfl
theorem po_H1f (hi : Nat → Nat → Int32) (tg w1 : Int64) (x3 x4 v : Int32) : pj_up (po_H1 hi tg w1 x3 x4) 21 7 v 25 = upd (hi 25) ((hi 21 5) : Int32).toNatClampNeg x4 := rfl
theorem po_H1g (hi : Nat → Nat → Int32) (tg w1 : Int64) (x3 x4 v : Int32) : po_Z hi (pj_up (po_H1 hi tg w1 x3 x4) 21 7 v) := fun k h1 h2 h3 => by
  unfold po_H1
  simp only [pj_up, if_neg h1, if_neg h2, if_neg h3]
theorem po_upn (f : Nat → Int32) {k j : Nat} (v : Int32) (h : ¬ j = k) : upd f k v j = f j := if_neg h
set_option maxHeartbeats 1000000 in
theorem ss_add {W : Nat → Int64} {U O : Nat → Int32} {Hc : Nat → Int64} {tg : Int64} {j L : Nat} {hi : Nat → Nat → Int32} {hl : Nat → Nat → Int64} (J : po_J W U O Hc tg j hi hl) (hj : j < 326) (hn : ∀ i, ¬ W i = -1) (hO : ∀ i, i < 326 → ¬ O i = -6) : ∃ hi' hl', pe_C pj_m19 [.ref 21, .long (W j), .int (U j), .int (O j)] (pj_SH L, hi, hl) none (pj_SH L, hi', hl') ∧ po_J W U O Hc tg (j + 1) hi' hl' ∧ po_Z hi hi' := by
  obtain ⟨J1, J2, J3, J4, J5, J6, J7⟩ := J
  have c0 : ¬ hi 21 5 < 0 := by rw [J1]; exact nI_pos (by omega)
  have c1 : hi 21 5 < 326 := by rw [J1]; exact nI_lt (b := 326) hj (by omega)
  have cl : (hi 21 5).toNatClampNeg = j := by rw [J1]; exact pt_clamp (by omega)
  obtain ⟨hl2, C, S2, F2⟩ := ss_new (W := W) (j := j) L (po_H1 hi (hl 21 6) (W j) (U j) (O j)) (pj_uL hl 23 ((hi 21 5) : Int32).toNatClampNeg (W j)) J6 (by omega) hn
  refine ⟨_, hl2, ((pb_od_add_0 (fun _ _ => by rw [J1]; exact pt_ixN (by omega) (by omega))).trans ((if_neg c0).trans ((if_pos c1).trans ((pk_od_add_85 C).trans pb_od_add_88)))).mpr rfl, ⟨?_, ?_, ?_, ?_, ?_, S2, ?_⟩, po_H1g _ _ _ _ _ _⟩
  · rw [po_H1a, J1, nI_1]
  · intro i hij
    rw [F2 23 (by decide), po_H1e, po_H1f, cl]
    show vp_updL (hl 23) j (W j) i = W i ∧ _
    by_cases q : i = j
    · subst q
      exact ⟨pk_uLs, pu_eq _ _ _, pu_eq _ _ _⟩
    · rw [pk_uLn q, po_upn _ _ q, po_upn _ _ q]
      exact J2 i (by omega)
  · rw [F2 21 (by decide)]
    exact J3
  · have eD : po_d W (j + 1) = po_d W j + (if po_in W j (W j) = true then 0 else 1) := rfl
    rw [po_H1b, po_H1c, J4, eD]
    by_cases q : po_in W j (W j) = true
    · rw [if_pos q, if_pos rfl, if_pos q, Nat.add_zero]
    · rw [if_neg q, if_neg (by decide), if_neg q, nI_1]
  · rw [po_H1d, J5, J3]
    cases e : po_fi (fun i => decide (W i = tg)) j with
    | none =>
      rw [po_fiN e]
      show (if ¬ (-6 : Int32) = -6 then (-6 : Int32) else (if ¬ (lg_cmp (W j) tg) = 0 then (-6 : Int32) else O j)) = _
      rw [if_neg (not_not_intro rfl)]
      by_cases q : W j = tg
      · rw [if_neg (not_not_intro ((lg_cmp_eq _ _).mpr q)), if_pos (decide_eq_true q)]
        rfl
      · rw [if_pos (fun z => q ((lg_cmp_eq _ _).mp z)), if_neg (fun z => q (of_decide_eq_true z))]
        rfl
    | some i =>
      have lt := po_filt e
      rw [po_fiS e]
      show (if ¬ O i = -6 then O i else _) = O i
      rw [if_pos (hO i (by omega))]
  · intro c hc
    rw [F2 22 (by decide)]
    exact J7 c hc
set_option maxHeartbeats 1000000 in
theorem ss_begin {W : Nat → Int64} {U O : Nat → Int32} (L : Nat) (hi : Nat → Nat → Int32) (hl : Nat → Nat → Int64) (w0 : W 0 = 0) (u0 : U 0 = 0) (o0 : O 0 = 1) (hn : ∀ i, ¬ W i = -1) (hO : ∀ i, i < 326 → ¬ O i = -6) : ∃ hi' hl', pe_C pj_m16 [.ref 21, .ref 2] (pj_SH L, hi, hl) none (pj_SH L, hi', hl') ∧ po_J W U O (fun c => pf_sp (hi 4 c) 16) (pf_woc (hi 3) 6) 1 hi' hl' ∧ po_Z hi hi' := by
  have g : ∀ (o : Option Value × pj_H), (∀ x2, pe_E pj_m16 27 [some (.ref 21), some (.ref 2), some (.int x2)] [] (pj_SH L, hi, pj_row hl 22 (pf_upto (hl 22) (fun c => pf_sp (hi 4 c) 16) 5)) o) → ∀ (n k : Nat), k + n = 5 → pe_E pj_m16 2 [some (.ref 21), some (.ref 2), some (.int (nI k))] [] (pj_SH L, hi, pj_row hl 22 (pf_upto (hl 22) (fun c => pf_sp (hi 4 c) 16) k)) o := by
    intro o K n
    induction n with
    | zero =>
      intro k hk
      rw [show k = 5 by omega]
      exact ((pb_od_begin_2 (fun h => absurd (Int32.le_refl _) h)).trans (if_pos (Int32.le_refl _))).mpr (K _)
    | succ n ih =>
      intro k hk
      refine ((pb_od_begin_2 (fun _ => pt_ixN (by omega) (by omega))).trans (if_neg (show ¬ (5 : Int32) ≤ nI k from nI_ge (b := 5) (by omega) (by omega)))).mpr ?_
      rw [pt_clamp (by omega), nI_1, pj_uL_row2, pf_holN (by omega)]
      have e : vp_updL (pf_upto (hl 22) (fun c => pf_sp (hi 4 c) 16) k) k (pf_sp (hi 4 k) 16) = pf_upto (hl 22) (fun c => pf_sp (hi 4 c) 16) (k + 1) := by
        funext j
        by_cases h : j = k
        · subst h; simp [vp_updL, pf_upto]
        · simp only [vp_updL, pf_upto, if_neg h]
          by_cases h2 : j < k
          · rw [if_pos h2, if_pos (by omega)]
          · rw [if_neg h2, if_neg (by omega)]
      rw [e]
      exact ih (k + 1) (by omega)
  have e0 : pj_row hl 22 (pf_upto (hl 22) (fun c => pf_sp (hi 4 c) 16) 0) = hl := by rw [pf_upto_0, pj_row_self]
  have sl : ∀ s : Nat → Int64, ∀ k, k < 512 → pf_upto s (fun _ => (-1 : Int64)) 512 k = -1 := fun s k hk => if_pos hk
  have J0 : po_J W U O (fun c => pf_sp (hi 4 c) 16) (pf_woc (hi 3) 6) 0 (pj_up (pj_up (pj_up hi 21 5 0) 21 7 0) 21 8 (-6)) (pj_row (pj_uL (pj_row hl 22 (pf_upto (hl 22) (fun c => pf_sp (hi 4 c) 16) 5)) 21 6 (pf_woc (hi 3) 6)) 26 (pf_upto ((pj_uL (pj_row hl 22 (pf_upto (hl 22) (fun c => pf_sp (hi 4 c) 16) 5)) 21 6 (pf_woc (hi 3) 6)) 26) (fun _ => (-1 : Int64)) 512)) := by
    refine ⟨rfl, fun i h => absurd h (by omega), rfl, rfl, rfl, ⟨fun k hk => Or.inl ?_, fun i h => absurd h (by omega), ?_⟩, fun c hc => ?_⟩
    · exact sl _ k hk
    · exact Nat.le_of_eq (po_occ0 512 (fun k hk => sl _ k hk))
    · show pf_upto (hl 22) (fun c => pf_sp (hi 4 c) 16) 5 c = pf_sp (hi 4 c) 16
      exact if_pos hc
  obtain ⟨hi', hl', C, J, Z⟩ := ss_add (L := L) J0 (by decide) hn hO
  rw [w0, u0, o0] at C
  refine ⟨hi', hl', pb_od_begin_0.mpr ?_, J, fun k h1 h2 h3 => ?_⟩
  · have := g (none, (pj_SH L, hi', hl')) (fun x2 => (pb_od_begin_27.trans ((pk_od_begin_42 (ss_flS (-1) L hi _)).trans (pb_od_begin_45.trans ((pk_od_begin_65 C).trans pb_od_begin_68)))).mpr rfl) 5 0 rfl
    rw [e0] at this
    exact this
  · rw [Z k h1 h2 h3]
    simp only [pj_up, if_neg h1]
def po_W (B : Nat → Int32) (j : Nat) : Int64 := po_w4 B (po_lv j) (po_T j)
def po_V (B : Nat → Int32) (j : Nat) : Int64 := po_w3 B (po_lv j) (po_T j)
def po_U (j : Nat) : Int32 := nI (po_u (po_lv j) (po_T j))
def po_O (j : Nat) : Int32 := nI (po_o (po_lv j) (po_T j))
theorem po_W0 (B : Nat → Int32) : po_W B 0 = 0 := by
  have e : po_W B 0 = lN (po_e 4 (fun _ => 0) 16) := rfl
  rw [e, po_e0 16 (fun _ _ => rfl)]
  rfl
theorem po_Wn (B : Nat → Int32) (j : Nat) : ¬ po_W B j = -1 := po_w4n B _ _
theorem po_On (j : Nat) (h : j < 326) : ¬ po_O j = -6 := (po_F4 h).2.2
theorem po_WS (B : Nat → Int32) {i c : Nat} (h1 : po_T (po_k i c) = 5 * po_T i + c) (h2 : po_lv (po_k i c) = po_lv i + 1) (hc : c < 5) : po_W B (po_k i c) = (po_W B i &&& ((15 * pf_sp (B c) 16) ^^^ (-1))) ||| ((nI c + 1).toInt64 * pf_sp (B c) 16) := by
  unfold po_W
  rw [po_s4 B _ _ hc, h1, h2]
theorem po_US {i c : Nat} (h1 : po_T (po_k i c) = 5 * po_T i + c) (h2 : po_lv (po_k i c) = po_lv i + 1) (hc : c < 5) : po_U (po_k i c) = (po_U i ||| (1 <<< (nI c &&& 31))) := by
  unfold po_U
  rw [po_ub _ (po_ul _ _) c hc, h1, h2, po_uS _ _ _ hc]
theorem po_OS {i c : Nat} (h1 : po_T (po_k i c) = 5 * po_T i + c) (h2 : po_lv (po_k i c) = po_lv i + 1) (hc : c < 5) : po_O (po_k i c) = (10 * po_O i) + nI c := by
  unfold po_O
  rw [h1, h2, po_oS _ _ _ hc, show (10 : Int32) * nI (po_o (po_lv i) (po_T i)) = nI (10 * po_o (po_lv i) (po_T i)) from pt_nmul 10 _, nI_add]
theorem po_klea : ∀ a, a < 17 → ∀ b, b < 20 → 20 * a + b < 326 → po_k (20 * a + b) 0 ≤ 326 := by decide +kernel
theorem po_kle {i : Nat} (h : i < 326) : po_k i 0 ≤ 326 := by
  have := po_klea (i / 20) (by omega) (i % 20) (by omega)
  rw [show 20 * (i / 20) + i % 20 = i by omega] at this
  exact this h
theorem po_k326 : po_k 326 0 = 326 := by decide +kernel
theorem po_k0 : po_k 0 0 = 1 := by decide +kernel
set_option maxHeartbeats 1000000 in
theorem ss_try (L : Nat) (hi : Nat → Nat → Int32) (hl : Nat → Nat → Int64) : ∃ hi' hl', pe_C pj_m15 [.ref 21, .ref 2] (pj_SH L, hi, hl) none (pj_SH L, hi', hl') ∧ po_J (po_W (hi 4)) po_U po_O (fun c => pf_sp (hi 4 c) 16) (pf_woc (hi 3) 6) 326 hi' hl' ∧ po_Z hi hi' := by
  obtain ⟨hi1, hl1, C1, J1, Z1⟩ := ss_begin (W := po_W (hi 4)) (U := po_U) (O := po_O) L hi hl (po_W0 _) rfl rfl (po_Wn _) po_On
  have out : ∀ (n i : Nat) (hi2 : Nat → Nat → Int32) (hl2 : Nat → Nat → Int64) (a3 a4 a6 : Option Value), i + n = 326 → po_J (po_W (hi 4)) po_U po_O (fun c => pf_sp (hi 4 c) 16) (pf_woc (hi 3) 6) (po_k i 0) hi2 hl2 → po_Z hi hi2 → ∃ hi' hl', pe_E pj_m15 7 [some (.ref 21), some (.ref 2), some (.int (nI i)), a3, a4, none, a6, none] [] (pj_SH L, hi2, hl2) (none, (pj_SH L, hi', hl')) ∧ po_J (po_W (hi 4)) po_U po_O (fun c => pf_sp (hi 4 c) 16) (pf_woc (hi 3) 6) 326 hi' hl' ∧ po_Z hi hi' := by
    intro n
    induction n with
    | zero =>
      intro i hi2 hl2 a3 a4 a6 hin J Z
      have e : i = 326 := by omega
      subst e
      rw [po_k326] at J
      refine ⟨hi2, hl2, (pb_od_tryAll_7.trans ((if_pos ?_).trans pb_od_tryAll_120)).mpr rfl, J, Z⟩
      rw [J.1]
      exact Int32.le_refl _
    | succ n ih =>
      intro i hi2 hl2 a3 a4 a6 hin J Z
      obtain ⟨Fa, Fb, Fc⟩ := po_F1 (i := i) (by omega)
      have inn : ∀ (n2 c : Nat) (hi3 : Nat → Nat → Int32) (hl3 : Nat → Nat → Int64) (a4 a6 : Option Value), c + n2 = 5 → po_J (po_W (hi 4)) po_U po_O (fun c => pf_sp (hi 4 c) 16) (pf_woc (hi 3) 6) (po_k i c) hi3 hl3 → po_Z hi hi3 → ∃ hi' hl', pe_E pj_m15 24 [some (.ref 21), some (.ref 2), some (.int (nI i)), some (.int (nI c)), a4, none, a6, none] [] (pj_SH L, hi3, hl3) (none, (pj_SH L, hi', hl')) ∧ po_J (po_W (hi 4)) po_U po_O (fun c => pf_sp (hi 4 c) 16) (pf_woc (hi 3) 6) 326 hi' hl' ∧ po_Z hi hi' := by
        intro n2
        induction n2 with
        | zero =>
          intro c hi3 hl3 a4 a6 hc J Z
          have e : c = 5 := by omega
          subst e
          rw [Fb] at J
          obtain ⟨hi', hl', E, r⟩ := ih (i + 1) hi3 hl3 (some (.int (nI 5))) a4 a6 (by omega) J Z
          refine ⟨hi', hl', ((pb_od_tryAll_24 (fun h => absurd (Int32.le_refl _) h) (fun h => absurd (Int32.le_refl _) h) (fun h => absurd (Int32.le_refl _) h)).trans ((if_pos (Int32.le_refl _)).trans pb_od_tryAll_114)).mpr ?_, r⟩
          rw [nI_1]
          exact E
        | succ n2 ih2 =>
          intro c hi3 hl3 a4 a6 hc J Z
          have lt : i < po_k i c := Nat.lt_of_lt_of_le Fa (Nat.add_le_add_left (Nat.zero_le _) _)
          obtain ⟨e23, e24, e25⟩ := J.2.1 i lt
          have e22 : hl3 22 c = pf_sp (hi 4 c) 16 := J.2.2.2.2.2.2 c (by omega)
          have ix : ¬ (nI i < 0 ∨ 326 ≤ (nI i).toNatClampNeg) := pt_ixN (by omega) (by omega)
          have ix5 : ¬ (nI c < 0 ∨ 5 ≤ (nI c).toNatClampNeg) := pt_ixN (by omega) (by omega)
          have ci : (nI i).toNatClampNeg = i := pt_clamp (by omega)
          have cc : (nI c).toNatClampNeg = c := pt_clamp (by omega)
          have kS : po_k i (c + 1) = po_k i c + (if (po_u (po_lv i) (po_T i)).testBit c = true then 0 else 1) := (Nat.add_assoc _ _ _).symm
          have g5 : ¬ (5 : Int32) ≤ nI c := nI_ge (b := 5) (by omega) (by omega)
          by_cases q : (po_u (po_lv i) (po_T i)).testBit c = true
          · have kS0 : po_k i (c + 1) = po_k i c := by rw [kS, if_pos q]; rfl
            rw [← kS0] at J
            obtain ⟨hi', hl', E, r⟩ := ih2 (c + 1) hi3 hl3 a4 a6 (by omega) J Z
            refine ⟨hi', hl', ((pb_od_tryAll_24 (fun _ => ix) (fun _ _ => ix) (fun _ _ => ix5)).trans ((if_neg g5).trans ((if_pos ?_).trans pb_od_tryAll_108))).mpr ?_, r⟩
            · rw [ci, e24]
              intro z
              have := (po_utc (by omega)).mp z
              rw [q] at this
              cases this
            · rw [nI_1]
              exact E
          · rw [if_neg q] at kS
            have qf : (po_u (po_lv i) (po_T i)).testBit c = false := by cases z : (po_u (po_lv i) (po_T i)).testBit c; rfl; exact absurd z q
            obtain ⟨k1, k2, k3⟩ := Fc c (by omega) qf
            obtain ⟨hi4, hl4, C, J4, Z4⟩ := ss_add (L := L) J k1 (po_Wn _) po_On
            rw [← kS] at J4
            rw [po_WS _ k2 k3 (by omega), po_US k2 k3 (by omega), po_OS k2 k3 (by omega)] at C
            obtain ⟨hi', hl', E, r⟩ := ih2 (c + 1) hi4 hl4 (some (.long (po_W (hi 4) i &&& ((15 * pf_sp (hi 4 c) 16) ^^^ (-1))))) (some (.long ((po_W (hi 4) i &&& ((15 * pf_sp (hi 4 c) 16) ^^^ (-1))) ||| ((nI (c + 1)).toInt64 * pf_sp (hi 4 c) 16)))) (by omega) J4 (fun k h1 h2 h3 => (Z4 k h1 h2 h3).trans (Z k h1 h2 h3))
            refine ⟨hi', hl', ((pb_od_tryAll_24 (fun _ => ix) (fun _ _ => ix) (fun _ _ => ix5)).trans ((if_neg g5).trans (if_neg ?_))).mpr ?_, r⟩
            · rw [ci, e24]
              exact not_not_intro ((po_utc (by omega)).mpr qf)
            · rw [ci, cc, e23, e24, e25, e22]
              refine ((pk_od_tryAll_105 C).trans pb_od_tryAll_108).mpr ?_
              rw [nI_1]
              exact E
      refine (inn 5 0 hi2 hl2 a4 a6 rfl J Z).imp (fun hi' h => h.imp (fun hl' h => ⟨(pb_od_tryAll_7.trans ((if_neg ?_).trans (if_neg ?_))).mpr h.1, h.2⟩))
      · rw [J.1]
        have := po_kle (i := i) (by omega)
        exact nI_ge Fa (by omega)
      · exact nI_ge (b := 326) (by omega) (by omega)
  rw [← po_k0] at J1
  obtain ⟨hi', hl', E, r⟩ := out 326 0 hi1 hl1 none none none rfl J1 Z1
  exact ⟨hi', hl', (pb_od_tryAll_0.trans ((pk_od_tryAll_2 C1).trans pb_od_tryAll_5)).mpr E, r⟩
