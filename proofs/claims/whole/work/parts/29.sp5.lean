/-! ===== contracts: the fewest cards, prints that fit, drops ===== -/
def pf_fews (f4 : Nat → Int32) (x1 x2 x3 : Int32) : Int32 := if ¬ ((x2 = 0) ∨ (¬ ((pf_bc x2) ≤ (pf_bc x3)))) then x2 else (if ¬ (x1 &&& ((pf_hoa f4 x3 8) ^^^ (-1))) = 0 then x2 else x3)
def pf_few (f4 : Nat → Int32) (x1 : Int32) : Nat → Int32
  | 0 => 0
  | k + 1 => pf_fews f4 x1 (pf_few f4 x1 k) (nI (k + 1))
theorem ss_few (x1 : Int32) (L : Nat) (hi : Nat → Nat → Int32) (hl : Nat → Nat → Int64) : pe_C pj_m100 [.ref 1, .int x1] (pj_SH L, hi, hl) (some (.int (pf_few (hi 4) x1 255))) (pj_SH L, hi, hl) := by
  refine pb_sw_fewestCards_0.mpr ?_
  have g : ∀ (n k : Nat) (a4 : Option Value), k + n = 255 → pe_E pj_m100 4 [some (.ref 1), some (.int x1), some (.int (pf_few (hi 4) x1 k)), some (.int (nI (k + 1))), a4] [] (pj_SH L, hi, hl) (some (.int (pf_few (hi 4) x1 255)), (pj_SH L, hi, hl)) := by
    intro n
    induction n with
    | zero =>
      intro k a4 hk
      rw [show k = 255 by omega]
      exact (pb_sw_fewestCards_4.trans ((if_pos (show (256 : Int32) ≤ nI 256 from Int32.le_refl _)).trans pb_sw_fewestCards_61)).mpr rfl
    | succ n ih =>
      intro k a4 hk
      refine (pb_sw_fewestCards_4.trans (if_neg (show ¬ (256 : Int32) ≤ nI (k + 1) from nI_ge (b := 256) (by omega) (by omega)))).mpr ?_
      rw [nI_1]
      exact ih (k + 1) _ (by omega)
  exact g 255 0 none rfl
/-! prints -/
def ph_gst (x2 x3 x4 : Int32) (hi : Nat → Nat → Int32) : Nat → Nat → Int32 := (if ¬ ((pp_sc_agreesWithN x3 (hi 2))) then hi else (ph_fi_add ((10 * x2) + x4) x3 hi))
def ph_gi (x2 : Int32) : Nat → Nat → Int32 → (Nat → Nat → Int32) → (Nat → Nat → Int32)
  | 0, _, _, hi => hi
  | n + 1, q, x3, hi => ph_gi x2 n (q + 1) (pf_q1 x3) (ph_gst x2 x3 (nI q) hi)
def ph_go : Nat → Nat → (Nat → Nat → Int32) → (Nat → Nat → Int32)
  | 0, _, hi => hi
  | n + 1, c, hi => ph_go n (c + 1) (ph_gi (nI c) 4 0 (pf_sc_holesOfN (nI c) (hi 4)) hi)
def ph_gat (hi : Nat → Nat → Int32) : Nat → Nat → Int32 := ph_go 8 0 (pj_up hi 27 2 0)
theorem ss_gat (L : Nat) (hi : Nat → Nat → Int32) (hl : Nat → Nat → Int64) : pe_C pj_m9 [.ref 27, .ref 2] (pj_SH L, hi, hl) none (pj_SH L, ph_gat hi, hl) := by
  refine pb_fi_gather_0.mpr ?_
  have inn : ∀ (o : Option Value × pj_H) (c : Nat) (n q : Nat) (x3 : Int32) (h : Nat → Nat → Int32), q + n = 4 → (∀ y3 y4, pe_E pj_m9 59 [some (.ref 27), some (.ref 2), some (.int (nI c)), some (.int y3), some (.int y4)] [] (pj_SH L, ph_gi (nI c) n q x3 h, hl) o) → pe_E pj_m9 22 [some (.ref 27), some (.ref 2), some (.int (nI c)), some (.int x3), some (.int (nI q))] [] (pj_SH L, h, hl) o := by
    intro o c n
    induction n with
    | zero =>
      intro q x3 h hq K
      rw [show q = 4 by omega]
      exact (pb_fi_gather_22.trans (if_pos (Int32.le_refl _))).mpr (K _ _)
    | succ n ih =>
      intro q x3 h hq K
      refine (pb_fi_gather_22.trans (if_neg (show ¬ (4 : Int32) ≤ nI q from nI_ge (b := 4) (by omega) (by omega)))).mpr ?_
      rw [nI_1]
      exact ih (q + 1) (pf_q1 x3) (ph_gst (nI c) x3 (nI q) h) (by omega) K
  have out : ∀ (n c : Nat) (h : Nat → Nat → Int32) (a3 a4 : Option Value), c + n = 8 → pe_E pj_m9 7 [some (.ref 27), some (.ref 2), some (.int (nI c)), a3, a4] [] (pj_SH L, h, hl) (none, (pj_SH L, ph_go n c h, hl)) := by
    intro n
    induction n with
    | zero =>
      intro c h a3 a4 hc
      rw [show c = 8 by omega]
      exact (pb_fi_gather_7.trans ((if_pos (Int32.le_refl _)).trans pb_fi_gather_65)).mpr rfl
    | succ n ih =>
      intro c h a3 a4 hc
      refine (pb_fi_gather_7.trans (if_neg (show ¬ (8 : Int32) ≤ nI c from nI_ge (b := 8) (by omega) (by omega)))).mpr ?_
      refine inn _ c 4 0 _ h rfl (fun y3 y4 => pb_fi_gather_59.mpr ?_)
      rw [nI_1]
      exact ih (c + 1) _ _ _ (by omega)
  exact out 8 0 _ none none rfl
def pf_lamr (cnt : Int32) (r29 : Nat → Int32) (x1 : Int32) : Nat → Nat → Int32 → Int32
  | 0, _, u => u
  | n + 1, i, u => if cnt ≤ nI i then u else pf_lamr cnt r29 x1 n (i + 1) (u + (((r29 i) >>> (x1 &&& 31)) &&& 1))
def pf_lam (x1 : Int32) (r27 r29 : Nat → Int32) : Int32 := if pf_lamr (r27 2) r29 x1 32 0 0 < ((r27 2) - pf_lamr (r27 2) r29 x1 32 0 0) then ((r27 2) - pf_lamr (r27 2) r29 x1 32 0 0) else pf_lamr (r27 2) r29 x1 32 0 0
theorem ss_lam (x1 : Int32) (L : Nat) (hi : Nat → Nat → Int32) (hl : Nat → Nat → Int64) : pe_C pj_m13 [.ref 27, .int x1] (pj_SH L, hi, hl) (some (.int (pf_lam x1 (hi 27) (hi 29)))) (pj_SH L, hi, hl) := by
  refine pb_fi_leftAtMost_0.mpr ?_
  have g : ∀ (o : Option Value × pj_H) (n k : Nat) (u : Int32), k + n = 32 → (∀ y, pe_E pj_m13 37 [some (.ref 27), some (.int x1), some (.int (pf_lamr (hi 27 2) (hi 29) x1 n k u)), some (.int y)] [] (pj_SH L, hi, hl) o) → pe_E pj_m13 4 [some (.ref 27), some (.int x1), some (.int u), some (.int (nI k))] [] (pj_SH L, hi, hl) o := by
    intro o n
    induction n with
    | zero =>
      intro k u hk K
      rw [show k = 32 by omega]
      refine ((pb_fi_leftAtMost_4 (fun _ h => absurd (Int32.le_refl _) h))).mpr ?_
      by_cases h : hi 27 2 ≤ (32 : Int32)
      · rw [if_pos h]; exact K _
      · rw [if_neg h, if_pos (Int32.le_refl _)]; exact K _
    | succ n ih =>
      intro k u hk K
      refine (pb_fi_leftAtMost_4 (fun _ _ => pt_ixN (by omega) (by omega))).mpr ?_
      unfold pf_lamr at K
      by_cases h : hi 27 2 ≤ nI k
      · rw [if_pos h] at K ⊢; exact K _
      · rw [if_neg h] at K ⊢
        rw [if_neg (show ¬ (32 : Int32) ≤ nI k from nI_ge (b := 32) (by omega) (by omega)), pt_clamp (by omega), nI_1]
        exact ih (k + 1) _ (by omega) K
  exact g _ 32 0 0 rfl (fun y => pb_fi_leftAtMost_37.mpr rfl)
/-! drops -/
theorem ss_flJ (w : Int64) (L : Nat) (hi : Nat → Nat → Int32) (hl : Nat → Nat → Int64) : pe_C pj_m156 [.ref 31, .long w] (pj_SH L, hi, hl) none (pj_SH L, hi, pj_row hl 31 (pf_upto (hl 31) (fun _ => w) 17)) := by
  refine pb_ar_fillJ_0.mpr ?_
  have g : ∀ (n k : Nat), k + n = 17 → pe_E pj_m156 6 [some (.ref 31), some (.long w), none, some (.int (nI k)), some (.int 17)] [] (pj_SH L, hi, pj_row hl 31 (pf_upto (hl 31) (fun _ => w) k)) (none, (pj_SH L, hi, pj_row hl 31 (pf_upto (hl 31) (fun _ => w) 17))) := by
    intro n
    induction n with
    | zero =>
      intro k hk
      rw [show k = 17 by omega]
      exact ((pb_ar_fillJ_6 (fun h => absurd (Int32.le_refl _) h)).trans ((if_pos (Int32.le_refl _)).trans pb_ar_fillJ_22)).mpr rfl
    | succ n ih =>
      intro k hk
      refine ((pb_ar_fillJ_6 (fun _ => pt_ixN (by omega) (by omega))).trans (if_neg (show ¬ (17 : Int32) ≤ nI k from nI_ge (b := 17) (by omega) (by omega)))).mpr ?_
      rw [pt_clamp (by omega), nI_1, pj_uL_row2]
      have e : vp_updL (pf_upto (hl 31) (fun _ => w) k) k w = pf_upto (hl 31) (fun _ => w) (k + 1) := by
        funext j
        by_cases h : j = k
        · subst h; simp [vp_updL, pf_upto]
        · simp only [vp_updL, pf_upto, if_neg h]
          by_cases h2 : j < k
          · rw [if_pos h2, if_pos (by omega)]
          · rw [if_neg h2, if_neg (by omega)]
      rw [e]
      exact ih (k + 1) (by omega)
  have := g 17 0 rfl
  rw [pf_upto_0, pj_row_self] at this
  exact this
/-- one drop more: a place behind k is new, the others as they were -/
def pf_wst (w : Nat → Int64) (k : Nat) : Nat → Int64 := fun j => if k < j ∧ j ≤ 16 then (w j * (nI j).toInt64 + w (j - 1) * (((16 - nI j) + 1) : Int32).toInt64) else w j
def pf_wsn (w : Nat → Int64) : Nat → Int64 := vp_updL (pf_wst w 0) 0 0
def pf_wit : Nat → (Nat → Int64) → (Nat → Int64)
  | 0, w => w
  | n + 1, w => pf_wit n (pf_wsn w)
def pf_w0 (w : Nat → Int64) : Nat → Int64 := vp_updL (pf_upto w (fun _ => 0) 17) 0 1
theorem ss_wth (x1 x2 : Int32) (L : Nat) (hi : Nat → Nat → Int32) (hl : Nat → Nat → Int64) : pe_C pj_m4 [.ref 30, .int x1, .int x2] (pj_SH L, hi, hl) (some (.long (if x2 < 0 then (0 : Int64) else (if (16 : Int32) < x2 then (0 : Int64) else (pf_wit x1.toInt.toNat (pf_w0 (hl 31)) x2.toNatClampNeg))))) (pj_SH L, hi, pj_row hl 31 (pf_wit x1.toInt.toNat (pf_w0 (hl 31)))) := by
  refine (pb_fa_waysToHit_0.trans ((pk_fa_waysToHit_5 (ss_flJ 0 L hi hl)).trans pb_fa_waysToHit_8)).mpr ?_
  rw [pj_uL_row2]
  have hr := pt_rng x1
  have inn : ∀ (o : Option Value × pj_H) (x3 : Int32) (w : Nat → Int64), (∀ x4, pe_E pj_m4 74 [some (.ref 30), some (.int x1), some (.int x2), some (.int x3), some (.int x4)] [] (pj_SH L, hi, pj_row hl 31 (pf_wst w 0)) o) → ∀ n, n ≤ 16 → pe_E pj_m4 26 [some (.ref 30), some (.int x1), some (.int x2), some (.int x3), some (.int (nI n))] [] (pj_SH L, hi, pj_row hl 31 (pf_wst w n)) o := by
    intro o x3 w K n
    induction n with
    | zero =>
      intro _
      exact ((pb_fa_waysToHit_26 (fun h => absurd (Int32.le_refl _) h) (fun h => absurd (Int32.le_refl _) h)).trans (if_pos (Int32.le_refl _))).mpr (K _)
    | succ n ih =>
      intro hn
      have e1 : nI (n + 1) - 1 = nI n := nI_pred n
      refine ((pb_fa_waysToHit_26 (fun _ => pt_ixN (by omega) (by omega)) (fun _ => by rw [e1]; exact pt_ixN (by omega) (by omega))).trans (if_neg (nI_nle (by omega) (by omega)))).mpr ?_
      rw [e1, pt_clamp (by omega), pt_clamp (by omega), show nI (n + 1) + (-1) = nI n from by rw [← e1]; exact (Int32.sub_eq_add_neg _ _).symm, pj_uL_row2]
      have e2 : pj_row hl 31 (pf_wst w (n + 1)) 31 (n + 1) = w (n + 1) := by
        rw [pj_row_at]; unfold pf_wst; rw [if_neg (by omega)]
      have e3 : pj_row hl 31 (pf_wst w (n + 1)) 31 n = w n := by
        rw [pj_row_at]; unfold pf_wst; rw [if_neg (by omega)]
      rw [e2, e3]
      have e4 : vp_updL (pf_wst w (n + 1)) (n + 1) (w (n + 1) * (nI (n + 1)).toInt64 + w n * (((16 - nI (n + 1)) + 1) : Int32).toInt64) = pf_wst w n := by
        funext j
        by_cases h : j = n + 1
        · subst h
          simp only [vp_updL, pf_wst, if_true]
          rw [if_pos (by omega)]
          rfl
        · simp only [vp_updL, pf_wst, if_neg h]
          by_cases h2 : n + 1 < j ∧ j ≤ 16
          · rw [if_pos h2, if_pos (by omega)]
          · rw [if_neg h2, if_neg (by omega)]
      rw [e4]
      exact ih (by omega)
  have w16 : ∀ w : Nat → Int64, pf_wst w 16 = w := by
    intro w
    funext j
    unfold pf_wst
    rw [if_neg (by omega)]
  have out : ∀ (n k : Nat) (w : Nat → Int64) (a4 : Option Value), k + n = x1.toInt.toNat → pe_E pj_m4 17 [some (.ref 30), some (.int x1), some (.int x2), some (.int (nI k)), a4] [] (pj_SH L, hi, pj_row hl 31 w) (some (.long (if x2 < 0 then (0 : Int64) else (if (16 : Int32) < x2 then (0 : Int64) else (pf_wit n w x2.toNatClampNeg)))), (pj_SH L, hi, pj_row hl 31 (pf_wit n w))) := by
    intro n
    induction n with
    | zero =>
      intro k w a4 hk
      refine (pb_fa_waysToHit_17.trans ((if_pos ?_).trans (pb_fa_waysToHit_87 (fun h1 h2 => pt_ixL h1 h2 (by decide) (by decide))))).mpr ?_
      · rw [pt_le, pt_nI (by omega)]
        omega
      · rw [pj_row_at]; rfl
    | succ n ih =>
      intro k w a4 hk
      refine (pb_fa_waysToHit_17.trans (if_neg ?_)).mpr ?_
      · rw [pt_le, pt_nI (by omega)]
        omega
      · have := inn (some (.long (if x2 < 0 then (0 : Int64) else (if (16 : Int32) < x2 then (0 : Int64) else (pf_wit (n + 1) w x2.toNatClampNeg)))), (pj_SH L, hi, pj_row hl 31 (pf_wit (n + 1) w))) (nI k) w (fun x4 => pb_fa_waysToHit_74.mpr (by
          rw [pj_uL_row2, nI_1]
          exact ih (k + 1) (pf_wsn w) _ (by omega))) 16 (by omega)
        rw [w16] at this
        exact this
  exact out _ 0 _ none (by omega)
