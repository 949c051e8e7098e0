/-! ===== pairs of calls: lay card can say wipe seen forget turned told ===== -/
/-! ===== what the relation rests on; small pairs of calls ===== -/
def pr_K (hi hi' : Nat → Nat → Int32) : Prop := hi' 1 = hi 1 ∧ hi' 3 = hi 3 ∧ hi' 4 = hi 4 ∧ hi' 5 = hi 5 ∧ hi' 10 = hi 10 ∧ hi' 11 = hi 11 ∧ hi' 12 = hi 12 ∧ hi' 13 = hi 13 ∧ hi' 14 = hi 14 ∧ hi' 15 = hi 15 ∧ hi' 16 = hi 16 ∧ hi' 17 = hi 17 ∧ hi' 18 = hi 18 ∧ hi' 19 = hi 19 ∧ hi' 33 = hi 33 ∧ hi' 35 = hi 35 ∧ hi' 36 = hi 36 ∧ hi' 40 = hi 40 ∧ hi' 41 = hi 41 ∧ hi' 2 3 = hi 2 3 ∧ hi' 2 4 = hi 2 4 ∧ hi' 2 5 = hi 2 5 ∧ hi' 2 6 = hi 2 6 ∧ hi' 2 7 = hi 2 7 ∧ hi' 32 2 = hi 32 2 ∧ hi' 32 4 = hi 32 4
theorem pr_RK {hi hi' : Nat → Nat → Int32} {hl hl' : Nat → Nat → Int64} (h : pr_K hi hi') (R : pr_R hi hl) : pr_R hi' hl' := by
  obtain ⟨e1, e3, e4, e5, e10, e11, e12, e13, e14, e15, e16, e17, e18, e19, e33, e35, e36, e40, e41, f3, f4, f5, f6, f7, g2, g4⟩ := h
  unfold pr_R pr_S pr_I pr_S at *
  simp only [Nat.reduceAdd] at *
  rw [e1, e3, e4, e5, e10, e11, e12, e13, e14, e15, e16, e17, e18, e19, e33, e35, e36, e40, e41, f3, f4, f5, f6, f7, g2, g4]
  exact R
theorem pr_Kr (hi : Nat → Nat → Int32) : pr_K hi hi := by unfold pr_K; simp
/-- the images' part -/
def pr_Im (hi : Nat → Nat → Int32) : Prop := pr_I hi 10 0 (hi 1 4) ∧ pr_I hi 14 1 (hi 1 5)
def pr_KI (hi hi' : Nat → Nat → Int32) : Prop := hi' 1 = hi 1 ∧ hi' 10 = hi 10 ∧ hi' 11 = hi 11 ∧ hi' 12 = hi 12 ∧ hi' 13 = hi 13 ∧ hi' 14 = hi 14 ∧ hi' 15 = hi 15 ∧ hi' 16 = hi 16 ∧ hi' 17 = hi 17 ∧ hi' 40 = hi 40 ∧ hi' 41 = hi 41
theorem pr_ImK {hi hi' : Nat → Nat → Int32} (h : pr_KI hi hi') (R : pr_Im hi) : pr_Im hi' := by
  obtain ⟨e1, e10, e11, e12, e13, e14, e15, e16, e17, e40, e41⟩ := h
  unfold pr_Im pr_I pr_S at *
  simp only [Nat.reduceAdd] at *
  rw [e1, e10, e11, e12, e13, e14, e15, e16, e17, e40, e41]
  exact R
/-- a scene's rows against the numbers -/
def pr_T (f3 f4 f5 : Nat → Int32) (w h : Int32) (m : Nat → Int32) : Prop := (∀ k, k < 7 → f3 k = pf_ones m (nI k) 16) ∧ (∀ i, i < 8 → f4 i = m (16 + i)) ∧ (∀ c, 1 ≤ c → c < 6 → f5 c = m (24 + c)) ∧ w = m 30 ∧ h = m 31
theorem pr_Rmk {hi : Nat → Nat → Int32} {hl : Nat → Nat → Int64} (h1 : pr_M (hi 33)) (h2 : pr_T (hi 3) (hi 4) (hi 5) (hi 2 3) (hi 2 4) (hi 33)) (h3 : pr_G (hi 2 5) (hi 2 6) (hi 2 7) (hi 32 2) (hi 35)) (h4 : pr_P (hi 18 1) (hi 32 4) (hi 19) (hi 36)) (h5 : pr_Im hi) : pr_R hi hl := ⟨h1, h2, h3, h4, h5.1, h5.2⟩
theorem pr_Rin {hi : Nat → Nat → Int32} {hl : Nat → Nat → Int64} (R : pr_R hi hl) : pr_M (hi 33) ∧ pr_T (hi 3) (hi 4) (hi 5) (hi 2 3) (hi 2 4) (hi 33) ∧ pr_G (hi 2 5) (hi 2 6) (hi 2 7) (hi 32 2) (hi 35) ∧ pr_P (hi 18 1) (hi 32 4) (hi 19) (hi 36) ∧ pr_Im hi := ⟨R.1, R.2.1, R.2.2.1, R.2.2.2.1, R.2.2.2.2⟩
theorem pt_of {x M : Int32} {n : Nat} (h : 0 ≤ x ∧ x ≤ M) (hM : M.toInt = n) : ∃ j : Nat, j ≤ n ∧ x = nI j := nI_of2 hM (Int32.not_lt.mpr h.1) h.2
theorem pf_onesC {m m' : Nat → Int32} (h : ∀ c, c < 16 → m' c = m c) (x : Int32) : ∀ n, n ≤ 16 → pf_ones m' x n = pf_ones m x n
  | 0, _ => rfl
  | n + 1, hn => by
    unfold pf_ones
    rw [pf_onesC h x n (by omega), h n (by omega)]
/-- painting a set of cells -/
theorem pr_paint {f m m' : Nat → Int32} {s : Int32} {col : Nat} (hs : pq_16 s) (hcol : col < 7) (hf : ∀ k, k < 7 → f k = pf_ones m (nI k) 16) (hm : ∀ c, c < 16 → m' c = if bt s c = true then nI col else m c) (k : Nat) (hk : k < 7) : pf_pntR f s (nI col) k = pf_ones m' (nI k) 16 := by
  have e : pf_pntR f s (nI col) k = if ¬ nI k = nI col then (f k &&& (s ^^^ (-1))) else ((f k &&& (s ^^^ (-1))) ||| s) := by
    unfold pf_pntR pf_upto pf_pnt
    rw [if_pos hk]
  rw [e, hf k hk]
  have p := pq_ones16 m (nI k)
  by_cases h : k = col
  · subst h
    rw [if_neg (fun g => g rfl)]
    refine pq_ext16 (pq_16or (pq_16and p _) hs) (pq_ones16 _ _) (fun i hi => ?_)
    rw [b_or, b_and, pq_not _ (by omega), pq_onesb _ _ hi, hm i hi, Bool.or_eq_true, Bool.and_eq_true, pq_onesb _ _ hi]
    cases bt s i <;> simp
  · rw [if_pos (fun g => h ((nI_eq (by omega) (by omega)).mp g))]
    refine pq_ext16 (pq_16and p _) (pq_ones16 _ _) (fun i hi => ?_)
    rw [b_and, pq_not _ (by omega), pq_onesb _ _ hi, hm i hi, Bool.and_eq_true, pq_onesb _ _ hi]
    have : ¬ nI col = nI k := fun g => h ((nI_eq (by omega) (by omega)).mp g).symm
    cases bt s i <;> simp [this]
theorem pr_col {f m : Nat → Int32} {c k0 : Nat} (hc : c < 16) (hk : k0 < 7) (hm : m c = nI k0) (hf : ∀ k, k < 7 → f k = pf_ones m (nI k) 16) : pf_col f (nI c) = m c := by
  have g : ∀ n k, k + n = 7 → 1 ≤ k → (k0 = 0 ∨ k ≤ k0) → pf_colr f (nI c) n k = nI k0 := by
    intro n
    induction n with
    | zero =>
      intro k h1 h2 h3
      show 0 = _
      rw [show k0 = 0 by omega]
      rfl
    | succ n ih =>
      intro k h1 h2 h3
      unfold pf_colr
      rw [pq_at _ (by omega), hf k (by omega)]
      by_cases h : k = k0
      · subst h
        rw [if_pos ((pq_onesb m _ hc).mpr hm), if_neg (fun g => g rfl)]
      · have : ¬ bt (pf_ones m (nI k) 16) c = true := fun g => by
          rw [pq_onesb m _ hc, hm, nI_eq (by omega) (by omega)] at g
          omega
        rw [if_neg this, if_pos (by decide)]
        exact ih (k + 1) (by omega) (by omega) (by omega)
  rw [hm]
  exact g 6 1 rfl (by omega) (by omega)
theorem pr_ok {R : (Nat → Nat → Int32) → (Nat → Nat → Int64) → Prop} {L : Nat} {y1 y2 : pj_M} {as : List Value} {hi hi1 hi2 : Nat → Nat → Int32} {hl hl1 hl2 : Nat → Nat → Int64} {v v2 : Int32} (c1 : pe_C y1 (.ref 1 :: as) (pj_SH L, hi, hl) (some (.int v)) (pj_SH L, hi1, hl1)) (c2 : pe_C y2 (.ref 32 :: as) (pj_SH L, hi1, hl1) (some (.int v2)) (pj_SH L, hi2, hl2)) (e : v2 = v) (r : R hi2 hl2) (z1 : hi1 0 = hi 0) (z2 : hi2 0 = hi 0) : ∃ (v : Int32) (hi1 : Nat → Nat → Int32) (hl1 : Nat → Nat → Int64) (hi2 : Nat → Nat → Int32) (hl2 : Nat → Nat → Int64), pe_C y1 (.ref 1 :: as) (pj_SH L, hi, hl) (some (.int v)) (pj_SH L, hi1, hl1) ∧ pe_C y2 (.ref 32 :: as) (pj_SH L, hi1, hl1) (some (.int v)) (pj_SH L, hi2, hl2) ∧ R hi2 hl2 ∧ hi1 0 = hi 0 ∧ hi2 0 = hi 0 := by
  subst e
  exact ⟨_, _, _, _, _, c1, c2, r, z1, z2⟩
theorem pu_eq (f : Nat → Int32) (i : Nat) (v : Int32) : upd f i v i = v := by simp [upd]
theorem pu_ne {f : Nat → Int32} {i j : Nat} {v : Int32} (h : ¬ j = i) : upd f i v j = f j := by simp [upd, h]
theorem pu_uu (f : Nat → Int32) (i : Nat) (v w : Int32) : upd (upd f i v) i w = upd f i w := by
  funext j
  by_cases h : j = i
  · simp [upd, h]
  · simp [upd, h]
theorem pr_Mcell {m : Nat → Int32} (h : pr_M m) {c k : Nat} (hc : c < 16) (hk : k < 7) (w : Int32) (hw : pq_16 w) : pr_M (upd (upd m c (nI k)) 30 w) := by
  obtain ⟨h1, h2, h3, h4, h5⟩ := h
  refine ⟨fun d hd => ?_, fun i hi => ?_, fun d h6 h7 => ?_, ?_, ?_⟩
  · by_cases e : d = c
    · exact ⟨k, hk, by simp [upd, e]; omega⟩
    · obtain ⟨j, hj, ej⟩ := h1 d hd
      exact ⟨j, hj, by simp [upd, e, ej]; omega⟩
  · obtain ⟨j, hj, ej⟩ := h2 i hi
    exact ⟨j, hj, by simp only [upd]; rw [if_neg (by omega), if_neg (by omega), ej]⟩
  · obtain ⟨j, hj, ej⟩ := h3 d h6 h7
    exact ⟨j, hj, by simp only [upd]; rw [if_neg (by omega), if_neg (by omega), ej]⟩
  · obtain ⟨n, hn, e⟩ := pq_16o hw
    exact ⟨n, hn, by rw [pu_eq, e]⟩
  · obtain ⟨j, hj, ej⟩ := h5
    exact ⟨j, hj, by simp only [upd]; rw [if_neg (by omega), if_neg (by omega), ej]⟩
theorem pr_Tcell {f3 f4 f5 m : Nat → Int32} {w h : Int32} (T : pr_T f3 f4 f5 w h m) {c k : Nat} (hc : c < 16) (hk : k < 7) (w' : Int32) : pr_T (pf_pntR f3 (1 <<< (nI c &&& 31)) (nI k)) f4 f5 w' h (upd (upd m c (nI k)) 30 w') := by
  obtain ⟨h1, h2, h3, h4, h5⟩ := T
  refine ⟨fun j hj => ?_, fun i hi => ?_, fun d h6 h7 => ?_, ?_, ?_⟩
  · refine pr_paint (pq_16one hc) hk h1 (fun d hd => ?_) j hj
    rw [pq_one (by omega) (by omega)]
    simp only [upd]
    rw [if_neg (show ¬ d = 30 by omega)]
    by_cases e : d = c
    · rw [if_pos e, if_pos (decide_eq_true e)]
    · rw [if_neg e, if_neg (by simp [e])]
  · simp only [upd]; rw [if_neg (by omega), if_neg (by omega)]; exact h2 i hi
  · simp only [upd]; rw [if_neg (by omega), if_neg (by omega)]; exact h3 d h6 h7
  · rw [pu_eq]
  · simp only [upd]; rw [if_neg (by omega), if_neg (by omega)]; exact h5
theorem pr_Mwet {m : Nat → Int32} (h : pr_M m) : pq_16 (m 30) := by
  obtain ⟨n, hn, e⟩ := h.2.2.2.1
  rw [e]
  exact pq_16n hn
/-! lay -/
theorem pk_lay {L : Nat} (a b c : Int32) : pr_OK pr_R L pj_m67 pj_m107 [.int a, .int b, .int c] := by
  intro hi hl R
  have C := fun (hi : Nat → Nat → Int32) => sa_mo_lay a b c L hi hl (fun h _ _ => by
    obtain ⟨i, hi, rfl⟩ := pt_of h (show (15 : Int32).toInt = (15 : Nat) by decide)
    exact pt_ixN (by omega) (by omega))
  refine pr_ok (sa_sw_lay a b c L hi hl) (C _) ?_ ?_ ?_ ?_
  all_goals
    by_cases v1 : (0 ≤ a ∧ a ≤ 15)
    case neg => 
      simp only [pf_mo_lay, pf_sw_lay, ph_mo_lay, ph_sw_lay, if_neg v1, pj_up_self]
      try exact R
    by_cases v2 : (0 ≤ b ∧ b ≤ 6)
    case neg => 
      simp only [pf_mo_lay, pf_sw_lay, ph_mo_lay, ph_sw_lay, if_pos v1, if_pos v2, pj_up_self, not_false_eq_true, if_true]
      try exact R
    by_cases v3 : (0 ≤ c ∧ c ≤ pz (¬ b = 0))
    case neg => 
      simp only [pf_mo_lay, pf_sw_lay, ph_mo_lay, ph_sw_lay, if_pos v1, if_neg v3, if_neg (not_not_intro v2), pj_up_self]
      try exact R
    simp only [pf_mo_lay, pf_sw_lay, ph_mo_lay, ph_sw_lay, if_pos v1, if_pos v3, if_neg (not_not_intro v2)]
  · obtain ⟨M, T, _⟩ := pr_Rin R
    obtain ⟨i, hi', rfl⟩ := pt_of v1 (show (15 : Int32).toInt = (15 : Nat) by decide)
    obtain ⟨k, hk, e⟩ := M.1 i (by omega)
    rw [pt_clamp (by omega)]
    exact (pr_col (by omega) hk e T.1).symm
  · obtain ⟨M, T, G, P, I⟩ := pr_Rin R
    obtain ⟨i, hi', rfl⟩ := pt_of v1 (show (15 : Int32).toInt = (15 : Nat) by decide)
    obtain ⟨k, hk, rfl⟩ := pt_of v2 (show (6 : Int32).toInt = (6 : Nat) by decide)
    rw [pt_clamp (by omega)]
    have W := pr_Mwet M
    have O := pq_16one (c := i) (by omega)
    have hc : c = 0 ∨ c = 1 := by
      have h2 : c ≤ 1 := by
        refine Int32.le_trans v3.2 ?_
        unfold pz
        split <;> decide
      obtain ⟨j, hj, rfl⟩ := pt_of ⟨v3.1, h2⟩ (show (1 : Int32).toInt = (1 : Nat) by decide)
      rcases (show j = 0 ∨ j = 1 by omega) with rfl | rfl
      · exact Or.inl rfl
      · exact Or.inr rfl
    have ew : (if (pz ¬¬c = 1) = 0 then (hi 2 3 &&& ((1 <<< (nI i &&& 31)) ^^^ (-1))) else (hi 2 3 ||| (1 <<< (nI i &&& 31)))) = ((hi 33 30 &&& ((1 <<< (nI i &&& 31)) ^^^ (-1))) ||| (c <<< (nI i &&& 31))) := by
      rw [T.2.2.2.1]
      rcases hc with rfl | rfl
      · rw [if_pos (by decide)]
        apply b_ext
        intro j hj
        rw [b_or, b_shl i (by omega) 0 hj, b_0, Bool.and_false, Bool.or_false]
      · rw [if_neg (by decide)]
        apply b_ext
        intro j hj
        rw [b_or, b_or, b_and, pq_not _ hj]
        cases bt (hi 33 30) j <;> cases bt (1 <<< (nI i &&& 31)) j <;> rfl
    have w16 : pq_16 ((hi 33 30 &&& ((1 <<< (nI i &&& 31)) ^^^ (-1))) ||| (c <<< (nI i &&& 31))) := by
      refine pq_16or (pq_16and W _) ?_
      rcases hc with rfl | rfl
      · intro j hj
        rcases Nat.lt_or_ge j 32 with h2 | h2
        · rw [b_shl i (by omega) 0 h2, b_0, Bool.and_false]
        · exact b_big h2
      · exact O
    have e30 : upd (hi 33) i (nI k) 30 = hi 33 30 := pu_ne (by omega)
    refine pr_Rmk ?_ ?_ G P (pr_ImK ⟨rfl, rfl, rfl, rfl, rfl, rfl, rfl, rfl, rfl, rfl, rfl⟩ I)
    · show pr_M (upd (upd (upd (hi 33) i (nI k)) 30 (upd (hi 33) i (nI k) 30 &&& _)) 30 ((upd (hi 33) i (nI k) 30 &&& _) ||| _))
      rw [pu_uu, e30]
      exact pr_Mcell M (by omega) (by omega) _ w16
    · show pr_T (pf_pntR (hi 3) (1 <<< (nI i &&& 31)) (nI k)) (hi 4) (hi 5) (if (pz ¬¬c = 1) = 0 then (hi 2 3 &&& ((1 <<< (nI i &&& 31)) ^^^ (-1))) else (hi 2 3 ||| (1 <<< (nI i &&& 31)))) (hi 2 4) (upd (upd (upd (hi 33) i (nI k)) 30 (upd (hi 33) i (nI k) 30 &&& _)) 30 ((upd (hi 33) i (nI k) 30 &&& _) ||| _))
      rw [pu_uu, e30, ew]
      exact pr_Tcell T (by omega) (by omega) _
  · rfl
  · rfl
/-! card, can -/
theorem pr_Mcard {m : Nat → Int32} (h : pr_M m) {i n : Nat} (hi : i < 8) (hn : n < 65536) : pr_M (upd m (16 + i) (nI n)) := by
  obtain ⟨h1, h2, h3, h4, h5⟩ := h
  refine ⟨fun d hd => ?_, fun j hj => ?_, fun d h6 h7 => ?_, ?_, ?_⟩
  · rw [pu_ne (by omega)]; exact h1 d hd
  · by_cases e : j = i
    · subst e; exact ⟨n, hn, pu_eq _ _ _⟩
    · rw [pu_ne (by omega)]; exact h2 j hj
  · rw [pu_ne (by omega)]; exact h3 d h6 h7
  · rw [pu_ne (by omega)]; exact h4
  · rw [pu_ne (by omega)]; exact h5
theorem pr_Tcard {f3 f4 f5 m : Nat → Int32} {w h : Int32} (T : pr_T f3 f4 f5 w h m) {i : Nat} (hi : i < 8) (v : Int32) : pr_T f3 (upd f4 i v) f5 w h (upd m (16 + i) v) := by
  obtain ⟨h1, h2, h3, h4, h5⟩ := T
  refine ⟨fun k hk => ?_, fun j hj => ?_, fun d h6 h7 => ?_, ?_, ?_⟩
  · rw [h1 k hk]
    exact (pf_onesC (fun c hc => pu_ne (by omega)) _ 16 (by omega)).symm
  · by_cases e : j = i
    · subst e; rw [pu_eq, pu_eq]
    · rw [pu_ne e, pu_ne (by omega)]; exact h2 j hj
  · rw [pu_ne (by omega)]; exact h3 d h6 h7
  · rw [pu_ne (by omega)]; exact h4
  · rw [pu_ne (by omega)]; exact h5
theorem pr_Mcan {m : Nat → Int32} (h : pr_M m) {i n : Nat} (h1i : 1 ≤ i) (hi : i < 6) (hn : n < 1000) : pr_M (upd m (24 + i) (nI n)) := by
  obtain ⟨h1, h2, h3, h4, h5⟩ := h
  refine ⟨fun d hd => ?_, fun j hj => ?_, fun d h6 h7 => ?_, ?_, ?_⟩
  · rw [pu_ne (by omega)]; exact h1 d hd
  · rw [pu_ne (by omega)]; exact h2 j hj
  · by_cases e : d = i
    · subst e; exact ⟨n, hn, pu_eq _ _ _⟩
    · rw [pu_ne (by omega)]; exact h3 d h6 h7
  · rw [pu_ne (by omega)]; exact h4
  · rw [pu_ne (by omega)]; exact h5
theorem pr_Tcan {f3 f4 f5 m : Nat → Int32} {w h : Int32} (T : pr_T f3 f4 f5 w h m) {i : Nat} (h1i : 1 ≤ i) (hi : i < 6) (v : Int32) : pr_T f3 f4 (upd f5 i v) w h (upd m (24 + i) v) := by
  obtain ⟨h1, h2, h3, h4, h5⟩ := T
  refine ⟨fun k hk => ?_, fun j hj => ?_, fun d h6 h7 => ?_, ?_, ?_⟩
  · rw [h1 k hk]
    exact (pf_onesC (fun c hc => pu_ne (by omega)) _ 16 (by omega)).symm
  · rw [pu_ne (by omega)]; exact h2 j hj
  · by_cases e : d = i
    · subst e; rw [pu_eq, pu_eq]
    · rw [pu_ne e, pu_ne (by omega)]; exact h3 d h6 h7
  · rw [pu_ne (by omega)]; exact h4
  · rw [pu_ne (by omega)]; exact h5
theorem pt_16 {i : Nat} (h : i < 1000) : (16 : Int32) + nI i = nI (16 + i) := nI_add 16 i
theorem pt_24 {i : Nat} (h : i < 1000) : (24 : Int32) + nI i = nI (24 + i) := nI_add 24 i
theorem pf_holN {i : Nat} (h : i < 8) (f : Nat → Int32) : pf_sc_holesOfN (nI i) f = f i := by
  unfold pf_sc_holesOfN
  rw [if_neg (nI_pos (by omega)), if_neg (show ¬ (8 : Int32) ≤ nI i from nI_ge (b := 8) (by omega) (by omega)), pt_clamp (by omega)]
theorem pf_holT {i : Nat} (h : i < 8) (f : Nat → Int32) : pf_sc_holesOfT (nI i) f = f i := pf_holN h f
theorem pf_drpN {i : Nat} (h1 : 1 ≤ i) (h : i < 6) (f : Nat → Int32) : pf_sc_dropsOfN (nI i) f = f i := by
  unfold pf_sc_dropsOfN
  rw [if_neg (show ¬ nI i < 1 from nI_nlt (b := 1) (by omega) (by omega)), if_neg (show ¬ 5 < nI i from nI_nlt (a := 5) (b := i) (by omega) (by omega)), pt_clamp (by omega)]
theorem pf_drpT {i : Nat} (h1 : 1 ≤ i) (h : i < 6) (f : Nat → Int32) : pf_sc_dropsOfT (nI i) f = f i := pf_drpN h1 h f
theorem pf_celN {i : Nat} (h : i < 7) (f : Nat → Int32) : pf_sc_cellsOfN (nI i) f = f i := by
  unfold pf_sc_cellsOfN
  rw [if_neg (nI_pos (by omega)), if_neg (show ¬ 6 < nI i from nI_nlt (a := 6) (b := i) (by omega) (by omega)), pt_clamp (by omega)]
theorem pf_celT {i : Nat} (h : i < 7) (f : Nat → Int32) : pf_sc_cellsOfT (nI i) f = f i := pf_celN h f
theorem pt_of1 {x a M : Int32} {k n : Nat} (h : a ≤ x ∧ x ≤ M) (ha : a.toInt = k) (hM : M.toInt = n) : ∃ j : Nat, k ≤ j ∧ j ≤ n ∧ x = nI j := by
  have h1 := (pt_le _ _).mp h.1
  obtain ⟨j, hj, rfl⟩ := pt_of (x := x) (M := M) ⟨(pt_le _ _).mpr (by rw [show (0 : Int32).toInt = 0 by decide]; omega), h.2⟩ hM
  have := pt_rng M
  rw [pt_nI (by omega)] at h1
  exact ⟨j, by omega, hj, rfl⟩
theorem pk_card {L : Nat} (a b : Int32) : pr_OK pr_R L pj_m68 pj_m108 [.int a, .int b] := by
  intro hi hl R
  have C := fun (hi : Nat → Nat → Int32) => sa_mo_card a b L hi hl (fun h _ => by
    obtain ⟨i, hi, rfl⟩ := pt_of h (show (7 : Int32).toInt = (7 : Nat) by decide)
    rw [pt_16 (by omega)]
    exact pt_ixN (by omega) (by omega))
  refine pr_ok (sa_sw_card a b L hi hl) (C _) ?_ ?_ ?_ ?_
  all_goals
    by_cases v1 : (0 ≤ a ∧ a ≤ 7)
    case neg =>
      simp only [pf_mo_card, pf_sw_card, ph_mo_card, ph_sw_card, if_neg v1, pj_up_self]
      try exact R
    by_cases v2 : (0 ≤ b ∧ b ≤ 65535)
    case neg =>
      simp only [pf_mo_card, pf_sw_card, ph_mo_card, ph_sw_card, if_pos v1, if_neg v2, pj_up_self]
      try exact R
    simp only [pf_mo_card, pf_sw_card, ph_mo_card, ph_sw_card, if_pos v1, if_pos v2]
    obtain ⟨i, hi', rfl⟩ := pt_of v1 (show (7 : Int32).toInt = (7 : Nat) by decide)
    simp only [ph_sc_cutN, pt_16 (show i < 1000 by omega), pt_clamp (show i < 2147483648 by omega), pt_clamp (show 16 + i < 2147483648 by omega), if_neg (nI_pos (n := i) (by omega)), if_neg (show ¬ (8 : Int32) ≤ nI i from nI_ge (a := i) (b := 8) (by omega) (by omega))]
  · obtain ⟨M, T, _⟩ := pr_Rin R
    rw [pf_holN (by omega)]
    exact (T.2.1 i (by omega)).symm
  · obtain ⟨M, T, G, P, I⟩ := pr_Rin R
    obtain ⟨n, hn, rfl⟩ := pt_of v2 (show (65535 : Int32).toInt = (65535 : Nat) by decide)
    refine pr_Rmk ?_ ?_ G P (pr_ImK ⟨rfl, rfl, rfl, rfl, rfl, rfl, rfl, rfl, rfl, rfl, rfl⟩ I)
    · show pr_M (upd (hi 33) (16 + i) (nI n))
      exact pr_Mcard M (by omega) (by omega)
    · show pr_T (hi 3) (upd (hi 4) i (nI n)) (hi 5) (hi 2 3) (hi 2 4) (upd (hi 33) (16 + i) (nI n))
      exact pr_Tcard T (by omega) _
  · rfl
  · rfl
theorem pk_can {L : Nat} (a b : Int32) : pr_OK pr_R L pj_m69 pj_m109 [.int a, .int b] := by
  intro hi hl R
  have C := fun (hi : Nat → Nat → Int32) => sa_mo_can a b L hi hl (fun h _ => by
    obtain ⟨i, h1, hi, rfl⟩ := pt_of1 h (show (1 : Int32).toInt = (1 : Nat) by decide) (show (5 : Int32).toInt = (5 : Nat) by decide)
    rw [pt_24 (by omega)]
    exact pt_ixN (by omega) (by omega))
  refine pr_ok (sa_sw_can a b L hi hl) (C _) ?_ ?_ ?_ ?_
  all_goals
    by_cases v1 : (1 ≤ a ∧ a ≤ 5)
    case neg =>
      simp only [pf_mo_can, pf_sw_can, ph_mo_can, ph_sw_can, if_neg v1, pj_up_self]
      try exact R
    by_cases v2 : (0 ≤ b ∧ b ≤ 999)
    case neg =>
      simp only [pf_mo_can, pf_sw_can, ph_mo_can, ph_sw_can, if_pos v1, if_neg v2, pj_up_self]
      try exact R
    simp only [pf_mo_can, pf_sw_can, ph_mo_can, ph_sw_can, if_pos v1, if_pos v2]
    obtain ⟨i, h1, hi', rfl⟩ := pt_of1 v1 (show (1 : Int32).toInt = (1 : Nat) by decide) (show (5 : Int32).toInt = (5 : Nat) by decide)
    simp only [ph_sc_fillN, pt_24 (show i < 1000 by omega), pt_clamp (show i < 2147483648 by omega), pt_clamp (show 24 + i < 2147483648 by omega), if_neg (show ¬ nI i < 1 from nI_nlt (b := 1) (by omega) (by omega)), if_neg (show ¬ 5 < nI i from nI_nlt (a := 5) (b := i) (by omega) (by omega))]
  · obtain ⟨M, T, _⟩ := pr_Rin R
    rw [pf_drpN (by omega) (by omega)]
    exact (T.2.2.1 i (by omega) (by omega)).symm
  · obtain ⟨M, T, G, P, I⟩ := pr_Rin R
    obtain ⟨n, hn, rfl⟩ := pt_of v2 (show (999 : Int32).toInt = (999 : Nat) by decide)
    refine pr_Rmk ?_ ?_ G P (pr_ImK ⟨rfl, rfl, rfl, rfl, rfl, rfl, rfl, rfl, rfl, rfl, rfl⟩ I)
    · show pr_M (upd (hi 33) (24 + i) (nI n))
      exact pr_Mcan M (by omega) (by omega) (by omega)
    · show pr_T (hi 3) (hi 4) (upd (hi 5) i (nI n)) (hi 2 3) (hi 2 4) (upd (hi 33) (24 + i) (nI n))
      exact pr_Tcan T (by omega) (by omega) _
  · rfl
  · rfl
/-! say, wipe -/
theorem pr_K0 {hi : Nat → Nat → Int32} {hl : Nat → Nat → Int64} (R : pr_R hi hl) : pr_R hi hl := R
theorem pk_say {L : Nat} (a : Int32) : pr_OK pr_R L pj_m70 pj_m110 [.int a] := by
  intro hi hl R
  obtain ⟨M, T, G, P, I⟩ := pr_Rin R
  obtain ⟨n, hn, e1, e2, e3⟩ := P
  have hadd : ∀ (x : Int32), ph_pa_add x hi 32 = hi 32 := fun x => rfl
  have C : pe_C pj_m110 [.ref 32, .int a] (pj_SH L, ph_sw_say a hi, hl) (some (.int (pf_mo_say a (ph_sw_say a hi 32)))) (pj_SH L, ph_mo_say a (ph_sw_say a hi), hl) := sa_mo_say a L _ hl (fun h h2 => by
    have e : ph_sw_say a hi 32 4 = hi 32 4 := by unfold ph_sw_say; split <;> rfl
    rw [e, e2] at h2 ⊢
    exact pt_ixN (show n < 60 from by
      rcases Nat.lt_or_ge n 60 with h3 | h3
      · exact h3
      · rw [show n = 60 by omega] at h2; exact absurd rfl h2) (by omega))
  refine pr_ok (sa_sw_say a L hi hl) C ?_ ?_ ?_ ?_
  all_goals
    by_cases v1 : (33 ≤ a ∧ a ≤ 126)
    case neg =>
      simp only [pf_mo_say, pf_sw_say, ph_mo_say, ph_sw_say, if_neg v1, pj_up_self]
      try exact R
    by_cases v2 : n = 60
    case pos =>
      subst v2
      have f1 : (hi 32 4) = 60 := e2
      have f2 : (hi 18 1) = 60 := e1
      have f3 : ph_pa_add a hi = hi := by
        unfold ph_pa_add
        rw [f2]
        simp only [if_neg (show ¬ (60 : Int32) < 0 by decide), if_neg (show ¬ (60 : Int32) < 60 by decide), pj_up_self]
      simp only [pf_mo_say, pf_sw_say, ph_mo_say, ph_sw_say, if_pos v1, f3, if_neg (not_not_intro f1), pj_up_self, pp_pa_add, f2]
      try first | exact R | rfl
    have f1 : ¬ (hi 32 4) = 60 := by rw [e2]; exact fun g => v2 ((nI_eq (by omega) (by omega)).mp g)
    have q1 : ¬ nI n < 0 := nI_pos (by omega)
    have q2 : nI n < 60 := nI_lt (b := 60) (by omega) (by omega)
    have f3 : ph_pa_add a hi = pj_up (pj_up hi 19 n a) 18 1 (nI (n + 1)) := by
      unfold ph_pa_add
      rw [e1]
      simp only [if_neg q1, if_pos q2, pt_clamp (show n < 2147483648 by omega), nI_1]
    have f4 : ¬ (pj_up (pj_up hi 19 n a) 18 1 (nI (n + 1)) 32 4) = 60 := f1
    simp only [pf_mo_say, pf_sw_say, ph_mo_say, ph_sw_say, if_pos v1, f3, if_pos f4]
  · rw [if_neg (by rw [pp_pa_add, e1]; exact not_not_intro ⟨q1, q2⟩)]
    show hi 32 4 + 1 = nI (n + 1)
    rw [e2, nI_1]
  · refine pr_Rmk M T G ?_ (pr_ImK ⟨rfl, rfl, rfl, rfl, rfl, rfl, rfl, rfl, rfl, rfl, rfl⟩ I)
    show pr_P (nI (n + 1)) (hi 32 4 + 1) (upd (hi 19) n a) (upd (hi 36) (hi 32 4).toNatClampNeg a)
    rw [e2, pt_clamp (by omega)]
    obtain ⟨j, hj1, hj2, rfl⟩ := pt_of1 v1 (show (33 : Int32).toInt = (33 : Nat) by decide) (show (126 : Int32).toInt = (126 : Nat) by decide)
    refine ⟨n + 1, by omega, rfl, nI_1 n, fun i hi => ?_⟩
    by_cases e : i = n
    · subst e
      rw [pu_eq, pu_eq]
      exact ⟨rfl, j, hj1, by omega, rfl⟩
    · rw [pu_ne e, pu_ne e]
      exact e3 i (by omega)
  · rfl
  · rfl
theorem pk_wipe {L : Nat} : pr_OK pr_R L pj_m71 pj_m111 [] := by
  intro hi hl R
  obtain ⟨M, T, G, P, I⟩ := pr_Rin R
  obtain ⟨n, hn, e1, e2, e3⟩ := P
  refine pr_ok (sa_sw_wipe L hi hl) (sa_mo_wipe L _ hl) (e2.trans e1.symm) ?_ rfl rfl
  exact pr_Rmk M T G ⟨0, by omega, rfl, rfl, fun i h => absurd h (by omega)⟩ (pr_ImK ⟨rfl, rfl, rfl, rfl, rfl, rfl, rfl, rfl, rfl, rfl, rfl⟩ I)
/-! seen, forget -/
theorem pf_sgC {g g' : Nat → Int32} {n : Nat} (h : ∀ i, i < 2 * n → g' i = g i) (b : Int32) : ∀ k, k ≤ n → pf_sg g' b k = pf_sg g b k
  | 0, _ => rfl
  | k + 1, hk => by
    unfold pf_sg
    rw [pf_sgC h b k (by omega), h (2 * k + 1) (by omega), h (2 * k) (by omega)]
theorem pk_seen {L : Nat} (a b : Int32) (hb : b = 0 ∨ b = 1) : pr_OK pr_R L pj_m84 pj_m142 [.int a, .int b] := by
  intro hi hl R
  obtain ⟨M, T, G, P, I⟩ := pr_Rin R
  obtain ⟨n, hn, e1, e2, e3, e6, e7⟩ := G
  have r32 : ph_sw_seen a b hi 32 = hi 32 := by unfold ph_sw_seen; split; split; unfold ph_sc_seeN; split; all_goals rfl
  have lt8 : ¬ hi 32 2 = 8 → n < 8 := fun h => by
    rcases Nat.lt_or_ge n 8 with h3 | h3
    · exact h3
    · rw [e2, show n = 8 by omega] at h; exact absurd rfl h
  have e2n : (2 : Int32) * hi 32 2 = nI (2 * n) := by rw [e2]; exact (Int32.ofNat_mul 2 n).symm
  have C : pe_C pj_m142 [.ref 32, .int a, .int b] (pj_SH L, ph_sw_seen a b hi, hl) (some (.int (pf_mo_seen a b (ph_sw_seen a b hi 32)))) (pj_SH L, ph_mo_seen a b (ph_sw_seen a b hi), hl) := sa_mo_seen a b L _ hl (fun h h2 => by
    rw [r32] at h2 ⊢
    have := lt8 h2
    rw [e2n]
    exact pt_ixN (by omega) (by omega)) (fun h h2 => by
    rw [r32] at h2 ⊢
    have := lt8 h2
    rw [e2n, nI_1]
    exact pt_ixN (by omega) (by omega))
  refine pr_ok (sa_sw_seen a b L hi hl) C ?_ ?_ ?_ ?_
  all_goals
    by_cases v1 : (0 ≤ a ∧ a ≤ 15)
    case neg =>
      simp only [pf_mo_seen, pf_sw_seen, ph_mo_seen, ph_sw_seen, if_neg v1, pj_up_self]
      try exact R
    by_cases v2 : n = 8
    case pos =>
      subst v2
      have f1 : (hi 32 2) = 8 := e2
      have f2 : ¬ (hi 2 5) < 8 := by rw [e1]; decide
      simp only [pf_mo_seen, pf_sw_seen, ph_mo_seen, ph_sw_seen, if_pos v1, if_neg f2, if_neg (not_not_intro f1), pj_up_self]
      try first | exact R | rfl
    have f1 : ¬ (hi 32 2) = 8 := by rw [e2]; exact fun g => v2 ((nI_eq (by omega) (by omega)).mp g)
    have f2 : (hi 2 5) < 8 := by rw [e1]; exact nI_lt (b := 8) (by omega) (by omega)
    have f3 : ¬ (ph_sc_seeN a b hi 32 2 = 8) := by unfold ph_sc_seeN; split <;> exact f1
    simp only [pf_mo_seen, pf_sw_seen, ph_mo_seen, ph_sw_seen, if_pos v1, if_pos f2, if_pos f3]
  · unfold ph_sc_seeN
    split
    · show hi 32 2 + 1 = hi 2 5 + 1
      rw [e1, e2]
    · show hi 32 2 + 1 = hi 2 5 + 1
      rw [e1, e2]
  · obtain ⟨c, hc, rfl⟩ := pt_of v1 (show (15 : Int32).toInt = (15 : Nat) by decide)
    rcases hb with rfl | rfl
    · refine pr_Rmk M T ?_ P (pr_ImK ⟨rfl, rfl, rfl, rfl, rfl, rfl, rfl, rfl, rfl, rfl, rfl⟩ I)
      show pr_G (hi 2 5 + 1) (hi 2 6) (hi 2 7 ||| (1 <<< (nI c &&& 31))) (hi 32 2 + 1) (upd (upd (hi 35) ((2 * hi 32 2).toNatClampNeg) (nI c)) ((2 * hi 32 2 + 1).toNatClampNeg) 0)
      rw [e2n, nI_1, pt_clamp (by omega), pt_clamp (by omega), e1, e2]
      have cg : ∀ i, i < 2 * n → upd (upd (hi 35) (2 * n) (nI c)) (2 * n + 1) 0 i = hi 35 i := fun i h => by rw [pu_ne (by omega), pu_ne (by omega)]
      have c1 : upd (upd (hi 35) (2 * n) (nI c)) (2 * n + 1) 0 (2 * n + 1) = 0 := pu_eq _ _ _
      have c0 : upd (upd (hi 35) (2 * n) (nI c)) (2 * n + 1) 0 (2 * n) = nI c := by rw [pu_ne (by omega), pu_eq]
      refine ⟨n + 1, by omega, nI_1 n, nI_1 n, fun i h => ?_, ?_, ?_⟩
      · by_cases e : i = n
        · subst e
          rw [c0, c1]
          exact ⟨⟨c, by omega, rfl⟩, Or.inl rfl⟩
        · rw [cg _ (by omega), cg _ (by omega)]
          exact e3 i (by omega)
      · unfold pf_sg
        rw [c1, if_neg (by decide), pf_sgC cg 1 n (Nat.le_refl _)]
        exact e6
      · unfold pf_sg
        rw [c1, if_pos rfl, c0, pf_sgC cg 0 n (Nat.le_refl _), ← e7]
    · refine pr_Rmk M T ?_ P (pr_ImK ⟨rfl, rfl, rfl, rfl, rfl, rfl, rfl, rfl, rfl, rfl, rfl⟩ I)
      show pr_G (hi 2 5 + 1) (hi 2 6 ||| (1 <<< (nI c &&& 31))) (hi 2 7) (hi 32 2 + 1) (upd (upd (hi 35) ((2 * hi 32 2).toNatClampNeg) (nI c)) ((2 * hi 32 2 + 1).toNatClampNeg) 1)
      rw [e2n, nI_1, pt_clamp (by omega), pt_clamp (by omega), e1, e2]
      have cg : ∀ i, i < 2 * n → upd (upd (hi 35) (2 * n) (nI c)) (2 * n + 1) 1 i = hi 35 i := fun i h => by rw [pu_ne (by omega), pu_ne (by omega)]
      have c1 : upd (upd (hi 35) (2 * n) (nI c)) (2 * n + 1) 1 (2 * n + 1) = 1 := pu_eq _ _ _
      have c0 : upd (upd (hi 35) (2 * n) (nI c)) (2 * n + 1) 1 (2 * n) = nI c := by rw [pu_ne (by omega), pu_eq]
      refine ⟨n + 1, by omega, nI_1 n, nI_1 n, fun i h => ?_, ?_, ?_⟩
      · by_cases e : i = n
        · subst e
          rw [c0, c1]
          exact ⟨⟨c, by omega, rfl⟩, Or.inr rfl⟩
        · rw [cg _ (by omega), cg _ (by omega)]
          exact e3 i (by omega)
      · unfold pf_sg
        rw [c1, if_pos rfl, c0, pf_sgC cg 1 n (Nat.le_refl _), ← e6]
      · unfold pf_sg
        rw [c1, if_neg (by decide), pf_sgC cg 0 n (Nat.le_refl _)]
        exact e7
  · unfold ph_sc_seeN; split <;> rfl
  · unfold ph_sc_seeN; split <;> rfl
theorem pk_forget {L : Nat} : pr_OK pr_R L pj_m85 pj_m143 [] := by
  intro hi hl R
  obtain ⟨M, T, G, P, I⟩ := pr_Rin R
  obtain ⟨n, hn, e1, e2, e3, e6, e7⟩ := G
  refine pr_ok (sa_sw_forget L hi hl) (sa_mo_forget L _ hl) (e2.trans e1.symm) ?_ rfl rfl
  exact pr_Rmk M T ⟨0, by omega, rfl, rfl, fun i h => absurd h (by omega), rfl, rfl⟩ P (pr_ImK ⟨rfl, rfl, rfl, rfl, rfl, rfl, rfl, rfl, rfl, rfl, rfl⟩ I)
/-! turned, told -/
theorem pk_turned {L : Nat} (a b : Int32) : pr_OK pr_R L pj_m78 pj_m118 [.int a, .int b] := by
  intro hi hl R
  obtain ⟨M, T, G, P, I⟩ := pr_Rin R
  have C := sa_mo_turned a b L hi hl (fun h _ _ => by
    obtain ⟨i, hi, rfl⟩ := pt_of h (show (7 : Int32).toInt = (7 : Nat) by decide)
    rw [pt_16 (by omega)]
    exact pt_ixN (by omega) (by omega)) (fun h _ _ => by
    obtain ⟨i, hi, rfl⟩ := pt_of h (show (7 : Int32).toInt = (7 : Nat) by decide)
    rw [pt_16 (by omega)]
    exact pt_ixN (by omega) (by omega))
  refine pr_ok (sa_sw_turned a b L hi hl) C ?_ R rfl rfl
  by_cases v1 : (0 ≤ a ∧ a ≤ 7)
  case neg => simp only [pf_mo_turned, pf_sw_turned, if_neg v1]
  by_cases v2 : (0 ≤ b ∧ b ≤ 7)
  case neg => simp only [pf_mo_turned, pf_sw_turned, if_pos v1, if_neg v2]
  simp only [pf_mo_turned, pf_sw_turned, if_pos v1, if_pos v2]
  obtain ⟨i, hi', rfl⟩ := pt_of v1 (show (7 : Int32).toInt = (7 : Nat) by decide)
  obtain ⟨q, hq, rfl⟩ := pt_of v2 (show (7 : Int32).toInt = (7 : Nat) by decide)
  rw [pf_holN (by omega), pt_16 (by omega), pt_clamp (by omega), ← T.2.1 i (by omega)]
  have hrem : ∀ q, q < 8 → nI q - nI q / 4 * 4 = nI (q % 4) := by decide +kernel
  rw [hrem q (by omega)]
  by_cases h : q < 4
  · rw [if_pos (show nI q ≤ 3 from nI_le (b := 3) (by omega) (by omega)), if_neg (show ¬ (4 : Int32) ≤ nI q from nI_ge (b := 4) (by omega) (by omega)), Nat.mod_eq_of_lt h, pq_qs _ (by omega)]
  · rw [if_neg (show ¬ nI q ≤ 3 from nI_ge (a := 3) (by omega) (by omega)), if_pos (show (4 : Int32) ≤ nI q from nI_le (a := 4) (by omega) (by omega)), pq_ov, show nI q - 4 = nI (q - 4) from pq_nIsub (b := 4) (by omega), show q % 4 = q - 4 by omega, pq_qs _ (by omega)]
theorem pt_nsub {j k : Nat} (h : k ≤ j) : nI j - nI k = nI (j - k) := pq_nIsub h
theorem pk_told {L : Nat} (a : Int32) : pr_OK pr_R L pj_m93 pj_m153 [.int a] := by
  intro hi hl R
  obtain ⟨M, T, G, P, I⟩ := pr_Rin R
  have C := sa_mo_told a L hi hl
    (fun _ _ _ _ h => by subst h; exact pt_ixN (k := 30) (n := 32) (by omega) (by omega))
    (fun _ _ _ _ _ h => by subst h; exact pt_ixN (k := 31) (n := 32) (by omega) (by omega))
    (fun _ _ h1 h2 => by
      obtain ⟨j, hj1, hj2, rfl⟩ := pt_of1 (a := 10) (M := 25) ⟨Int32.not_lt.mp h1, (pt_le _ _).mpr (by rw [pt_le] at h2; rw [show (26 : Int32).toInt = 26 by decide] at h2; rw [show (25 : Int32).toInt = 25 by decide]; omega)⟩ (show (10 : Int32).toInt = (10 : Nat) by decide) (show (25 : Int32).toInt = (25 : Nat) by decide)
      rw [show nI j - 10 = nI (j - 10) from pt_nsub hj1]
      exact pt_ixN (by omega) (by omega))
    (fun _ h1 h2 => by
      obtain ⟨j, hj1, hj2, rfl⟩ := pt_of1 (a := 30) (M := 37) ⟨Int32.not_lt.mp h1, (pt_le _ _).mpr (by rw [pt_le] at h2; rw [show (38 : Int32).toInt = 38 by decide] at h2; rw [show (37 : Int32).toInt = 37 by decide]; omega)⟩ (show (30 : Int32).toInt = (30 : Nat) by decide) (show (37 : Int32).toInt = (37 : Nat) by decide)
      rw [show nI j - 14 = nI (j - 14) from pt_nsub (k := 14) (by omega)]
      exact pt_ixN (by omega) (by omega))
    (fun _ h2 => by
      obtain ⟨j, hj1, hj2, rfl⟩ := pt_of1 (Decidable.not_not.mp h2) (show (41 : Int32).toInt = (41 : Nat) by decide) (show (45 : Int32).toInt = (45 : Nat) by decide)
      rw [show nI j - 16 = nI (j - 16) from pt_nsub (k := 16) (by omega)]
      exact pt_ixN (by omega) (by omega))
  refine pr_ok (sa_sw_told a L hi hl) C ?_ R rfl rfl
  unfold pf_mo_told pf_sw_told
  by_cases v1 : 10 ≤ a ∧ a ≤ 25
  · rw [if_neg (not_not_intro v1)]
    obtain ⟨j, hj1, hj2, rfl⟩ := pt_of1 v1 (show (10 : Int32).toInt = (10 : Nat) by decide) (show (25 : Int32).toInt = (25 : Nat) by decide)
    rw [if_pos (show nI j < 40 from nI_lt (b := 40) (by omega) (by omega)), if_pos (show nI j < 30 from nI_lt (b := 30) (by omega) (by omega)), if_neg (show ¬ nI j < 10 from nI_nlt (b := 10) (by omega) (by omega)), if_neg (show ¬ (26 : Int32) ≤ nI j from nI_ge (b := 26) (by omega) (by omega)), show nI j - 10 = nI (j - 10) from pt_nsub hj1, pt_clamp (by omega)]
    obtain ⟨k, hk, e⟩ := M.1 (j - 10) (by omega)
    exact (pr_col (by omega) hk e T.1).symm
  rw [if_pos v1]
  by_cases v2 : 30 ≤ a ∧ a ≤ 37
  · rw [if_neg (not_not_intro v2)]
    obtain ⟨j, hj1, hj2, rfl⟩ := pt_of1 v2 (show (30 : Int32).toInt = (30 : Nat) by decide) (show (37 : Int32).toInt = (37 : Nat) by decide)
    rw [if_pos (show nI j < 40 from nI_lt (b := 40) (by omega) (by omega)), if_neg (show ¬ nI j < 30 from nI_nlt (b := 30) (by omega) (by omega)), if_neg (show ¬ (38 : Int32) ≤ nI j from nI_ge (b := 38) (by omega) (by omega)), show nI j - 14 = nI (j - 14) from pt_nsub (k := 14) (by omega), show nI j - 30 = nI (j - 30) from pt_nsub hj1, pt_clamp (by omega), pf_holN (by omega), T.2.1 _ (by omega), show 16 + (j - 30) = j - 14 by omega]
  rw [if_pos v2]
  by_cases v3 : 41 ≤ a ∧ a ≤ 45
  · rw [if_neg (not_not_intro v3)]
    obtain ⟨j, hj1, hj2, rfl⟩ := pt_of1 v3 (show (41 : Int32).toInt = (41 : Nat) by decide) (show (45 : Int32).toInt = (45 : Nat) by decide)
    rw [if_neg (show ¬ nI j < 40 from nI_nlt (b := 40) (by omega) (by omega)), if_neg (not_not_intro v3), show nI j - 16 = nI (j - 16) from pt_nsub (k := 16) (by omega), show nI j - 40 = nI (j - 40) from pt_nsub (k := 40) (by omega), pt_clamp (by omega), pf_drpN (by omega) (by omega), T.2.2.1 _ (by omega) (by omega), show 24 + (j - 40) = j - 16 by omega]
  rw [if_pos v3]
  have P4 : hi 32 4 = hi 18 1 := by obtain ⟨n, _, e1, e2, _⟩ := P; rw [e1, e2]
  have G2 : hi 32 2 = hi 2 5 := by obtain ⟨n, _, e1, e2, _⟩ := G; rw [e1, e2]
  by_cases w0 : a = 0
  · subst w0
    exact P4
  by_cases w1 : a = 1
  · subst w1
    exact T.2.2.2.1.symm
  by_cases w2 : a = 2
  · subst w2
    exact T.2.2.2.2.symm
  by_cases w3 : a = 3
  · subst w3
    exact G2
  rw [if_neg w0, if_neg w1, if_neg w2, if_neg w3, if_neg w0, if_neg w1, if_neg w2, if_pos w3, if_pos v3]
  have c10 : (10 : Int32).toInt = 10 := by decide
  have c25 : (25 : Int32).toInt = 25 := by decide
  have c26 : (26 : Int32).toInt = 26 := by decide
  have c30 : (30 : Int32).toInt = 30 := by decide
  have c37 : (37 : Int32).toInt = 37 := by decide
  have c38 : (38 : Int32).toInt = 38 := by decide
  rw [pt_le, pt_le, c10, c25] at v1
  rw [pt_le, pt_le, c30, c37] at v2
  by_cases x1 : a < 40
  · rw [if_pos x1]
    by_cases x2 : a < 30
    · rw [if_pos x2]
      by_cases x3 : a < 10
      · rw [if_pos x3]
      · rw [if_neg x3, if_pos]
        rw [pt_lt, c30] at x2
        rw [pt_lt, c10] at x3
        rw [pt_le, c26]
        omega
    · rw [if_neg x2, if_pos]
      rw [pt_lt, c30] at x2
      rw [pt_le, c38]
      omega
  · rw [if_neg x1]
