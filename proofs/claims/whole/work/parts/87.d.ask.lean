/-! ===== ask ===== -/
def pc_S (r : Nat → Int32) (c : Nat) : Nat → Nat
  | 0 => 0
  | i + 1 => pc_S r c i + (if bt (r i) c = true then 1 else 0)
theorem pc_SY {F : Nat → Bool} {Z : Nat → Int32} {hi h : Nat → Nat → Int32} (J : pc_J F Z hi 80 h) (c : Nat) : ∀ k, k ≤ 80 → pc_S (h 29) c (pc_cnt F k) = pc_yes F Z c k
  | 0, _ => rfl
  | k + 1, hk => by
    have ih := pc_SY J c k (by omega)
    unfold pc_cnt pc_yes
    by_cases f : F k = true
    · rw [if_pos f, if_pos f]
      unfold pc_S
      rw [ih, (J.2.1 k (by omega) f).2]
      split <;> omega
    · rw [if_neg f, if_neg f]
      exact ih
def pc_w (A Y : Nat) : Nat := if Y ≤ A - Y then A - Y else Y
theorem pc_lamr {r : Nat → Int32} {c A : Nat} (hc : c < 16) (hA : A ≤ 32) : ∀ (n i : Nat), i + n = 32 → i ≤ A → pf_lamr (nI A) r (nI c) n i (nI (pc_S r c i)) = nI (pc_S r c A)
  | 0, i, h1, h2 => by
    rw [show A = i by omega]
    rfl
  | n + 1, i, h1, h2 => by
    unfold pf_lamr
    by_cases e : i = A
    · subst e
      rw [if_pos (Int32.le_refl _)]
    · rw [if_neg (nI_ge (by omega) (by omega)), pq_at _ (by omega)]
      have : nI (pc_S r c i) + (if bt (r i) c = true then (1 : Int32) else 0) = nI (pc_S r c (i + 1)) := by
        show _ = nI (pc_S r c i + (if bt (r i) c = true then 1 else 0))
        split
        · exact nI_1 _
        · exact nI_add _ 0
      rw [this]
      exact pc_lamr hc hA n (i + 1) (by omega) (by omega)
theorem pc_lam {F : Nat → Bool} {Z : Nat → Int32} {hi h : Nat → Nat → Int32} (J : pc_J F Z hi 80 h) (hA : pc_cnt F 80 ≤ 32) {c : Nat} (hc : c < 16) : pf_lam (nI c) (h 27) (h 29) = nI (pc_w (pc_cnt F 80) (pc_yes F Z c 80)) := by
  have e : pf_lamr (h 27 2) (h 29) (nI c) 32 0 0 = nI (pc_yes F Z c 80) := by
    rw [J.1]
    have := pc_lamr (r := h 29) hc hA 32 0 rfl (by omega)
    rw [pc_SY J c 80 (by omega)] at this
    exact this
  unfold pf_lam
  rw [e, J.1]
  have hy := pc_yle F Z c 80
  rw [pq_nIsub hy]
  unfold pc_w
  by_cases q : pc_yes F Z c 80 < pc_cnt F 80 - pc_yes F Z c 80
  · rw [if_pos (nI_lt q (by omega)), if_pos (by omega)]
  · rw [if_neg (nI_nlt (by omega) (by omega))]
    by_cases q2 : pc_yes F Z c 80 ≤ pc_cnt F 80 - pc_yes F Z c 80
    · rw [if_pos q2, show pc_cnt F 80 - pc_yes F Z c 80 = pc_yes F Z c 80 by omega]
    · rw [if_neg q2]
def pc_af (A : Nat) (w : Nat → Nat) : Nat → Int32 × Int32
  | 0 => (-6, 1000000)
  | c + 1 => if ¬ (¬ (nI A ≤ 0) ∧ ¬ ((pc_af A w c).2 ≤ nI (w c))) then pc_af A w c else (nI c, nI (w c))
theorem pc_af1 (A : Nat) (w : Nat → Nat) (c : Nat) : (pc_af A w (c + 1)).1 = if ¬ (¬ (nI A ≤ 0) ∧ ¬ ((pc_af A w c).2 ≤ nI (w c))) then (pc_af A w c).1 else nI c := by
  show (if ¬ (¬ (nI A ≤ 0) ∧ ¬ ((pc_af A w c).2 ≤ nI (w c))) then pc_af A w c else (nI c, nI (w c))).1 = _
  split <;> rfl
theorem pc_af2 (A : Nat) (w : Nat → Nat) (c : Nat) : (pc_af A w (c + 1)).2 = if ¬ (¬ (nI A ≤ 0) ∧ ¬ ((pc_af A w c).2 ≤ nI (w c))) then (pc_af A w c).2 else nI (w c) := by
  show (if ¬ (¬ (nI A ≤ 0) ∧ ¬ ((pc_af A w c).2 ≤ nI (w c))) then pc_af A w c else (nI c, nI (w c))).2 = _
  split <;> rfl
theorem ss_mask (L : Nat) {hi h : Nat → Nat → Int32} {hl : Nat → Nat → Int64} (R : pr_R hi hl) (h32 : h 32 = hi 32) (h33 : h 33 = hi 33) (h35 : h 35 = hi 35) (x : Int32) (v : 0 ≤ x ∧ x ≤ 1) (p : Int32 × Int32) (hp : p = pc_af (pc_cnt (pc_F (hi 33) (hi 2)) 80) (fun c => pc_w (pc_cnt (pc_F (hi 33) (hi 2)) 80) (pc_yes (pc_F (hi 33) (hi 2)) (pc_Z (hi 33)) c 80)) 16) : pe_C pj_m147 [.ref 32, .int x] (pj_SH L, h, hl) (some (.int (if p.1 < 0 then p.1 else (if ¬ x = 0 then p.2 else p.1)))) (pj_SH L, h, hl) := by
  refine (pb_mo_ask_0.trans (if_pos v)).mpr ?_
  generalize eF : pc_F (hi 33) (hi 2) = F at hp
  generalize eZ : pc_Z (hi 33) = Z at hp
  have hb : pc_cnt F 80 ≤ 32 := by rw [← eF]; exact pc_c80 (hi 33) (hi 2)
  have inn : ∀ (o : Option Value × pj_H) (x2 x3 : Int32) (c : Nat) (a8 : Option Value), c < 16 → (∀ y7, pe_E pj_m147 86 [some (.ref 32), some (.int x), some (.int x2), some (.int x3), some (.int (nI c)), some (.int (nI (pc_cnt F 80))), some (.int (nI (pc_yes F Z c 80))), some (.int y7), a8] [] (pj_SH L, h, hl) o) → ∀ (n k : Nat), k + n = 80 → pe_E pj_m147 37 [some (.ref 32), some (.int x), some (.int x2), some (.int x3), some (.int (nI c)), some (.int (nI (pc_cnt F k))), some (.int (nI (pc_yes F Z c k))), some (.int (nI k)), a8] [] (pj_SH L, h, hl) o := by
    intro o x2 x3 c a8 hc K n
    induction n with
    | zero =>
      intro k hk
      rw [show k = 80 by omega]
      exact (pb_mo_ask_37.trans (if_pos (Int32.le_refl _))).mpr (K _)
    | succ n ih =>
      intro k hk
      have ff := ss_fitF L R h32 h33 h35 (k := k) (by omega)
      have pp := ss_prt L h hl (k := k) (by omega)
      rw [eF] at ff
      rw [h33, eZ] at pp
      refine (pb_mo_ask_37.trans ((if_neg (show ¬ (80 : Int32) ≤ nI k from nI_ge (b := 80) (by omega) (by omega))).trans ((pk_mo_ask_47 ff).trans pb_mo_ask_50))).mpr ?_
      have ih := ih (k + 1) (by omega)
      unfold pc_cnt pc_yes at ih
      by_cases f : F k = true
      · rw [pz_t f, if_neg (by decide)]
        rw [if_pos f, if_pos f] at ih
        refine ((pk_mo_ask_61 pp).trans pb_mo_ask_64).mpr ?_
        have e : nI (pc_yes F Z c k) + (pz (¬ (¬ (pf_has (Z k) (nI c))))) = nI (if bt (Z k) c = true then pc_yes F Z c k + 1 else pc_yes F Z c k) := by
          by_cases q : bt (Z k) c = true
          · rw [pz_t (not_not_intro ((pq_has _ (by omega)).mpr q)), if_pos q]
            exact nI_1 _
          · rw [pz_nt (show ¬ pf_has (Z k) (nI c) from fun z => q ((pq_has _ (by omega)).mp z)), if_neg q]
            exact nI_add _ 0
        rw [e, nI_1, nI_1]
        exact ih
      · rw [pz_f f, if_pos rfl]
        rw [if_neg f, if_neg f] at ih
        refine pb_mo_ask_80.mpr ?_
        rw [nI_1]
        exact ih
  have out : ∀ (n c : Nat) (a5 a6 a7 a8 : Option Value), c + n = 16 → pe_E pj_m147 21 [some (.ref 32), some (.int x), some (.int (pc_af (pc_cnt F 80) (fun c => pc_w (pc_cnt F 80) (pc_yes F Z c 80)) c).1), some (.int (pc_af (pc_cnt F 80) (fun c => pc_w (pc_cnt F 80) (pc_yes F Z c 80)) c).2), some (.int (nI c)), a5, a6, a7, a8] [] (pj_SH L, h, hl) (some (.int (if p.1 < 0 then p.1 else (if ¬ x = 0 then p.2 else p.1))), (pj_SH L, h, hl)) := by
    intro n
    induction n with
    | zero =>
      intro c a5 a6 a7 a8 hc
      rw [show c = 16 by omega, ← hp]
      exact (pb_mo_ask_21.trans ((if_pos (Int32.le_refl _)).trans pb_mo_ask_156)).mpr rfl
    | succ n ih =>
      intro c a5 a6 a7 a8 hc
      refine (pb_mo_ask_21.trans (if_neg (show ¬ (16 : Int32) ≤ nI c from nI_ge (b := 16) (by omega) (by omega)))).mpr ?_
      refine inn _ _ _ c _ (by omega) (fun y7 => pb_mo_ask_86.mpr ?_) 80 0 rfl
      have hy := pc_yle F Z c 80
      have ew : (if nI (pc_yes F Z c 80) ≤ (nI (pc_cnt F 80) - nI (pc_yes F Z c 80)) then (nI (pc_cnt F 80) - nI (pc_yes F Z c 80)) else nI (pc_yes F Z c 80)) = nI (pc_w (pc_cnt F 80) (pc_yes F Z c 80)) := by
        rw [pq_nIsub hy]
        unfold pc_w
        by_cases q : pc_yes F Z c 80 ≤ pc_cnt F 80 - pc_yes F Z c 80
        · rw [if_pos (nI_le q (by omega)), if_pos q]
        · rw [if_neg (nI_ge (by omega) (by omega)), if_neg q]
      rw [ew, nI_1]
      have := ih (c + 1) (some (.int (nI (pc_cnt F 80)))) (some (.int (nI (pc_yes F Z c 80)))) (some (.int (nI (pc_w (pc_cnt F 80) (pc_yes F Z c 80))))) (some (.int (pz (¬ (nI (pc_cnt F 80) ≤ 0) ∧ (¬ ((pc_af (pc_cnt F 80) (fun c => pc_w (pc_cnt F 80) (pc_yes F Z c 80)) c).2 ≤ nI (pc_w (pc_cnt F 80) (pc_yes F Z c 80)))))))) (by omega)
      rw [pc_af1, pc_af2] at this
      exact this
  exact out 16 0 none none none none rfl
theorem pc_af0 (w : Nat → Nat) : ∀ c, pc_af 0 w c = (-6, 1000000)
  | 0 => rfl
  | c + 1 => by
    unfold pc_af
    rw [if_pos (fun q => q.1 (Int32.le_refl _))]
    exact pc_af0 w c
theorem pc_afP {A : Nat} (hA : 0 < A) (hA2 : A ≤ 32) {w : Nat → Nat} (hw : ∀ c, c < 16 → w c ≤ 32) {r27 r29 : Nat → Int32} (hl : ∀ c, c < 16 → pf_lam (nI c) r27 r29 = nI (w c)) : ∀ c, c < 16 → ∃ b, b < 16 ∧ pc_af A w (c + 1) = (nI b, nI (w b)) ∧ pf_bta r27 r29 c = nI b
  | 0, _ => by
    refine ⟨0, by omega, ?_, rfl⟩
    unfold pc_af
    rw [if_neg (not_not_intro ⟨nI_nle hA (by omega), show ¬ (1000000 : Int32) ≤ nI (w 0) from nI_ge (b := 1000000) (by have := hw 0 (by omega); omega) (by omega)⟩)]
  | c + 1, hc => by
    obtain ⟨b, hb, e1, e2⟩ := pc_afP hA hA2 hw hl c (by omega)
    unfold pc_af pf_bta
    rw [e1, e2, hl b hb, hl (c + 1) hc]
    have wb := hw b hb
    have wc := hw (c + 1) hc
    by_cases q : nI (w b) ≤ nI (w (c + 1))
    · rw [if_pos q, if_pos (fun z => z.2 q)]
      exact ⟨b, hb, rfl, rfl⟩
    · rw [if_neg q, if_neg (not_not_intro ⟨nI_nle hA (by omega), q⟩)]
      exact ⟨c + 1, hc, rfl, rfl⟩
theorem pk_ask {L : Nat} (a : Int32) : pr_OK pr_R L pj_m87 pj_m147 [.int a] := by
  intro hi hl R
  obtain ⟨M, T, _⟩ := pr_Rin R
  have J := pc_gat (m := hi 33) (hi := hi) T.2.1
  have j1 := J.1
  have j3 := J.2.2
  have C1 := sa_sw_ask a L hi hl
  unfold ph_sw_ask pf_sw_ask at C1
  by_cases v : 0 ≤ a ∧ a ≤ 1
  case neg =>
    rw [if_neg v, if_neg v] at C1
    exact pr_ok C1 ((pb_mo_ask_0.trans (if_neg v)).mpr rfl) rfl R rfl rfl
  rw [if_pos v, if_pos v] at C1
  have hb := pc_c80 (hi 33) (hi 2)
  generalize eA : pc_cnt (pc_F (hi 33) (hi 2)) 80 = A at hb
  generalize ew : (fun c => pc_w A (pc_yes (pc_F (hi 33) (hi 2)) (pc_Z (hi 33)) c 80)) = w
  have hp : pc_af A w 16 = pc_af (pc_cnt (pc_F (hi 33) (hi 2)) 80) (fun c => pc_w (pc_cnt (pc_F (hi 33) (hi 2)) 80) (pc_yes (pc_F (hi 33) (hi 2)) (pc_Z (hi 33)) c 80)) 16 := by rw [eA, ew]
  refine pr_ok C1 (ss_mask L R (j3 32 (by omega) (by omega) (by omega)) (j3 33 (by omega) (by omega) (by omega)) (j3 35 (by omega) (by omega) (by omega)) a v _ hp) ?_ (pc_RK j3 R) (j3 0 (by omega) (by omega) (by omega)) (j3 0 (by omega) (by omega) (by omega))
  rw [j1, eA]
  by_cases z : A = 0
  · subst z
    rw [pc_af0, if_pos (by decide), if_neg (show ¬ ¬ nI 0 = 0 from not_not_intro rfl)]
  rw [if_pos (nI_ne0 (by omega) (by omega))]
  have hl2 : ∀ c, c < 16 → pf_lam (nI c) ((ph_gat hi) 27) ((ph_gat hi) 29) = nI (w c) := fun c hc => by
    rw [pc_lam J (by rw [eA]; exact hb) hc, eA, ← ew]
  have hw : ∀ c, c < 16 → w c ≤ 32 := fun c hc => by
    have := pc_yle (pc_F (hi 33) (hi 2)) (pc_Z (hi 33)) c 80
    rw [← ew]
    show pc_w A _ ≤ 32
    unfold pc_w
    split <;> omega
  obtain ⟨b, hb2, e1, e2⟩ := pc_afP (by omega) hb hw hl2 15 (by omega)
  rw [e1, e2, if_neg (nI_pos (by omega)), hl2 b hb2]
