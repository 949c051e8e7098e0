/-! ===== prints, ask ===== -/
/-- how many of the first codes fit; how many of these have a hole there -/
def pc_cnt (F : Nat → Bool) : Nat → Nat
  | 0 => 0
  | k + 1 => if F k = true then pc_cnt F k + 1 else pc_cnt F k
def pc_yes (F : Nat → Bool) (Z : Nat → Int32) (c : Nat) : Nat → Nat
  | 0 => 0
  | k + 1 => if F k = true then (if bt (Z k) c = true then pc_yes F Z c k + 1 else pc_yes F Z c k) else pc_yes F Z c k
theorem pc_mono (F : Nat → Bool) : ∀ (d j : Nat), pc_cnt F j ≤ pc_cnt F (j + d)
  | 0, _ => Nat.le_refl _
  | d + 1, j => by
    have := pc_mono F d j
    show pc_cnt F j ≤ (if F (j + d) = true then pc_cnt F (j + d) + 1 else pc_cnt F (j + d))
    split <;> omega
theorem pc_lt (F : Nat → Bool) {j k : Nat} (h : j < k) (hF : F j = true) : pc_cnt F j < pc_cnt F k := by
  have := pc_mono F (k - (j + 1)) (j + 1)
  rw [show j + 1 + (k - (j + 1)) = k by omega] at this
  have e : pc_cnt F (j + 1) = pc_cnt F j + 1 := by
    show (if F j = true then pc_cnt F j + 1 else pc_cnt F j) = _
    rw [if_pos hF]
  omega
theorem pc_sur (F : Nat → Bool) {j : Nat} : ∀ k, j < pc_cnt F k → ∃ i, i < k ∧ F i = true ∧ pc_cnt F i = j
  | 0, h => absurd h (by unfold pc_cnt; omega)
  | k + 1, h => by
    unfold pc_cnt at h
    split at h
    · rename_i hF
      by_cases e : j = pc_cnt F k
      · exact ⟨k, by omega, hF, e.symm⟩
      · obtain ⟨i, h1, h2, h3⟩ := pc_sur F (j := j) k (by omega)
        exact ⟨i, by omega, h2, h3⟩
    · obtain ⟨i, h1, h2, h3⟩ := pc_sur F k h
      exact ⟨i, by omega, h2, h3⟩
theorem pc_le (F : Nat → Bool) (hF : ∀ k, F k = true → k % 10 < 4) : ∀ k, pc_cnt F k ≤ 4 * (k / 10) + min (k % 10) 4
  | 0 => by unfold pc_cnt; omega
  | k + 1 => by
    have := pc_le F hF k
    unfold pc_cnt
    split
    · rename_i h
      have := hF k h
      omega
    · omega
theorem pc_yle (F : Nat → Bool) (Z : Nat → Int32) (c : Nat) : ∀ k, pc_yes F Z c k ≤ pc_cnt F k
  | 0 => Nat.le_refl _
  | k + 1 => by
    have := pc_yle F Z c k
    unfold pc_yes pc_cnt
    split
    · split <;> omega
    · omega
/-- what gather has done with the first codes -/
def pc_J (F : Nat → Bool) (Z : Nat → Int32) (hi : Nat → Nat → Int32) (k : Nat) (h : Nat → Nat → Int32) : Prop := h 27 2 = nI (pc_cnt F k) ∧ (∀ j, j < k → F j = true → h 28 (pc_cnt F j) = nI j ∧ h 29 (pc_cnt F j) = Z j) ∧ (∀ r, ¬ r = 27 → ¬ r = 28 → ¬ r = 29 → h r = hi r)
theorem pc_add {h : Nat → Nat → Int32} {c : Nat} (hc : c < 32) (e : h 27 2 = nI c) (x y : Int32) : ph_fi_add x y h = pj_up (pj_up (pj_up h 28 c x) 29 c y) 27 2 (nI (c + 1)) := by
  unfold ph_fi_add
  rw [e]
  simp only [if_neg (nI_pos (show c < 2 ^ 31 by omega)), if_neg (show ¬ (32 : Int32) ≤ nI c from nI_ge (b := 32) (by omega) (by omega)), pt_clamp (show c < 2147483648 by omega), nI_1]
theorem pc_Jno {F : Nat → Bool} {Z : Nat → Int32} {hi h : Nat → Nat → Int32} {k : Nat} (J : pc_J F Z hi k h) (hF : ¬ F k = true) : pc_J F Z hi (k + 1) h := by
  obtain ⟨j1, j2, j3⟩ := J
  refine ⟨?_, fun j hj hf => ?_, j3⟩
  · show _ = nI (if F k = true then pc_cnt F k + 1 else pc_cnt F k)
    rw [if_neg hF]; exact j1
  · by_cases e : j = k
    · subst e; exact absurd hf hF
    · exact j2 j (by omega) hf
theorem pc_Jyes {F : Nat → Bool} {Z : Nat → Int32} {hi h : Nat → Nat → Int32} {k : Nat} (J : pc_J F Z hi k h) (hF : F k = true) (hc : pc_cnt F k < 32) : pc_J F Z hi (k + 1) (ph_fi_add (nI k) (Z k) h) := by
  obtain ⟨j1, j2, j3⟩ := J
  rw [pc_add hc j1]
  refine ⟨?_, fun j hj hf => ?_, fun r r1 r2 r3 => ?_⟩
  · show _ = nI (if F k = true then pc_cnt F k + 1 else pc_cnt F k)
    rw [if_pos hF]
    simp [pj_up, upd]
  · by_cases e : j = k
    · subst e
      simp [pj_up, upd]
    · have := pc_lt F (show j < k by omega) hf
      obtain ⟨a, b⟩ := j2 j (by omega) hf
      have ne : ¬ pc_cnt F j = pc_cnt F k := by omega
      simp [pj_up, upd, ne, a, b]
  · simp only [pj_up, if_neg r1, if_neg r2, if_neg r3]
    exact j3 r r1 r2 r3
theorem pc_mqS (x : Int32) : ∀ q, pf_mqit (q + 1) x = pf_mq (pf_mqit q x) 16
  | 0 => rfl
  | q + 1 => by
    show pf_mqit (q + 1) (pf_mq x 16) = pf_mq (pf_mqit q (pf_mq x 16)) 16
    exact pc_mqS _ q
theorem pc_mqN (x : Int32) {q : Nat} (h : q < 2147483648) : pf_mqs x (nI q) = pf_mqit q x := by
  unfold pf_mqs
  rw [pt_nI h, Int.toNat_natCast]
def pc_Z (m : Nat → Int32) (k : Nat) : Int32 := pf_mqit (k % 10) (m (16 + k / 10))
def pc_F (m r2 : Nat → Int32) (k : Nat) : Bool := decide (k % 10 < 4 ∧ pp_sc_agreesWithN (pc_Z m k) r2)
theorem pc_F4 (m r2 : Nat → Int32) (k : Nat) (h : pc_F m r2 k = true) : k % 10 < 4 := (of_decide_eq_true h).1
theorem pc_c32 (m r2 : Nat → Int32) {k : Nat} (hk : k < 80) (hF : pc_F m r2 k = true) : pc_cnt (pc_F m r2) k < 32 := by
  have := pc_le (pc_F m r2) (pc_F4 m r2) k
  have := pc_F4 m r2 k hF
  omega
theorem pc_c80 (m r2 : Nat → Int32) : pc_cnt (pc_F m r2) 80 ≤ 32 := by
  have := pc_le (pc_F m r2) (pc_F4 m r2) 80
  omega
theorem pc_gi {m : Nat → Int32} {hi : Nat → Nat → Int32} {c : Nat} (hc : c < 8) : ∀ (n q : Nat) (h : Nat → Nat → Int32), q + n = 4 → pc_J (pc_F m (hi 2)) (pc_Z m) hi (10 * c + q) h → pc_J (pc_F m (hi 2)) (pc_Z m) hi (10 * c + 4) (ph_gi (nI c) n q (pf_mqit q (m (16 + c))) h)
  | 0, q, h, hq, J => by
    rw [show 4 = q by omega]
    exact J
  | n + 1, q, h, hq, J => by
    unfold ph_gi
    rw [pq_q1, ← pc_mqS]
    refine pc_gi hc n (q + 1) _ (by omega) ?_
    have eZ : pc_Z m (10 * c + q) = pf_mqit q (m (16 + c)) := by
      unfold pc_Z
      rw [show (10 * c + q) % 10 = q by omega, show (10 * c + q) / 10 = c by omega]
    have e2 : h 2 = hi 2 := J.2.2 2 (by omega) (by omega) (by omega)
    have eN : (10 : Int32) * nI c + nI q = nI (10 * c + q) := by rw [show (10 : Int32) * nI c = nI (10 * c) from pt_nmul 10 c, nI_add]
    unfold ph_gst
    rw [eN, e2, ← eZ]
    by_cases g : pp_sc_agreesWithN (pc_Z m (10 * c + q)) (hi 2)
    · have hF : pc_F m (hi 2) (10 * c + q) = true := decide_eq_true ⟨by omega, g⟩
      rw [if_neg (not_not_intro g)]
      exact pc_Jyes J hF (pc_c32 m (hi 2) (k := 10 * c + q) (by omega) hF)
    · rw [if_pos g]
      exact pc_Jno J (fun q => g (of_decide_eq_true q).2)
theorem pc_skip {m : Nat → Int32} {hi h : Nat → Nat → Int32} {c : Nat} : ∀ n, n ≤ 6 → pc_J (pc_F m (hi 2)) (pc_Z m) hi (10 * c + 4) h → pc_J (pc_F m (hi 2)) (pc_Z m) hi (10 * c + 4 + n) h
  | 0, _, J => J
  | n + 1, hn, J => pc_Jno (pc_skip n (by omega) J) (fun q => by have : (10 * c + 4 + n) % 10 < 4 := (of_decide_eq_true q).1; omega)
theorem pc_go {m : Nat → Int32} {hi : Nat → Nat → Int32} (hm : ∀ i, i < 8 → hi 4 i = m (16 + i)) : ∀ (n c : Nat) (h : Nat → Nat → Int32), c + n = 8 → pc_J (pc_F m (hi 2)) (pc_Z m) hi (10 * c) h → pc_J (pc_F m (hi 2)) (pc_Z m) hi 80 (ph_go n c h)
  | 0, c, h, hc, J => by
    rw [show c = 8 by omega] at J
    exact J
  | n + 1, c, h, hc, J => by
    unfold ph_go
    have e4 : h 4 = hi 4 := J.2.2 4 (by omega) (by omega) (by omega)
    rw [pf_holN (by omega), e4, hm c (by omega)]
    refine pc_go hm n (c + 1) _ (by omega) ?_
    have := pc_skip 6 (by omega) (pc_gi (m := m) (hi := hi) (c := c) (by omega) 4 0 h rfl J)
    rw [show 10 * (c + 1) = 10 * c + 4 + 6 by omega]
    exact this
theorem pc_gat {m : Nat → Int32} {hi : Nat → Nat → Int32} (hm : ∀ i, i < 8 → hi 4 i = m (16 + i)) : pc_J (pc_F m (hi 2)) (pc_Z m) hi 80 (ph_gat hi) := by
  unfold ph_gat
  refine pc_go hm 8 0 _ rfl ⟨rfl, fun j hj => by omega, fun r r1 _ _ => ?_⟩
  simp only [pj_up, if_neg r1]
/-! sights -/
theorem pc_sg {g : Nat → Int32} {b : Int32} : ∀ n, (∀ i, i < n → ∃ c, c < 16 ∧ g (2 * i) = nI c) → ∀ j, j < 32 → (bt (pf_sg g b n) j = true ↔ ∃ i, i < n ∧ g (2 * i + 1) = b ∧ g (2 * i) = nI j)
  | 0, _, j, _ => by
    unfold pf_sg
    rw [b_0]
    constructor
    · intro h; cases h
    · rintro ⟨i, h, _⟩; omega
  | n + 1, h, j, hj => by
    have ih := pc_sg (b := b) n (fun i hi => h i (by omega)) j hj
    obtain ⟨c, hc, ec⟩ := h n (by omega)
    unfold pf_sg
    by_cases e : g (2 * n + 1) = b
    · rw [if_pos e, b_or, Bool.or_eq_true, ih, ec, pq_one (by omega) hj, decide_eq_true_iff]
      constructor
      · rintro (⟨i, h1, h2⟩ | rfl)
        · exact ⟨i, by omega, h2⟩
        · exact ⟨n, by omega, e, ec⟩
      · rintro ⟨i, h1, h2, h3⟩
        by_cases k : i = n
        · subst k
          rw [ec] at h3
          exact Or.inr ((nI_eq (by omega) (by omega)).mp h3).symm
        · exact Or.inl ⟨i, by omega, h2, h3⟩
    · rw [if_neg e, ih]
      constructor
      · rintro ⟨i, h1, h2⟩; exact ⟨i, by omega, h2⟩
      · rintro ⟨i, h1, h2, h3⟩
        by_cases k : i = n
        · subst k; exact absurd h2 e
        · exact ⟨i, by omega, h2, h3⟩
theorem pc_and0 {x y : Int32} : x &&& y = 0 ↔ ∀ j, j < 32 → bt x j = true → ¬ bt y j = true := by
  constructor
  · intro h j hj h1 h2
    have := congrArg (fun z => bt z j) h
    simp only [b_and, h1, h2, b_0] at this
    cases this
  · intro h
    refine b_ext (fun j hj => ?_)
    rw [b_and, b_0]
    cases e1 : bt x j
    · rfl
    · have := h j hj e1
      cases e2 : bt y j
      · rfl
      · exact absurd e2 this
/-- sight i is so on a print -/
def pc_ok (g : Nat → Int32) (z : Int32) (i : Nat) : Bool := decide (pf_has z (g (2 * i)) ↔ g (2 * i + 1) = 1)
theorem pc_agr {s6 s7 : Int32} {g : Nat → Int32} {n : Nat} (h : ∀ i, i < n → (∃ c, c < 16 ∧ g (2 * i) = nI c) ∧ (g (2 * i + 1) = 0 ∨ g (2 * i + 1) = 1)) (e6 : s6 = pf_sg g 1 n) (e7 : s7 = pf_sg g 0 n) (z : Int32) (r2 : Nat → Int32) (f6 : r2 6 = s6) (f7 : r2 7 = s7) : pp_sc_agreesWithN z r2 ↔ ∀ i, i < n → pc_ok g z i = true := by
  unfold pp_sc_agreesWithN
  rw [f6, f7, e6, e7, Decidable.not_not, Decidable.not_not, pc_and0, pc_and0]
  have sg := fun b => pc_sg (g := g) (b := b) n (fun i hi => (h i hi).1)
  constructor
  · rintro ⟨p1, p0⟩ i hi
    obtain ⟨⟨c, hc, ec⟩, hb⟩ := h i hi
    refine decide_eq_true ?_
    rw [ec, pq_has z (by omega)]
    rcases hb with e | e
    · have := p0 c (by omega) ((sg 0 c (by omega)).mpr ⟨i, hi, e, ec⟩)
      rw [e]
      exact ⟨fun q => absurd q this, fun q => absurd q (by decide)⟩
    · have := p1 c (by omega) ((sg 1 c (by omega)).mpr ⟨i, hi, e, ec⟩)
      rw [pq_not z (by omega)] at this
      rw [e]
      refine ⟨fun _ => rfl, fun _ => ?_⟩
      cases k : bt z c
      · rw [k] at this; exact absurd rfl this
      · rfl
  · intro p
    refine ⟨fun j hj hb => ?_, fun j hj hb => ?_⟩
    · obtain ⟨i, hi, e1, e2⟩ := (sg 1 j hj).mp hb
      have := of_decide_eq_true (p i hi)
      rw [e2, pq_has z hj, e1] at this
      rw [pq_not z hj, this.mpr rfl]
      exact fun q => by cases q
    · obtain ⟨i, hi, e1, e2⟩ := (sg 0 j hj).mp hb
      have := of_decide_eq_true (p i hi)
      rw [e2, pq_has z hj, e1] at this
      exact fun q => absurd (this.mp q) (by decide)
/-! the model's isFit -/
def pc_okn (g : Nat → Int32) (z : Int32) (b : Bool) : Nat → Bool
  | 0 => b
  | i + 1 => pc_okn g z b i && pc_ok g z i
theorem pc_oknE {g : Nat → Int32} {z : Int32} {b : Bool} : ∀ n, pc_okn g z b n = true ↔ b = true ∧ ∀ i, i < n → pc_ok g z i = true
  | 0 => ⟨fun h => ⟨h, fun i hi => by omega⟩, fun h => h.1⟩
  | n + 1 => by
    unfold pc_okn
    rw [Bool.and_eq_true, pc_oknE n]
    constructor
    · rintro ⟨⟨h1, h2⟩, h3⟩
      refine ⟨h1, fun i hi => ?_⟩
      by_cases e : i = n
      · subst e; exact h3
      · exact h2 i (by omega)
    · rintro ⟨h1, h2⟩
      exact ⟨⟨h1, fun i hi => h2 i (by omega)⟩, h2 n (by omega)⟩
theorem pc_okn0 {g : Nat → Int32} {z : Int32} {b : Bool} {i : Nat} (h : ¬ pc_okn g z b i = true) (n : Nat) (hn : i ≤ n) : ¬ pc_okn g z b n = true := by
  intro q
  refine h ((pc_oknE i).mpr ?_)
  obtain ⟨h1, h2⟩ := (pc_oknE n).mp q
  exact ⟨h1, fun j hj => h2 j (by omega)⟩
theorem pc_pz2 {P Q : Prop} [Decidable P] [Decidable Q] : pz (¬ (¬ (pz P) = (pz (¬ (¬ Q))))) = pz (P ↔ Q) := by
  by_cases p : P <;> by_cases q : Q <;> simp [pz, p, q]
theorem pc_pzb {P : Prop} [Decidable P] {b : Bool} (h : b = true ↔ P) : pz P = pz (b = true) := by
  by_cases p : P
  · rw [pz_t p, pz_t (h.mpr p)]
  · rw [pz_f p, pz_f (fun q => p (h.mp q))]
theorem ss_prt (L : Nat) (hi : Nat → Nat → Int32) (hl : Nat → Nat → Int64) {k : Nat} (hk : k < 80) : pe_C pj_m144 [.ref 32, .int (nI k)] (pj_SH L, hi, hl) (some (.int (pc_Z (hi 33) k))) (pj_SH L, hi, hl) := by
  have e1 : nI k / 10 = nI (k / 10) := pt_ndiv (d := 10) (by omega) (by omega) (by omega)
  have e2 : nI k - nI k / 10 * 10 = nI (k % 10) := pt_nmod (d := 10) (by omega) (by omega) (by omega)
  refine (pb_mo_printOf_0 (by rw [e1, pt_16 (by omega)]; exact pt_ixN (by omega) (by omega))).mpr ?_
  rw [e2, e1, pt_16 (by omega), pt_clamp (by omega), pc_mqN _ (by omega)]
  rfl
theorem ss_fit (L : Nat) (hi : Nat → Nat → Int32) (hl : Nat → Nat → Int64) {k n : Nat} (hk : k < 80) (hn : n ≤ 8) (e2 : hi 32 2 = nI n) : pe_C pj_m145 [.ref 32, .int (nI k)] (pj_SH L, hi, hl) (some (.int (pz (pc_okn (hi 35) (pc_Z (hi 33) k) (decide (k % 10 < 4)) n = true)))) (pj_SH L, hi, hl) := by
  refine pb_mo_isFit_0.mpr ?_
  have em : nI k - nI k / 10 * 10 = nI (k % 10) := pt_nmod (d := 10) (by omega) (by omega) (by omega)
  rw [em]
  have e0 : pz (¬ ((4 : Int32) ≤ nI (k % 10))) = pz (pc_okn (hi 35) (pc_Z (hi 33) k) (decide (k % 10 < 4)) 0 = true) := by
    refine pc_pzb ?_
    show decide (k % 10 < 4) = true ↔ _
    rw [decide_eq_true_iff, show (4 : Int32) = nI 4 from rfl, nI_leI (by omega) (by omega)]
    omega
  rw [e0]
  have g : ∀ (d i : Nat), i + d = n → pe_E pj_m145 16 [some (.ref 32), some (.int (nI k)), some (.int (pz (pc_okn (hi 35) (pc_Z (hi 33) k) (decide (k % 10 < 4)) i = true))), some (.int (nI i))] [] (pj_SH L, hi, hl) (some (.int (pz (pc_okn (hi 35) (pc_Z (hi 33) k) (decide (k % 10 < 4)) n = true))), (pj_SH L, hi, hl)) := by
    intro d
    induction d with
    | zero =>
      intro i hd
      rw [show i = n by omega]
      refine (pb_mo_isFit_16.trans ((if_pos (by rw [e2]; exact Int32.le_refl _)).trans (pb_mo_isFit_78 pz_01))).mpr rfl
    | succ d ih =>
      intro i hd
      refine (pb_mo_isFit_16.trans (if_neg (by rw [e2]; exact nI_ge (by omega) (by omega)))).mpr ?_
      by_cases q : pc_okn (hi 35) (pc_Z (hi 33) k) (decide (k % 10 < 4)) i = true
      · rw [pz_t q, if_neg (by decide)]
        have a1 : (2 : Int32) * nI i = nI (2 * i) := pt_nmul 2 i
        refine ((pk_mo_isFit_30 (ss_prt L hi hl hk)).trans (pb_mo_isFit_33 (by rw [a1]; exact pt_ixN (by omega) (by omega)) (by rw [a1, nI_1]; exact pt_ixN (by omega) (by omega)))).mpr ?_
        rw [a1, nI_1, nI_1, pt_clamp (by omega), pt_clamp (by omega), pc_pz2]
        have eo : pz (pf_has (pc_Z (hi 33) k) (hi 35 (2 * i)) ↔ hi 35 (2 * i + 1) = 1) = pz (pc_okn (hi 35) (pc_Z (hi 33) k) (decide (k % 10 < 4)) (i + 1) = true) := by
          refine pc_pzb ?_
          unfold pc_okn
          rw [q, Bool.true_and]
          exact decide_eq_true_iff
        rw [eo]
        exact ih (i + 1) (by omega)
      · rw [pz_f q, if_pos rfl]
        refine (pb_mo_isFit_78 (Or.inl rfl)).mpr ?_
        rw [pz_f (pc_okn0 q n (by omega))]
  exact g n 0 (by omega)
/-- what holds of a heap that the relation holds of, and of one that gather left -/
theorem pc_okF {hi : Nat → Nat → Int32} {hl : Nat → Nat → Int64} (R : pr_R hi hl) : ∃ n, n ≤ 8 ∧ hi 32 2 = nI n ∧ ∀ k, (pc_okn (hi 35) (pc_Z (hi 33) k) (decide (k % 10 < 4)) n = true ↔ pc_F (hi 33) (hi 2) k = true) := by
  obtain ⟨M, T, G, P, I⟩ := pr_Rin R
  obtain ⟨n, hn, e1, e2, e3, e6, e7⟩ := G
  refine ⟨n, hn, e2, fun k => ?_⟩
  unfold pc_F
  rw [pc_oknE, decide_eq_true_iff, decide_eq_true_iff, pc_agr e3 rfl rfl (pc_Z (hi 33) k) (hi 2) e6 e7]
theorem ss_fitF (L : Nat) {hi h : Nat → Nat → Int32} {hl : Nat → Nat → Int64} (R : pr_R hi hl) (h32 : h 32 = hi 32) (h33 : h 33 = hi 33) (h35 : h 35 = hi 35) {k : Nat} (hk : k < 80) : pe_C pj_m145 [.ref 32, .int (nI k)] (pj_SH L, h, hl) (some (.int (pz (pc_F (hi 33) (hi 2) k = true)))) (pj_SH L, h, hl) := by
  obtain ⟨n, hn, e2, eF⟩ := pc_okF R
  have := ss_fit L h hl hk hn (by rw [h32]; exact e2)
  rw [h33, h35, pc_pzb (b := pc_F (hi 33) (hi 2) k) (eF k).symm] at this
  exact this
theorem pc_RK {hi h : Nat → Nat → Int32} {hl : Nat → Nat → Int64} (j3 : ∀ r, ¬ r = 27 → ¬ r = 28 → ¬ r = 29 → h r = hi r) (R : pr_R hi hl) : pr_R h hl := by
  refine pr_RK (hi := hi) (hl := hl) ?_ R
  unfold pr_K
  simp only [j3 1 (by omega) (by omega) (by omega), j3 3 (by omega) (by omega) (by omega), j3 4 (by omega) (by omega) (by omega), j3 5 (by omega) (by omega) (by omega), j3 10 (by omega) (by omega) (by omega), j3 11 (by omega) (by omega) (by omega), j3 12 (by omega) (by omega) (by omega), j3 13 (by omega) (by omega) (by omega), j3 14 (by omega) (by omega) (by omega), j3 15 (by omega) (by omega) (by omega), j3 16 (by omega) (by omega) (by omega), j3 17 (by omega) (by omega) (by omega), j3 18 (by omega) (by omega) (by omega), j3 19 (by omega) (by omega) (by omega), j3 33 (by omega) (by omega) (by omega), j3 35 (by omega) (by omega) (by omega), j3 36 (by omega) (by omega) (by omega), j3 40 (by omega) (by omega) (by omega), j3 41 (by omega) (by omega) (by omega), j3 2 (by omega) (by omega) (by omega), j3 32 (by omega) (by omega) (by omega), and_self]
/-! prints -/
def pc_pr (F : Nat → Bool) (x : Int32) : Nat → Nat → Int32
  | 0, k => if ¬ x = -1 then -6 else nI (pc_cnt F k)
  | n + 1, k => if F k = true then (if ¬ nI (pc_cnt F k) = x then pc_pr F x n (k + 1) else nI k) else pc_pr F x n (k + 1)
theorem ss_mpr (L : Nat) {hi h : Nat → Nat → Int32} {hl : Nat → Nat → Int64} (R : pr_R hi hl) (h32 : h 32 = hi 32) (h33 : h 33 = hi 33) (h35 : h 35 = hi 35) (x : Int32) : pe_C pj_m146 [.ref 32, .int x] (pj_SH L, h, hl) (some (.int (pc_pr (pc_F (hi 33) (hi 2)) x 80 0))) (pj_SH L, h, hl) := by
  refine pb_mo_prints_0.mpr ?_
  have g : ∀ (n k : Nat), k + n = 80 → pe_E pj_m146 4 [some (.ref 32), some (.int x), some (.int (nI (pc_cnt (pc_F (hi 33) (hi 2)) k))), some (.int (nI k))] [] (pj_SH L, h, hl) (some (.int (pc_pr (pc_F (hi 33) (hi 2)) x n k)), (pj_SH L, h, hl)) := by
    intro n
    induction n with
    | zero =>
      intro k hk
      refine (pb_mo_prints_4.trans (if_pos (nI_le (a := 80) (by omega) (by omega)))).mpr ?_
      rfl
    | succ n ih =>
      intro k hk
      refine (pb_mo_prints_4.trans ((if_neg (show ¬ (80 : Int32) ≤ nI k from nI_ge (b := 80) (by omega) (by omega))).trans ((pk_mo_prints_12 (ss_fitF L R h32 h33 h35 (by omega))).trans pb_mo_prints_15))).mpr ?_
      unfold pc_pr
      have ih := ih (k + 1) (by omega)
      unfold pc_cnt at ih
      by_cases f : pc_F (hi 33) (hi 2) k = true
      · rw [pz_t f, if_neg (by decide), if_pos f]
        rw [if_pos f] at ih
        by_cases e : nI (pc_cnt (pc_F (hi 33) (hi 2)) k) = x
        · rw [if_neg (not_not_intro e), if_neg (not_not_intro e)]
        · rw [if_pos e, if_pos e, nI_1, nI_1]
          exact ih
      · rw [pz_f f, if_pos rfl, if_neg f, nI_1]
        rw [if_neg f] at ih
        exact ih
  exact g 80 0 rfl
theorem pc_prE {F : Nat → Bool} {x : Int32} (hb : pc_cnt F 80 ≤ 32) : ∀ (n k : Nat), k + n = 80 → (∀ j, j < k → F j = true → ¬ nI (pc_cnt F j) = x) → (∃ j, j < 80 ∧ F j = true ∧ nI (pc_cnt F j) = x ∧ pc_pr F x n k = nI j) ∨ ((∀ j, j < 80 → F j = true → ¬ nI (pc_cnt F j) = x) ∧ pc_pr F x n k = if ¬ x = -1 then -6 else nI (pc_cnt F 80))
  | 0, k, hk, h => by
    rw [show k = 80 by omega] at h ⊢
    exact Or.inr ⟨h, rfl⟩
  | n + 1, k, hk, h => by
    unfold pc_pr
    by_cases f : F k = true
    · rw [if_pos f]
      by_cases e : nI (pc_cnt F k) = x
      · rw [if_neg (not_not_intro e)]
        exact Or.inl ⟨k, by omega, f, e, rfl⟩
      · rw [if_pos e]
        refine pc_prE hb n (k + 1) (by omega) (fun j hj hf => ?_)
        by_cases q : j = k
        · subst q; exact e
        · exact h j (by omega) hf
    · rw [if_neg f]
      refine pc_prE hb n (k + 1) (by omega) (fun j hj hf => ?_)
      by_cases q : j = k
      · subst q; exact absurd hf f
      · exact h j (by omega) hf
theorem pk_prints {L : Nat} (a : Int32) : pr_OK pr_R L pj_m86 pj_m146 [.int a] := by
  intro hi hl R
  obtain ⟨M, T, _⟩ := pr_Rin R
  obtain ⟨j1, j2, j3⟩ := pc_gat (m := hi 33) (hi := hi) T.2.1
  have C1 := sa_sw_prints a L hi hl
  unfold ph_sw_prints pf_sw_prints at C1
  refine pr_ok C1 (ss_mpr L R (j3 32 (by omega) (by omega) (by omega)) (j3 33 (by omega) (by omega) (by omega)) (j3 35 (by omega) (by omega) (by omega)) a) ?_ (pc_RK j3 R) (j3 0 (by omega) (by omega) (by omega)) (j3 0 (by omega) (by omega) (by omega))
  have hb := pc_c80 (hi 33) (hi 2)
  rcases pc_prE (x := a) hb 80 0 rfl (fun j hj => by omega) with ⟨j, hj, f, e, v⟩ | ⟨no, v⟩
  · rw [v]
    obtain ⟨n1, n2⟩ := j2 j hj f
    have lt := pc_lt _ hj f
    have ne : ¬ a = -1 := fun q => by
      rw [q] at e
      have := congrArg Int32.toInt e
      rw [pt_nI (by omega), show (-1 : Int32).toInt = -1 by decide] at this
      omega
    rw [if_pos ne]
    unfold pf_fi_nameOf
    rw [← e, j1, if_neg (nI_pos (by omega)), if_neg (nI_ge lt (by omega)), if_neg (show ¬ (32 : Int32) ≤ nI (pc_cnt (pc_F (hi 33) (hi 2)) j) from nI_ge (b := 32) (by omega) (by omega)), pt_clamp (by omega), n1]
  · rw [v]
    by_cases q : a = -1
    · rw [if_neg (not_not_intro q), if_neg (not_not_intro q), j1]
    · rw [if_pos q, if_pos q]
      unfold pf_fi_nameOf
      rw [j1]
      by_cases n0 : a < 0
      · rw [if_pos n0]
      rw [if_neg n0]
      by_cases n1 : nI (pc_cnt (pc_F (hi 33) (hi 2)) 80) ≤ a
      · rw [if_pos n1]
      exfalso
      obtain ⟨i, hi', rfl⟩ := nI_of n0
      have lt : i < pc_cnt (pc_F (hi 33) (hi 2)) 80 := Decidable.byContradiction (fun z => n1 (nI_le (by omega) (by omega)))
      obtain ⟨j, hj, f, e⟩ := pc_sur _ 80 lt
      exact no j hj f (by rw [e])
