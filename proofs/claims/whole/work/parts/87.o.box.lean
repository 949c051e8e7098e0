/-! ===== box ===== -/
theorem px_union {C D : Int32 → Prop} {b d : Int32} (hb : px_I C b) (hd : px_I D d) : px_I (fun z => C z ∨ D z) (if px_bet d b then d else b) := by
  by_cases g : px_bet d b
  · rw [if_pos g]
    refine ⟨hd.1.imp id Or.inr, fun z hz => ?_⟩
    rcases hz with hz | hz
    · exact fun q => hb.2 z hz (px_tr q g)
    · exact hd.2 z hz
  · rw [if_neg g]
    refine ⟨hb.1.imp id Or.inl, fun z hz => ?_⟩
    rcases hz with hz | hz
    · exact hb.2 z hz
    · intro q
      by_cases w : px_bet d z
      · exact g (px_tr w q)
      · rw [px_tot w (hd.2 z hz)] at q
        exact g q
def px_rcc (l r t b i : Nat) : Bool := decide (l ≤ i % 4 ∧ i % 4 ≤ r ∧ t ≤ i / 4 ∧ i / 4 ≤ b)
def px_rc (l r t b : Nat) : Nat → Int32
  | 0 => 0
  | i + 1 => px_rc l r t b i ||| (if px_rcc l r t b i = true then 1 <<< (nI i &&& 31) else 0)
theorem px_rcn (l r t b : Nat) : ∀ n, n ≤ 16 → ∀ i, i < 32 → (bt (px_rc l r t b n) i = true ↔ i < n ∧ px_rcc l r t b i = true)
  | 0, _, i, _ => by
    show bt 0 i = true ↔ _
    rw [b_0]
    exact ⟨fun q => (by cases q), fun q => (by omega)⟩
  | n + 1, hn, i, hi => by
    have ih := px_rcn l r t b n (by omega) i hi
    unfold px_rc
    rw [b_or, Bool.or_eq_true, ih]
    by_cases g : px_rcc l r t b n = true
    · rw [if_pos g, pq_one (by omega) hi, decide_eq_true_iff]
      constructor
      · rintro (⟨h1, h2⟩ | h)
        · exact ⟨by omega, h2⟩
        · exact ⟨by omega, by rw [h]; exact g⟩
      · rintro ⟨h1, h2⟩
        by_cases q : i = n
        · exact Or.inr q
        · exact Or.inl ⟨by omega, h2⟩
    · rw [if_neg g, b_0]
      constructor
      · rintro (⟨h1, h2⟩ | h)
        · exact ⟨by omega, h2⟩
        · cases h
      · rintro ⟨h1, h2⟩
        by_cases q : i = n
        · rw [q] at h2; exact absurd h2 g
        · exact Or.inl ⟨by omega, h2⟩
theorem px_rcb (l r t b : Nat) {i : Nat} (hi : i < 16) : bt (px_rc l r t b 16) i = true ↔ px_rcc l r t b i = true := by
  rw [px_rcn l r t b 16 (Nat.le_refl _) i (by omega)]
  exact ⟨fun q => q.2, fun q => ⟨hi, q⟩⟩
theorem px_rc16 (l r t b : Nat) : pq_16 (px_rc l r t b 16) := fun i hi => by
  by_cases h32 : i < 32
  · cases e : bt (px_rc l r t b 16) i
    · rfl
    · have := ((px_rcn l r t b 16 (Nat.le_refl _) i h32).mp e).1
      omega
  · exact b_big (by omega)
def px_gbq (l r t k : Nat) : Bool := decide (l ≤ r → t ≤ k → pf_gbx (pf_gbp l r) k (if k = t then 0 else px_rc l r t (k - 1) 16) = px_rc l r t k 16)
theorem px_gbq4 : ∀ l, l < 4 → ∀ r, r < 4 → ∀ t, t < 4 → ∀ k, k < 4 → px_gbq l r t k = true := by decide +kernel
theorem px_gbx (l : Nat) (hl : l < 4) (r : Nat) (hr : r < 4) (hlr : l ≤ r) (t : Nat) (ht : t < 4) (k : Nat) (hk : k < 4) (htk : t ≤ k) : pf_gbx (pf_gbp l r) k (if k = t then 0 else px_rc l r t (k - 1) 16) = px_rc l r t k 16 := of_decide_eq_true (px_gbq4 l hl r hr t ht k hk) hlr htk
/-! the class -/
def px_Bx (f : Nat → Int32) (l r t k : Nat) (z : Int32) : Prop := ∃ b, t ≤ b ∧ b < k ∧ z = px_rc l r t b 16 ∧ pf_onb f z 6 1 = true
theorem px_Bx16 {f : Nat → Int32} {l r t k : Nat} {z : Int32} (h : px_Bx f l r t k z) : pq_16 z := by
  obtain ⟨b, _, _, rfl, _⟩ := h
  exact px_rc16 _ _ _ _
theorem px_gbi (f : Nat → Int32) {l r t : Nat} (hl : l < 4) (hr : r < 4) (hlr : l ≤ r) (ht : t < 4) {E : Int32 → Prop} (hE : ∀ z, E z → pq_16 z) : ∀ (n k : Nat) (b x : Int32), k + n = 4 → t ≤ k → x = (if k = t then 0 else px_rc l r t (k - 1) 16) → px_I (fun z => E z ∨ px_Bx f l r t k z) b → px_I (fun z => E z ∨ px_Bx f l r t 4 z) (pf_gbi f (pf_gbp l r) n k b x)
  | 0, k, b, x, hk, _, _, hb => by
    rw [show k = 4 by omega] at hb
    exact hb
  | n + 1, k, b, x, hk, htk, hx, hb => by
    unfold pf_gbi
    have ex : pf_gbx (pf_gbp l r) k x = px_rc l r t k 16 := by rw [hx]; exact px_gbx l hl r hr hlr t ht k (by omega) htk
    rw [ex]
    refine px_gbi f hl hr hlr ht hE n (k + 1) _ _ (by omega) (by omega) (by rw [if_neg (by omega)]; rfl) ?_
    by_cases g : pf_onb f (px_rc l r t k 16) 6 1 = true
    · rw [if_neg (not_not_intro g), px_cl (px_I16 (fun y hy => hy.elim (hE y) px_Bx16) hb) (px_rc16 _ _ _ _)]
      refine px_eqv (fun z => ⟨?_, ?_⟩) (px_step hb _)
      · rintro ((h | ⟨b, b1, b2, h⟩) | rfl)
        · exact Or.inl h
        · exact Or.inr ⟨b, b1, by omega, h⟩
        · exact Or.inr ⟨k, htk, by omega, rfl, g⟩
      · rintro (h | ⟨b, b1, b2, h⟩)
        · exact Or.inl (Or.inl h)
        · by_cases q : b = k
          · subst q; exact Or.inr h.1
          · exact Or.inl (Or.inr ⟨b, b1, by omega, h⟩)
    · rw [if_pos g]
      refine px_eqv (fun z => ⟨?_, ?_⟩) hb
      · rintro (h | ⟨b, b1, b2, h⟩)
        · exact Or.inl h
        · exact Or.inr ⟨b, b1, by omega, h⟩
      · rintro (h | ⟨b, b1, b2, h1, h2⟩)
        · exact Or.inl h
        · by_cases q : b = k
          · subst q; rw [h1] at h2; exact absurd h2 g
          · exact Or.inr ⟨b, b1, by omega, h1, h2⟩
theorem px_gbt (f : Nat → Int32) {l r : Nat} (hl : l < 4) (hr : r < 4) (hlr : l ≤ r) : ∀ (n t : Nat) (b : Int32), t + n = 4 → px_I (fun z => ∃ t', t' < t ∧ px_Bx f l r t' 4 z) b → px_I (fun z => ∃ t', t' < 4 ∧ px_Bx f l r t' 4 z) (pf_gbt f (pf_gbp l r) n t b)
  | 0, t, b, ht, hb => by
    rw [show t = 4 by omega] at hb
    exact hb
  | n + 1, t, b, ht, hb => by
    unfold pf_gbt
    refine px_gbt f hl hr hlr n (t + 1) _ (by omega) ?_
    have := px_gbi f hl hr hlr (t := t) (by omega) (E := fun z => ∃ t', t' < t ∧ px_Bx f l r t' 4 z) (fun z ⟨_, _, h⟩ => px_Bx16 h) (n + 1) t b 0 (by omega) (Nat.le_refl _) (by rw [if_pos rfl]) (px_eqv (fun z => ⟨Or.inl, fun h => h.elim id (fun ⟨b, b1, b2, _⟩ => by omega)⟩) hb)
    refine px_eqv (fun z => ⟨?_, ?_⟩) this
    · rintro (⟨t', h1, h2⟩ | h)
      · exact ⟨t', by omega, h2⟩
      · exact ⟨t, by omega, h⟩
    · rintro ⟨t', h1, h2⟩
      by_cases q : t' = t
      · subst q; exact Or.inr h2
      · exact Or.inl ⟨t', by omega, h2⟩
def px_Bo (f : Nat → Int32) (l r : Nat) (z : Int32) : Prop := ∃ t', t' < 4 ∧ px_Bx f l r t' 4 z
theorem px_Bo16 {f : Nat → Int32} {l r : Nat} {z : Int32} (h : px_Bo f l r z) : pq_16 z := by
  obtain ⟨_, _, h⟩ := h
  exact px_Bx16 h
theorem px_gbo (f : Nat → Int32) {l r : Nat} (hl : l < 4) (hr : r < 4) (hlr : l ≤ r) : px_I (px_Bo f l r) (pf_gbo f (pf_gbp l r)) := px_gbt f hl hr hlr 4 0 0 rfl ⟨Or.inl rfl, fun y ⟨t', h, _⟩ => by omega⟩
theorem px_gbr (f : Nat → Int32) {l : Nat} (hl : l < 4) {E : Int32 → Prop} (hE : ∀ z, E z → pq_16 z) : ∀ (n r : Nat) (b : Int32), r + n = 4 → l ≤ r → px_I (fun z => E z ∨ ∃ r', l ≤ r' ∧ r' < r ∧ px_Bo f l r' z) b → px_I (fun z => E z ∨ ∃ r', l ≤ r' ∧ r' < 4 ∧ px_Bo f l r' z) (pf_gbr f l n r b)
  | 0, r, b, hr, _, hb => by
    rw [show r = 4 by omega] at hb
    exact hb
  | n + 1, r, b, hr, hlr, hb => by
    unfold pf_gbr
    have ho := px_gbo f hl (show r < 4 by omega) hlr
    rw [px_cl (px_I16 (fun y hy => hy.elim (hE y) (fun ⟨_, _, _, h⟩ => px_Bo16 h)) hb) (px_I16 (fun y hy => px_Bo16 hy) ho)]
    refine px_gbr f hl hE n (r + 1) _ (by omega) (by omega) (px_eqv (fun z => ⟨?_, ?_⟩) (px_union hb ho))
    · rintro ((h | ⟨r', h1, h2, h3⟩) | h)
      · exact Or.inl h
      · exact Or.inr ⟨r', h1, by omega, h3⟩
      · exact Or.inr ⟨r, hlr, by omega, h⟩
    · rintro (h | ⟨r', h1, h2, h3⟩)
      · exact Or.inl (Or.inl h)
      · by_cases q : r' = r
        · subst q; exact Or.inr h3
        · exact Or.inl (Or.inr ⟨r', h1, by omega, h3⟩)
theorem px_gbl (f : Nat → Int32) : ∀ (n l : Nat) (b : Int32), l + n = 4 → px_I (fun z => ∃ l' r', l' < l ∧ l' ≤ r' ∧ r' < 4 ∧ px_Bo f l' r' z) b → px_I (fun z => ∃ l' r', l' < 4 ∧ l' ≤ r' ∧ r' < 4 ∧ px_Bo f l' r' z) (pf_gbl f n l b)
  | 0, l, b, hl, hb => by
    rw [show l = 4 by omega] at hb
    exact hb
  | n + 1, l, b, hl, hb => by
    unfold pf_gbl
    have := px_gbr f (l := l) (by omega) (E := fun z => ∃ l' r', l' < l ∧ l' ≤ r' ∧ r' < 4 ∧ px_Bo f l' r' z) (fun z ⟨_, _, _, _, _, h⟩ => px_Bo16 h) (n + 1) l b (by omega) (Nat.le_refl _) (px_eqv (fun z => ⟨Or.inl, fun h => h.elim id (fun ⟨r', h1, h2, _⟩ => by omega)⟩) hb)
    refine px_gbl f n (l + 1) _ (by omega) (px_eqv (fun z => ⟨?_, ?_⟩) this)
    · rintro (⟨l', r', h1, h2⟩ | ⟨r', h1, h2, h3⟩)
      · exact ⟨l', r', by omega, h2⟩
      · exact ⟨l, r', by omega, h1, h2, h3⟩
    · rintro ⟨l', r', h1, h2, h3, h4⟩
      by_cases q : l' = l
      · subst q; exact Or.inr ⟨r', h2, h3, h4⟩
      · exact Or.inl ⟨l', r', by omega, h2, h3, h4⟩
theorem px_gb (f : Nat → Int32) : px_I (fun z => ∃ l' r', l' < 4 ∧ l' ≤ r' ∧ r' < 4 ∧ px_Bo f l' r' z) (pf_gb f) := px_gbl f 4 0 0 rfl ⟨Or.inl rfl, fun y ⟨l', r', h, _⟩ => by omega⟩
/-! the model -/
def px_P (a b i : Nat) : Bool := px_rcc (a % 4) (b % 4) (a / 4) (b / 4) i
def px_ms (a b : Nat) : Nat → Int32
  | 0 => 0
  | n + 1 => px_ms a b n ||| (if ¬ px_P a b (a + n) = true then (0 : Int32) else (1 <<< (nI (a + n) &&& 31)))
def px_al (m : Nat → Int32) (a b : Nat) : Nat → Bool
  | 0 => decide (¬ m a ≤ 0)
  | n + 1 => px_al m a b n && (decide (¬ px_P a b (a + n) = true) || decide (m (a + n) = m a))
def px_bs (m : Nat → Int32) (a b : Nat) (x : Int32) : Int32 := if px_al m a b (b - a + 1) = true ∧ ¬ px_ms a b (b - a + 1) = 0 then (if px_bet (px_ms a b (b - a + 1)) x then px_ms a b (b - a + 1) else x) else x
def px_mbi (m : Nat → Int32) (a : Nat) : Nat → Nat → Int32 → Int32
  | 0, _, x => x
  | n + 1, b, x => px_mbi m a n (b + 1) (px_bs m a b x)
def px_mbo (m : Nat → Int32) : Nat → Nat → Int32 → Int32
  | 0, _, x => x
  | n + 1, a, x => px_mbo m n (a + 1) (px_mbi m a (n + 1) a x)
theorem px_eQ {a b i : Nat} (ha : a < 100) (hb : b < 100) (hi : i < 100) : (¬ (¬ ((nI a / 4) ≤ (nI i / 4) ∧ (nI i / 4) ≤ (nI b / 4))) ∧ (¬ (¬ ((nI a - nI a / 4 * 4) ≤ (nI i - nI i / 4 * 4) ∧ (nI i - nI i / 4 * 4) ≤ (nI b - nI b / 4 * 4))))) ↔ px_P a b i = true := by
  have m4 : ∀ x, x < 100 → nI x - nI x / 4 * 4 = nI (x % 4) := fun x hx => pt_nmod (d := 4) (by omega) (by omega) (by omega)
  have d4 : ∀ x, x < 100 → nI x / 4 = nI (x / 4) := fun x hx => pt_ndiv (d := 4) (by omega) (by omega) (by omega)
  rw [m4 a ha, m4 b hb, m4 i hi, d4 a ha, d4 b hb, d4 i hi]
  unfold px_P px_rcc
  rw [decide_eq_true_iff, Decidable.not_not, Decidable.not_not, nI_leI (by omega) (by omega), nI_leI (by omega) (by omega), nI_leI (by omega) (by omega), nI_leI (by omega) (by omega)]
  exact ⟨fun ⟨⟨h1, h2⟩, h3, h4⟩ => ⟨h3, h4, h1, h2⟩, fun ⟨h1, h2, h3, h4⟩ => ⟨⟨h3, h4⟩, h1, h2⟩⟩
theorem px_e1 {Q P : Prop} [Decidable Q] [Decidable P] (h : Q ↔ P) (x y : Int32) : (if ¬ Q then x else y) = if ¬ P then x else y := by
  by_cases p : P
  · rw [if_neg (not_not_intro (h.mpr p)), if_neg (not_not_intro p)]
  · rw [if_pos (fun q => p (h.mp q)), if_pos p]
theorem px_e2 {Q : Prop} [Decidable Q] {al p : Bool} (h : Q ↔ p = true) {u v : Int32} : pz (¬ (pz (al = true) = 0) ∧ ((¬ Q) ∨ (¬ (¬ u = v)))) = pz ((al && (decide (¬ p = true) || decide (u = v))) = true) := by
  refine pc_pzb ?_
  rw [Bool.and_eq_true, Bool.or_eq_true, decide_eq_true_iff, decide_eq_true_iff, h, Decidable.not_not]
  cases al
  · rw [pz_f (by decide)]
    exact ⟨fun q => (by cases q.1), fun q => absurd rfl q.1⟩
  · rw [pz_t rfl]
    exact ⟨fun q => ⟨by decide, q.2⟩, fun q => ⟨rfl, q.2⟩⟩
theorem px_e3 (al : Bool) (x5 x2 : Int32) : (if pz (al = true) = 0 then x2 else (if x5 = 0 then x2 else (if ¬ (((pf_bits x2 16) < (pf_bits x5 16)) ∨ (¬ (¬ (pf_bits x5 16) = (pf_bits x2 16)) ∧ (¬ (x2 ≤ x5)))) then x2 else x5))) = if al = true ∧ ¬ x5 = 0 then (if px_bet x5 x2 then x5 else x2) else x2 := by
  have e : (((pf_bits x2 16) < (pf_bits x5 16)) ∨ (¬ (¬ (pf_bits x5 16) = (pf_bits x2 16)) ∧ (¬ (x2 ≤ x5)))) ↔ px_bet x5 x2 := by
    unfold px_bet
    rw [Decidable.not_not, Int32.not_le]
  rw [px_e1 e]
  cases al
  · rw [pz_f (by decide), if_pos rfl, if_neg (fun q => by cases q.1)]
  · rw [pz_t rfl, if_neg (by decide)]
    by_cases g : x5 = 0
    · rw [if_pos g, if_neg (fun q => q.2 g)]
    · rw [if_neg g, if_pos (show true = true ∧ ¬ x5 = 0 from ⟨rfl, g⟩)]
      by_cases w : px_bet x5 x2
      · rw [if_neg (not_not_intro w), if_pos w]
      · rw [if_pos w, if_neg w]
theorem ss_mbox (x : Int32) (L : Nat) (hi : Nat → Nat → Int32) (hl : Nat → Nat → Int64) (v : 0 ≤ x ∧ x ≤ 1) : pe_C pj_m135 [.ref 32, .int x] (pj_SH L, hi, hl) (some (.int (if ¬ x = 0 then px_mbo (ph_asN hi 34) 16 0 0 else pf_bits (px_mbo (ph_asN hi 34) 16 0 0) 16))) (pj_SH L, ph_asN hi, hl) := by
  refine (pb_mo_box_0.trans (if_pos v)).mpr ?_
  generalize ph_asN hi = h
  have in3 : ∀ (o : Option Value × pj_H) (x2 : Int32) (a b : Nat), a ≤ b → b < 16 → (∀ y7 a8, pe_E pj_m135 163 [some (.ref 32), some (.int x), some (.int x2), some (.int (nI a)), some (.int (nI b)), some (.int (px_ms a b (b - a + 1))), some (.int (pz (px_al (h 34) a b (b - a + 1) = true))), some (.int y7), a8] [] (pj_SH L, h, hl) o) → ∀ (n c : Nat) (a8 : Option Value), n + c = b - a + 1 → pe_E pj_m135 58 [some (.ref 32), some (.int x), some (.int x2), some (.int (nI a)), some (.int (nI b)), some (.int (px_ms a b c)), some (.int (pz (px_al (h 34) a b c = true))), some (.int (nI (a + c))), a8] [] (pj_SH L, h, hl) o := by
    intro o x2 a b hab hb K n
    induction n with
    | zero =>
      intro c a8 hc
      rw [show c = b - a + 1 by omega, show a + (b - a + 1) = b + 1 by omega]
      have lt : nI b < nI (b + 1) := nI_lt (by omega) (by omega)
      exact ((pb_mo_box_58 (fun q => absurd lt q) (fun q => absurd lt q)).trans (if_pos lt)).mpr (K _ _)
    | succ n ih =>
      intro c a8 hc
      refine ((pb_mo_box_58 (fun _ _ _ => pt_ixN (by omega) (by omega)) (fun _ _ _ => pt_ixN (by omega) (by omega))).trans (if_neg (nI_nlt (by omega) (by omega)))).mpr ?_
      rw [px_e1 (px_eQ (a := a) (b := b) (i := a + c) (by omega) (by omega) (by omega)), px_e2 (px_eQ (a := a) (b := b) (i := a + c) (by omega) (by omega) (by omega)), pt_clamp (show a + c < 2147483648 by omega), pt_clamp (show a < 2147483648 by omega), nI_1]
      exact ih (c + 1) _ (by omega)
  have in2 : ∀ (o : Option Value × pj_H) (a : Nat), a < 16 → ∀ (n b : Nat) (x2 : Int32) (a5 a6 a7 a8 : Option Value), b + n = 16 → a ≤ b → (∀ y4 a5 a6 a7 a8, pe_E pj_m135 228 [some (.ref 32), some (.int x), some (.int (px_mbi (h 34) a n b x2)), some (.int (nI a)), some (.int y4), a5, a6, a7, a8] [] (pj_SH L, h, hl) o) → pe_E pj_m135 29 [some (.ref 32), some (.int x), some (.int x2), some (.int (nI a)), some (.int (nI b)), a5, a6, a7, a8] [] (pj_SH L, h, hl) o := by
    intro o a ha n
    induction n with
    | zero =>
      intro b x2 a5 a6 a7 a8 hb hab K
      rw [show b = 16 by omega]
      exact ((pb_mo_box_29 (fun q => absurd (Int32.le_refl _) q)).trans (if_pos (Int32.le_refl _))).mpr (K _ _ _ _ _)
    | succ n ih =>
      intro b x2 a5 a6 a7 a8 hb hab K
      refine ((pb_mo_box_29 (fun _ => pt_ixN (by omega) (by omega))).trans (if_neg (show ¬ (16 : Int32) ≤ nI b from nI_ge (b := 16) (by omega) (by omega)))).mpr ?_
      rw [pt_clamp (by omega)]
      have e0 : pz (¬ (h 34 a ≤ 0)) = pz (px_al (h 34) a b 0 = true) := pc_pzb decide_eq_true_iff
      rw [e0]
      refine in3 o x2 a b hab (by omega) (fun y7 a8 => pb_mo_box_163.mpr ?_) (b - a + 1) 0 _ rfl
      rw [px_e3, nI_1]
      exact ih (b + 1) _ _ _ _ _ (by omega) (by omega) K
  have out : ∀ (n a : Nat) (x2 : Int32) (a4 a5 a6 a7 a8 : Option Value), a + n = 16 → pe_E pj_m135 20 [some (.ref 32), some (.int x), some (.int x2), some (.int (nI a)), a4, a5, a6, a7, a8] [] (pj_SH L, h, hl) (some (.int (if ¬ x = 0 then px_mbo (h 34) n a x2 else pf_bits (px_mbo (h 34) n a x2) 16)), (pj_SH L, h, hl)) := by
    intro n
    induction n with
    | zero =>
      intro a x2 a4 a5 a6 a7 a8 ha
      rw [show a = 16 by omega]
      exact (pb_mo_box_20.trans ((if_pos (Int32.le_refl _)).trans pb_mo_box_234)).mpr rfl
    | succ n ih =>
      intro a x2 a4 a5 a6 a7 a8 ha
      refine (pb_mo_box_20.trans (if_neg (show ¬ (16 : Int32) ≤ nI a from nI_ge (b := 16) (by omega) (by omega)))).mpr ?_
      refine in2 _ a (by omega) (n + 1) a x2 _ _ _ _ (by omega) (Nat.le_refl _) (fun y4 a5 a6 a7 a8 => pb_mo_box_228.mpr ?_)
      rw [nI_1]
      exact ih (a + 1) _ _ _ _ _ _ (by omega)
  exact out 16 0 0 none none none none none rfl
theorem px_alC {m m' : Nat → Int32} (h : ∀ c, c < 16 → m' c = m c) {a b : Nat} (ha : a < 16) : ∀ n, a + n ≤ 16 → px_al m' a b n = px_al m a b n
  | 0, _ => by unfold px_al; rw [h a ha]
  | n + 1, hn => by
    unfold px_al
    rw [px_alC h ha n (by omega), h a ha, h (a + n) (by omega)]
theorem px_mbiC {m m' : Nat → Int32} (h : ∀ c, c < 16 → m' c = m c) {a : Nat} (ha : a < 16) : ∀ (n b : Nat) (x : Int32), b + n = 16 → a ≤ b → px_mbi m' a n b x = px_mbi m a n b x
  | 0, _, _, _, _ => rfl
  | n + 1, b, x, hb, hab => by
    unfold px_mbi
    have e : px_bs m' a b x = px_bs m a b x := by
      unfold px_bs
      rw [px_alC h ha _ (by omega)]
    rw [e]
    exact px_mbiC h ha n (b + 1) _ (by omega) (by omega)
theorem px_mboC {m m' : Nat → Int32} (h : ∀ c, c < 16 → m' c = m c) : ∀ (n a : Nat) (x : Int32), a + n = 16 → px_mbo m' n a x = px_mbo m n a x
  | 0, _, _, _ => rfl
  | n + 1, a, x, ha => by
    unfold px_mbo
    rw [px_mbiC h (by omega) (n + 1) a x (by omega) (Nat.le_refl _)]
    exact px_mboC h n (a + 1) _ (by omega)
theorem px_msE : ∀ a, a < 16 → ∀ b, b < 16 → a ≤ b → px_ms a b (b - a + 1) = px_rc (a % 4) (b % 4) (a / 4) (b / 4) 16 := by decide +kernel
def px_Mb (m : Nat → Int32) (a b : Nat) (z : Int32) : Prop := px_al m a b (b - a + 1) = true ∧ ¬ px_ms a b (b - a + 1) = 0 ∧ z = px_ms a b (b - a + 1)
theorem px_bsI {m : Nat → Int32} {a b : Nat} {C : Int32 → Prop} {x : Int32} (h : px_I C x) : px_I (fun z => C z ∨ px_Mb m a b z) (px_bs m a b x) := by
  unfold px_bs
  by_cases g : px_al m a b (b - a + 1) = true ∧ ¬ px_ms a b (b - a + 1) = 0
  · rw [if_pos g]
    refine px_eqv (fun z => ⟨?_, ?_⟩) (px_step h _)
    · rintro (h | h)
      · exact Or.inl h
      · exact Or.inr ⟨g.1, g.2, h⟩
    · rintro (h | ⟨_, _, h⟩)
      · exact Or.inl h
      · exact Or.inr h
  · rw [if_neg g]
    exact px_eqv (fun z => ⟨Or.inl, fun q => q.elim id (fun ⟨h1, h2, _⟩ => absurd ⟨h1, h2⟩ g)⟩) h
theorem px_mbiI {m : Nat → Int32} {a : Nat} {C : Int32 → Prop} : ∀ (n b : Nat) (x : Int32), b + n = 16 → px_I (fun z => C z ∨ ∃ b', a ≤ b' ∧ b' < b ∧ px_Mb m a b' z) x → a ≤ b → px_I (fun z => C z ∨ ∃ b', a ≤ b' ∧ b' < 16 ∧ px_Mb m a b' z) (px_mbi m a n b x)
  | 0, b, x, hb, h, _ => by
    rw [show b = 16 by omega] at h
    exact h
  | n + 1, b, x, hb, h, hab => by
    unfold px_mbi
    refine px_mbiI n (b + 1) _ (by omega) (px_eqv (fun z => ⟨?_, ?_⟩) (px_bsI (m := m) (a := a) (b := b) h)) (by omega)
    · rintro ((h | ⟨b', h1, h2, h3⟩) | h)
      · exact Or.inl h
      · exact Or.inr ⟨b', h1, by omega, h3⟩
      · exact Or.inr ⟨b, hab, by omega, h⟩
    · rintro (h | ⟨b', h1, h2, h3⟩)
      · exact Or.inl (Or.inl h)
      · by_cases q : b' = b
        · subst q; exact Or.inr h3
        · exact Or.inl (Or.inr ⟨b', h1, by omega, h3⟩)
theorem px_mboI {m : Nat → Int32} : ∀ (n a : Nat) (x : Int32), a + n = 16 → px_I (fun z => ∃ a' b', a' < a ∧ a' ≤ b' ∧ b' < 16 ∧ px_Mb m a' b' z) x → px_I (fun z => ∃ a' b', a' < 16 ∧ a' ≤ b' ∧ b' < 16 ∧ px_Mb m a' b' z) (px_mbo m n a x)
  | 0, a, x, ha, h => by
    rw [show a = 16 by omega] at h
    exact h
  | n + 1, a, x, ha, h => by
    unfold px_mbo
    have := px_mbiI (m := m) (a := a) (C := fun z => ∃ a' b', a' < a ∧ a' ≤ b' ∧ b' < 16 ∧ px_Mb m a' b' z) (n + 1) a x (by omega) (px_eqv (fun z => ⟨Or.inl, fun q => q.elim id (fun ⟨b', h1, h2, _⟩ => by omega)⟩) h) (Nat.le_refl _)
    refine px_mboI n (a + 1) _ (by omega) (px_eqv (fun z => ⟨?_, ?_⟩) this)
    · rintro (⟨a', b', h1, h2⟩ | ⟨b', h1, h2, h3⟩)
      · exact ⟨a', b', by omega, h2⟩
      · exact ⟨a, b', by omega, h1, h2, h3⟩
    · rintro ⟨a', b', h1, h2, h3, h4⟩
      by_cases q : a' = a
      · subst q; exact Or.inr ⟨b', h2, h3, h4⟩
      · exact Or.inl ⟨a', b', by omega, h2, h3, h4⟩
/-! the same boxes -/
theorem px_onb {f : Nat → Int32} {x : Int32} : ∀ (n k : Nat), pf_onb f x n k = true ↔ ∃ j, k ≤ j ∧ j < k + n ∧ (x &&& ((pf_sc_cellsOfN (nI j) f) ^^^ (-1))) = 0
  | 0, k => ⟨fun q => (by cases q), fun ⟨j, h1, h2, _⟩ => (by omega)⟩
  | n + 1, k => by
    unfold pf_onb
    by_cases g : (x &&& ((pf_sc_cellsOfN (nI k) f) ^^^ (-1))) = 0
    · rw [if_neg (not_not_intro g)]
      exact ⟨fun _ => ⟨k, by omega, by omega, g⟩, fun _ => rfl⟩
    · rw [if_pos g, px_onb n (k + 1)]
      constructor
      · rintro ⟨j, h1, h2, h3⟩; exact ⟨j, by omega, by omega, h3⟩
      · rintro ⟨j, h1, h2, h3⟩
        by_cases q : j = k
        · subst q; exact absurd h3 g
        · exact ⟨j, by omega, by omega, h3⟩
theorem px_mono {f m : Nat → Int32} (hf : ∀ k, k < 7 → f k = pf_ones m (nI k) 16) {x : Int32} (hx : pq_16 x) : pf_onb f x 6 1 = true ↔ ∃ j, 1 ≤ j ∧ j < 7 ∧ ∀ i, i < 16 → bt x i = true → m i = nI j := by
  rw [px_onb]
  have e : ∀ j, j < 7 → ((x &&& ((pf_sc_cellsOfN (nI j) f) ^^^ (-1))) = 0 ↔ ∀ i, i < 16 → bt x i = true → m i = nI j) := by
    intro j hj
    rw [pf_celN hj, hf j hj, pc_and0]
    constructor
    · intro h i hi hb
      have := h i (by omega) hb
      rw [pq_not _ (by omega)] at this
      refine (pq_onesb m (nI j) hi).mp ?_
      cases q : bt (pf_ones m (nI j) 16) i
      · rw [q] at this; exact absurd rfl this
      · rfl
    · intro h i hi hb
      have lt : i < 16 := Decidable.byContradiction (fun q => by rw [hx i (by omega)] at hb; cases hb)
      rw [pq_not _ hi, (pq_onesb m (nI j) lt).mpr (h i lt hb)]
      exact fun q => by cases q
  constructor
  · rintro ⟨j, h1, h2, h3⟩; exact ⟨j, h1, by omega, (e j (by omega)).mp h3⟩
  · rintro ⟨j, h1, h2, h3⟩; exact ⟨j, h1, by omega, (e j (by omega)).mpr h3⟩
theorem px_alE {m : Nat → Int32} {a b : Nat} : ∀ n, px_al m a b n = true ↔ ¬ m a ≤ 0 ∧ ∀ c, c < n → px_P a b (a + c) = true → m (a + c) = m a
  | 0 => by
    unfold px_al
    rw [decide_eq_true_iff]
    exact ⟨fun h => ⟨h, fun c hc => by omega⟩, fun h => h.1⟩
  | n + 1 => by
    unfold px_al
    rw [Bool.and_eq_true, px_alE n, Bool.or_eq_true, decide_eq_true_iff, decide_eq_true_iff]
    constructor
    · rintro ⟨⟨h1, h2⟩, h3⟩
      refine ⟨h1, fun c hc hp => ?_⟩
      by_cases q : c = n
      · subst q; exact h3.elim (fun w => absurd hp w) id
      · exact h2 c (by omega) hp
    · rintro ⟨h1, h2⟩
      refine ⟨⟨h1, fun c hc => h2 c (by omega)⟩, ?_⟩
      by_cases q : px_P a b (a + n) = true
      · exact Or.inr (h2 n (by omega) q)
      · exact Or.inl q
theorem px_same {f m : Nat → Int32} (M : ∀ c, c < 16 → ∃ k, k < 7 ∧ m c = nI k) (hf : ∀ k, k < 7 → f k = pf_ones m (nI k) 16) (z : Int32) : (∃ l' r', l' < 4 ∧ l' ≤ r' ∧ r' < 4 ∧ px_Bo f l' r' z) ↔ ∃ a' b', a' < 16 ∧ a' ≤ b' ∧ b' < 16 ∧ px_Mb m a' b' z := by
  constructor
  · rintro ⟨l, r, hl, hlr, hr, t, ht, b, htb, hb, rfl, ho⟩
    have ea : px_ms (4 * t + l) (4 * b + r) (4 * b + r - (4 * t + l) + 1) = px_rc l r t b 16 := by
      rw [px_msE (4 * t + l) (by omega) (4 * b + r) (by omega) (by omega)]
      rw [show (4 * t + l) % 4 = l by omega, show (4 * b + r) % 4 = r by omega, show (4 * t + l) / 4 = t by omega, show (4 * b + r) / 4 = b by omega]
    have eP : ∀ i, px_P (4 * t + l) (4 * b + r) i = px_rcc l r t b i := by
      intro i
      unfold px_P
      rw [show (4 * t + l) % 4 = l by omega, show (4 * b + r) % 4 = r by omega, show (4 * t + l) / 4 = t by omega, show (4 * b + r) / 4 = b by omega]
    obtain ⟨j, j1, j2, j3⟩ := (px_mono hf (px_rc16 l r t b)).mp ho
    have a1 : bt (px_rc l r t b 16) (4 * t + l) = true := (px_rcb l r t b (by omega)).mpr (decide_eq_true ⟨by omega, by omega, by omega, by omega⟩)
    have am := j3 (4 * t + l) (by omega) a1
    refine ⟨4 * t + l, 4 * b + r, by omega, by omega, by omega, (px_alE _).mpr ⟨?_, fun c hc hp => ?_⟩, ?_, ea.symm⟩
    · rw [am]; exact nI_nle (by omega) (by omega)
    · rw [am]
      refine j3 _ (by omega) ((px_rcb l r t b (by omega)).mpr ?_)
      rw [← eP]
      exact hp
    · rw [ea]
      intro q
      rw [q, b_0] at a1
      cases a1
  · rintro ⟨a, b, ha, hab, hb, h1, h2, h3⟩
    rw [px_msE a ha b hb hab] at h2 h3
    obtain ⟨p, q⟩ := (px_alE _).mp h1
    have lr : a % 4 ≤ b % 4 := Decidable.byContradiction (fun w => h2 (pq_ext16 (px_rc16 _ _ _ _) pq_160 (fun i hi => by
      rw [px_rcb _ _ _ _ hi, b_0]
      unfold px_rcc
      rw [decide_eq_true_iff]
      exact ⟨fun z => (by omega), fun z => (by cases z)⟩)))
    refine ⟨a % 4, b % 4, by omega, lr, by omega, a / 4, by omega, b / 4, by omega, by omega, h3, ?_⟩
    rw [h3]
    obtain ⟨k, hk, ek⟩ := M a ha
    refine (px_mono hf (px_rc16 _ _ _ _)).mpr ⟨k, ?_, hk, fun i hi hbi => ?_⟩
    · rcases Nat.eq_zero_or_pos k with w | w
      · subst w; rw [ek] at p; exact absurd (Int32.le_refl _) p
      · exact w
    · have pi := (px_rcb _ _ _ _ hi).mp hbi
      have pi2 := of_decide_eq_true pi
      have := q (i - a) (by omega) (by rw [show a + (i - a) = i by omega]; exact pi)
      rw [show a + (i - a) = i by omega] at this
      rw [this, ek]
theorem pk_box {L : Nat} (a : Int32) : pr_OK pr_R L pj_m80 pj_m135 [.int a] := by
  intro hi hl R
  obtain ⟨M, T, _⟩ := pr_Rin R
  have C1 := sa_sw_box a L hi hl
  unfold pf_sw_box at C1
  by_cases v : 0 ≤ a ∧ a ≤ 1
  case neg =>
    rw [if_pos v] at C1
    exact pr_ok C1 ((pb_mo_box_0.trans (if_neg v)).mpr rfl) rfl R rfl rfl
  rw [if_neg (not_not_intro v)] at C1
  refine pr_ok C1 (ss_mbox a L hi hl v) ?_ (pr_RK (px_asK hi) R) rfl rfl
  rw [px_mboC (fun c hc => px_as34 hi (by omega)) 16 0 0 rfl]
  have i1 := px_mboI (m := hi 33) 16 0 0 rfl ⟨Or.inl rfl, fun y ⟨a', _, h, _⟩ => by omega⟩
  have i2 := px_gb (hi 3)
  have c16 : ∀ z, (∃ l' r', l' < 4 ∧ l' ≤ r' ∧ r' < 4 ∧ px_Bo (hi 3) l' r' z) → pq_16 z := fun z ⟨_, _, _, _, _, h⟩ => px_Bo16 h
  have e : px_mbo (hi 33) 16 0 0 = pf_gb (hi 3) := (px_uni c16 i2 (px_eqv (fun z => (px_same M.1 T.1 z).symm) i1)).symm
  unfold pf_sw_countOrSet
  rw [e, pq_bc16 (px_I16 c16 i2)]
