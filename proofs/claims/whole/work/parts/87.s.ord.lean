/-! ===== all orders of some of five cards: by how many, then rising ===== -/
def po_N : Nat := 30475904701640402939155082945909803038235814716126083078657036131961669227627792384918172418090029772186479459921843449293249741684755166470103594975763975728931161192060310926079364830761385336119220064873047969699691698951995651327885232844781108705246772597604541175154458730364226972052409245942922224243162014569166004632776620655435856334338801600555714186162748783406454791751246729549646738405368655513967712282486445274743441853468735247294121298238446273240335551548546629532031098282557037078931834101686243111878998938913572300355272387710888590116930860612723236063420937480944792237747801825372460559201261370673993425182899190910508424169266765018421512651797345913227739293266170731158006283300042664922839789237176424752563979612612021519311529606651843131341930381834988153994208716380329865933523797971760457531402563836095911950771794291682039891351867322345218209093152387350868813902601525325403181126809661608431930939807732175867561294463079764972172497358226619956235859917079737048375068185534772023583164818556836940905336803024673928246078836221351703505058328687008655930736949434386412033893470571427346457646880779921269471017294800674575351808000
/-- the j-th order's cards, by fives -/
def po_T (j : Nat) : Nat := po_N / 2 ^ (12 * j) % 4096
def po_lv (j : Nat) : Nat := if j < 1 then 0 else if j < 6 then 1 else if j < 26 then 2 else if j < 86 then 3 else if j < 206 then 4 else 5
def po_off (m : Nat) : Nat := if m < 1 then 0 else if m < 2 then 1 else if m < 3 then 6 else if m < 4 then 26 else if m < 5 then 86 else if m < 6 then 206 else 326
/-- the cards in an order, as bits -/
def po_u : Nat → Nat → Nat
  | 0, _ => 0
  | m + 1, code => po_u m (code / 5) ||| 2 ^ (code % 5)
def po_v : Nat → Nat → Bool
  | 0, _ => true
  | m + 1, code => po_v m (code / 5) && !(po_u m (code / 5)).testBit (code % 5)
/-- the order in figures, a 1 ahead -/
def po_o : Nat → Nat → Nat
  | 0, _ => 1
  | m + 1, code => 10 * po_o m (code / 5) + code % 5
/-- cards below c that are not among them -/
def po_un (u : Nat) : Nat → Nat
  | 0 => 0
  | c + 1 => po_un u c + (if u.testBit c = true then 0 else 1)
/-- how many orders there are when the i-th has been followed by cards below c -/
def po_k (i c : Nat) : Nat := po_off (po_lv i + 1) + (i - po_off (po_lv i)) * (5 - po_lv i) + po_un (po_u (po_lv i) (po_T i)) c
/-- how many orders of m cards are below this one -/
def po_r : Nat → Nat → Nat
  | 0, code => code
  | m + 1, code => po_r m (code / 5) * (5 - m) + (if po_v m (code / 5) = true then po_un (po_u m (code / 5)) (code % 5) else 0)
def po_ix (m code : Nat) : Nat := po_off m + po_r m code
abbrev po_P1c (i c : Nat) : Prop := (po_u (po_lv i) (po_T i)).testBit c = false → po_k i c < 326 ∧ po_T (po_k i c) = 5 * po_T i + c ∧ po_lv (po_k i c) = po_lv i + 1
def po_q1c (i c : Nat) : Bool := decide (po_P1c i c)
def po_all (f : Nat → Bool) : Nat → Bool
  | 0 => true
  | n + 1 => f n && po_all f n
theorem po_allE {f : Nat → Bool} : ∀ {n : Nat}, po_all f n = true → ∀ i, i < n → f i = true
  | 0, _, i, hi => by omega
  | n + 1, h, i, hi => by
    have h : (f n && po_all f n) = true := h
    rw [Bool.and_eq_true] at h
    by_cases q : i = n
    · subst q; exact h.1
    · exact po_allE h.2 i (by omega)
def po_q1 (i : Nat) : Bool := decide (i < po_k i 0) && decide (po_k i 5 = po_k (i + 1) 0) && po_all (po_q1c i) 5
theorem po_F1a : ∀ a, a < 17 → ∀ b, b < 20 → 20 * a + b < 326 → po_q1 (20 * a + b) = true := by decide +kernel
theorem po_F1 {i : Nat} (h : i < 326) : i < po_k i 0 ∧ po_k i 5 = po_k (i + 1) 0 ∧ ∀ c, c < 5 → po_P1c i c := by
  have := po_F1a (i / 20) (by omega) (i % 20) (by omega)
  rw [show 20 * (i / 20) + i % 20 = i by omega] at this
  have := this h
  unfold po_q1 at this
  rw [Bool.and_eq_true, Bool.and_eq_true] at this
  exact ⟨of_decide_eq_true this.1.1, of_decide_eq_true this.1.2, fun c hc => of_decide_eq_true (po_allE this.2 c hc)⟩
abbrev po_P2 (m code : Nat) : Prop := (po_v m code = true → po_ix m code < 326 ∧ po_T (po_ix m code) = code ∧ po_lv (po_ix m code) = m ∧ po_ix m (code + 1) = po_ix m code + 1) ∧ (po_v m code = false → po_ix m (code + 1) = po_ix m code)
def po_q2 (m code : Nat) : Bool := decide (po_P2 m code)
def po_q2a (m a : Nat) : Bool := po_all (fun b => !decide (50 * a + b < 5 ^ m) || po_q2 m (50 * a + b)) 50
theorem po_F2a : ∀ m, m < 6 → ∀ a, a < 63 → po_q2a m a = true := by decide +kernel
theorem po_5le {m : Nat} (h : m < 6) : 5 ^ m ≤ 3125 := Nat.pow_le_pow_right (n := 5) (by decide) (show m ≤ 5 by omega)
theorem po_F2 {m code : Nat} (hm : m < 6) (h : code < 5 ^ m) : po_P2 m code := by
  have := po_5le hm
  have this := po_allE (po_F2a m hm (code / 50) (by omega)) (code % 50) (by omega)
  have this : (!decide (50 * (code / 50) + code % 50 < 5 ^ m) || po_q2 m (50 * (code / 50) + code % 50)) = true := this
  rw [show 50 * (code / 50) + code % 50 = code by omega, decide_eq_true h, Bool.not_true, Bool.false_or] at this
  exact of_decide_eq_true this
theorem po_F3 : ∀ m, m < 6 → po_ix m (5 ^ m) = po_ix (m + 1) 0 := by decide +kernel
abbrev po_P4 (j : Nat) : Prop := pf_ord (po_lv j) 0 1 (nI (po_T j)) = nI (po_o (po_lv j) (po_T j)) ∧ pf_ci 5 0 (nI (po_o (po_lv j) (po_T j)) / 10) = nI (po_lv j) ∧ ¬ nI (po_o (po_lv j) (po_T j)) = -6
theorem po_F4a : ∀ a, a < 17 → ∀ b, b < 20 → 20 * a + b < 326 → po_P4 (20 * a + b) := by decide +kernel
theorem po_F4 {j : Nat} (h : j < 326) : po_P4 j := by
  have := po_F4a (j / 20) (by omega) (j % 20) (by omega)
  rw [show 20 * (j / 20) + j % 20 = j by omega] at this
  exact this h
theorem po_ul : ∀ m code, po_u m code < 32
  | 0, _ => by unfold po_u; omega
  | m + 1, code => by
    unfold po_u
    exact Nat.or_lt_two_pow (n := 5) (po_ul m (code / 5)) (Nat.pow_lt_pow_right (by decide) (by omega))
theorem po_uS (m code c : Nat) (hc : c < 5) : po_u (m + 1) (5 * code + c) = po_u m code ||| 2 ^ c := by
  show po_u m ((5 * code + c) / 5) ||| 2 ^ ((5 * code + c) % 5) = _
  rw [show (5 * code + c) % 5 = c by omega, show (5 * code + c) / 5 = code by omega]
theorem po_oS (m code c : Nat) (hc : c < 5) : po_o (m + 1) (5 * code + c) = 10 * po_o m code + c := by
  show 10 * po_o m ((5 * code + c) / 5) + (5 * code + c) % 5 = _
  rw [show (5 * code + c) % 5 = c by omega, show (5 * code + c) / 5 = code by omega]
theorem po_ub : ∀ u, u < 32 → ∀ c, c < 5 → (nI u ||| (1 <<< (nI c &&& 31))) = nI (u ||| 2 ^ c) := by decide +kernel
theorem po_utb {u c : Nat} (hc : c < 5) : (pf_has (nI u) (nI c)) ↔ u.testBit c = true := by rw [pq_has _ (by omega), pq_nI _ (by omega)]
theorem po_utc {u c : Nat} (hc : c < 5) : (((nI u >>> (nI c &&& 31)) &&& 1) = 0) ↔ u.testBit c = false := by
  rw [pq_at _ (by omega), pq_nI _ (by omega)]
  cases u.testBit c
  · exact ⟨fun _ => rfl, fun _ => rfl⟩
  · exact ⟨fun q => absurd q (by decide), fun q => (by cases q)⟩
/-! how many unlike ones; the first one -/
def po_in (W : Nat → Int64) : Nat → Int64 → Bool
  | 0, _ => false
  | j + 1, w => po_in W j w || decide (W j = w)
def po_d (W : Nat → Int64) : Nat → Nat
  | 0 => 0
  | j + 1 => po_d W j + (if po_in W j (W j) = true then 0 else 1)
theorem po_inE (W : Nat → Int64) (w : Int64) : ∀ j, po_in W j w = true ↔ ∃ i, i < j ∧ W i = w
  | 0 => ⟨fun q => (by cases q), fun ⟨i, h, _⟩ => (by omega)⟩
  | j + 1 => by
    unfold po_in
    rw [Bool.or_eq_true, po_inE W w j, decide_eq_true_iff]
    constructor
    · rintro (⟨i, h1, h2⟩ | h)
      · exact ⟨i, by omega, h2⟩
      · exact ⟨j, by omega, h⟩
    · rintro ⟨i, h1, h2⟩
      by_cases q : i = j
      · subst q; exact Or.inr h2
      · exact Or.inl ⟨i, by omega, h2⟩
theorem po_dle (W : Nat → Int64) : ∀ j, po_d W j ≤ j
  | 0 => Nat.le_refl _
  | j + 1 => by
    have := po_dle W j
    unfold po_d
    split <;> omega
theorem po_dE {W V : Nat → Int64} (h : ∀ i j, W i = W j ↔ V i = V j) : ∀ j, po_d W j = po_d V j
  | 0 => rfl
  | j + 1 => by
    unfold po_d
    have e : po_in W j (W j) = po_in V j (V j) := by
      rw [Bool.eq_iff_iff, po_inE, po_inE]
      exact ⟨fun ⟨i, h1, h2⟩ => ⟨i, h1, (h i j).mp h2⟩, fun ⟨i, h1, h2⟩ => ⟨i, h1, (h i j).mpr h2⟩⟩
    rw [po_dE h j, e]
def po_fi (q : Nat → Bool) : Nat → Option Nat
  | 0 => none
  | n + 1 => match po_fi q n with
    | some j => some j
    | none => if q n = true then some n else none
theorem po_fiS {q : Nat → Bool} {n j : Nat} (h : po_fi q n = some j) : po_fi q (n + 1) = some j := by unfold po_fi; rw [h]
theorem po_fiN {q : Nat → Bool} {n : Nat} (h : po_fi q n = none) : po_fi q (n + 1) = if q n = true then some n else none := by unfold po_fi; rw [h]
theorem po_fiM {q : Nat → Bool} {n j : Nat} (h : po_fi q n = some j) : ∀ k, po_fi q (n + k) = some j
  | 0 => h
  | k + 1 => po_fiS (po_fiM h k)
theorem po_filt {q : Nat → Bool} : ∀ {n j : Nat}, po_fi q n = some j → j < n
  | 0, j, h => by cases h
  | n + 1, j, h => by
    cases e : po_fi q n with
    | some i =>
      rw [po_fiS e] at h
      cases h
      have := po_filt e
      omega
    | none =>
      rw [po_fiN e] at h
      by_cases z : q n = true
      · rw [if_pos z] at h; cases h; omega
      · rw [if_neg z] at h; cases h
def po_fo (O : Nat → Int32) : Option Nat → Int32
  | none => -6
  | some j => O j
