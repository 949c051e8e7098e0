/-! ===== THE PURE MACHINE IS SOUND: what it answers, the machine answers ===== -/
def pj_St (D : va_G) (g : ClassId × ClassId × ClassId) (b base L : Nat) (xs : Nat → Int32) (U : State) : Prop := (∀ w ∈ pj_N, va_Nw w U) ∧ va_K D vwCl (pj_tys g) U ∧ va_X b L xs U U.heap ∧ b < base
def pj_Pc (D : va_G) (g : ClassId × ClassId × ClassId) (b base L : Nat) (xs : Nat → Int32) (as : List Value) (h : pj_H) : Array Value → State → Prop := fun v U => v = (as.map (pj_mv (pj_ad b base))).toArray ∧ pj_G D g b base L xs h U.heap ∧ pj_St D g b base L xs U ∧ U.heap.size + 1 = base + h.1.length
def pj_Qc (D : va_G) (g : ClassId × ClassId × ClassId) (b base L : Nat) (xs : Nat → Int32) (r : Option Value) (h' : pj_H) : Array Value → State → Outcome → State → Prop := fun _ st o t => o = .returned (r.map (pj_mv (pj_ad b base))) ∧ pj_G D g b base L xs h' t.heap ∧ pj_St D g b base L xs t ∧ t.heap.size + 1 = base + h'.1.length ∧ va_F (fun z => base ≤ z) st t
theorem pj_N_on {w : Jvm.Cond} (h : w ∈ pj_N) : w.onTables = true := by
  have h2 := (List.mem_filter.mp h).2
  cases w <;> first | rfl | (simp [pj_isN] at h2)
theorem pj_Nw_warm {w : Jvm.Cond} (h : w ∈ pj_N) {s U : State} (hW : s.WarmedH U.vm) (hZ : va_Nw w s) : va_Nw w U := by
  have h2 := (List.mem_filter.mp h).2
  cases w <;> first | exact va_Nw.warmF hW hZ | exact va_Nw.warmM hW hZ | (simp [pj_isN] at h2)
theorem pj_blind (D : va_G) (g : ClassId × ClassId × ClassId) (b base L : Nat) (xs : Nat → Int32) (as : List Value) (h : pj_H) : FrameBlind (pj_Pc D g b base L xs as h) := by
  intro a U gf mk q
  obtain ⟨q1, q2, ⟨q3, q4, q5, q6⟩, q7⟩ := q
  exact ⟨q1, q2, ⟨fun w hw => va_Nw.same (pj_N_on hw) (u := U) (U := U.calling gf mk a) rfl (q3 w hw), va_K.moved (u := U) (U := U.calling gf mk a) (Vm.Alike.refl U.vm) q4, va_X.moved (u := U) (U := U.calling gf mk a) (Vm.Alike.refl U.vm) q5, q6⟩, q7⟩
theorem pj_St_warm {D : va_G} {g : ClassId × ClassId × ClassId} {b base L : Nat} {xs : Nat → Int32} {s U : State} (h : pj_St D g b base L xs s) (hbs : base ≤ s.heap.size) {locs : List Loc} (hS : va_S (fun z => base ≤ z) s.heap U.heap locs) (hW : s.WarmedH U.vm) : pj_St D g b base L xs U := by
  obtain ⟨q3, q4, q5, q6⟩ := h
  exact ⟨fun w hw => pj_Nw_warm hw hW (q3 w hw), q4.moved hW.alike, (q5.moved hW.alike).kept (hS.2.1 b (Nat.lt_of_lt_of_le q6 hbs) (Nat.not_le.mpr q6)), q6⟩
def pj_Cx (p : Program) (s : State) (m : MethodId) (args : Array Value) (meth : Method) (c : Code) (D : va_G) (g : ClassId × ClassId × ClassId) (b base L : Nat) (xs : Nat → Int32) (q : pj_M) (c0 : Nat) : Prop :=
  p.tables.exec = Jvm.exec ∧ c.code = q.2.1 ∧ c.maxLocals = q.2.2.1 ∧ s.vm.findClass (pj_cn q.2.2.2.2.2.1) = some m.cls ∧ (∀ w ∈ pj_T, w.before args s = true) ∧ pj_St D g b base L xs s ∧ s.heap.size + 1 = base + c0 ∧ 1 ≤ c0 ∧ (q.1.name = "<init>" → meth.name = "<init>")
def pj_Snd (n : Nat) : Prop := ∀ (q : pj_M), q ∈ pj_all → ∀ (pc : Nat) (ls : pj_L) (st : List Value) (h : pj_H) (r : Option Value) (h' : pj_H), pj_go n q pc ls st h = some (r, h') →
  ∀ (p : Program) (l : Launch) (e : Env) (R : Room) (s : State) (m : MethodId) (args : Array Value) (below : List Frame) (meth : Method) (c : Code) (D : va_G) (g : ClassId × ClassId × ClassId) (b base L : Nat) (xs : Nat → Int32) (c0 s0 : Nat) (Q : State → Prop) (H : Heap) (locs : List Loc) (cells slots : Nat) (lsA : Array Slot),
  pj_Cx p s m args meth c D g b base L xs q c0 → pj_G D g b base L xs h H → va_S (fun z => base ≤ z) s.heap H locs → pj_LR (pj_ad b base) lsA q.2.2.1 ls → cells + c0 = h.1.length → slots + s0 = pj_sz h.1 → h'.1.length ≤ R.cells + c0 → pj_sz h'.1 ≤ R.slots + s0 → q.2.2.2.2.1 ≤ R.frames → 36 * q.2.2.2.2.1 ≤ R.locals →
  (∀ (H1 : Heap) (locs1 : List Loc) (cells1 slots1 : Nat) (lsA1 : Array Slot) (pc1 : Nat) (ins : Instr) (st1 : List Value), decode q.2.1 pc1 = .ok (ins, 1) → pj_ret q.2.2.2.1 ins 1 st1 = some r → pj_G D g b base L xs h' H1 → va_S (fun z => base ≤ z) s.heap H1 locs1 → cells1 + c0 = h'.1.length → slots1 + s0 = pj_sz h'.1 → W p l e R s m args below meth c H1 locs1 cells1 slots1 Q (F0 m pc1 lsA1 (st1.map (pj_mv (pj_ad b base))))) →
  W p l e R s m args below meth c H locs cells slots Q (F0 m pc lsA (st.map (pj_mv (pj_ad b base))))
/-! the locals at a method's beginning -/
theorem pj_fl1_cons (v : Value) (t : List Value) : pj_fl1 (v :: t) = (if v.category = 2 then [some v, none] else [some v]) ++ pj_fl1 t := rfl
theorem pj_get_app {a b : pj_L} {i : Nat} {v : Value} (h : pj_get (a ++ b) i = some v) : (i < a.length ∧ pj_get a i = some v) ∨ (a.length ≤ i ∧ pj_get b (i - a.length) = some v) := by
  unfold pj_get at h ⊢
  by_cases hi : i < a.length
  · rw [List.getElem?_append_left hi] at h
    exact Or.inl ⟨hi, h⟩
  · rw [List.getElem?_append_right (Nat.not_lt.mp hi)] at h
    exact Or.inr ⟨Nat.not_lt.mp hi, h⟩
theorem pj_ent_in (ad : Nat → Nat) : ∀ (as : List Value) (k i : Nat) (v : Value), pj_get (pj_fl1 as) i = some v → (k + i, pj_mv ad v) ∈ lv_args k (as.map (pj_mv ad))
  | [], k, i, v, h => by simp [pj_fl1, pj_get] at h
  | w :: t, k, i, v, h => by
    rw [pj_fl1_cons] at h
    show _ ∈ (k, pj_mv ad w) :: lv_args (if (pj_mv ad w).category = 2 then k + 2 else k + 1) (t.map (pj_mv ad))
    rw [pj_mv_cat]
    by_cases hc : w.category = 2
    · rw [if_pos hc] at h ⊢
      rcases pj_get_app h with ⟨h1, h2⟩ | ⟨h1, h2⟩
      · match i, h1, h2 with
        | 0, _, h2 => cases h2; exact List.mem_cons_self
        | 1, _, h2 => cases h2
      · have h1 : 2 ≤ i := h1
        have h2 : pj_get (pj_fl1 t) (i - 2) = some v := h2
        have := pj_ent_in ad t (k + 2) (i - 2) v h2
        rw [show k + 2 + (i - 2) = k + i by omega] at this
        exact List.mem_cons_of_mem _ this
    · rw [if_neg hc] at h ⊢
      rcases pj_get_app h with ⟨h1, h2⟩ | ⟨h1, h2⟩
      · match i, h1, h2 with
        | 0, _, h2 => cases h2; exact List.mem_cons_self
      · have h1 : 1 ≤ i := h1
        have h2 : pj_get (pj_fl1 t) (i - 1) = some v := h2
        have := pj_ent_in ad t (k + 1) (i - 1) v h2
        rw [show k + 1 + (i - 1) = k + i by omega] at this
        exact List.mem_cons_of_mem _ this
theorem pj_sl_len (ad : Nat → Nat) : ∀ (as : List Value), (lg_sl (as.map (pj_mv ad))).length = (pj_fl1 as).length
  | [] => rfl
  | v :: t => by
    rw [pj_fl1_cons, List.map_cons]
    show ((if (pj_mv ad v).category = 2 then [Slot.val (pj_mv ad v), .second] else [Slot.val (pj_mv ad v)]) ++ lg_sl (t.map (pj_mv ad))).length = _
    rw [List.length_append, List.length_append, pj_sl_len ad t, pj_mv_cat]
    by_cases hc : v.category = 2
    · rw [if_pos hc, if_pos hc]
      rfl
    · rw [if_neg hc, if_neg hc]
      rfl
theorem pj_ent_LR (ad : Nat → Nat) (as : List Value) (n : Nat) (hn : (pj_fl1 as).length ≤ n) : pj_LR ad ((lg_sl (as.map (pj_mv ad)) ++ List.replicate (n - (lg_sl (as.map (pj_mv ad))).length) Slot.unset).toArray) n (pj_ent as n) := by
  refine ⟨?_, _, lv_entry (as.map (pj_mv ad)) (by rw [pj_sl_len]; exact hn), fun i v hv => ?_⟩
  · unfold pj_ent
    rw [List.length_append, List.length_replicate]
    omega
  · unfold pj_ent at hv
    rcases pj_get_app hv with ⟨-, h2⟩ | ⟨-, h2⟩
    · have := pj_ent_in ad as 0 i v h2
      rw [Nat.zero_add] at this
      exact this
    · unfold pj_get at h2
      exfalso
      split at h2
      · rename_i w hw
        have := List.eq_of_mem_replicate (List.mem_of_getElem? hw)
        cases this
      · cases h2
theorem pj_ret_inv {rt : Option FieldType} {ins : Instr} {len : Nat} {st : List Value} {v : Option Value} (h : pj_ret rt ins len st = some v) : len = 1 ∧ st = v.toList ∧ ((∃ x, v = some (.int x) ∧ ins = .ireturn ∧ (rt = some .int ∨ (rt = some .boolean ∧ (x = 0 ∨ x = 1)))) ∨ (∃ x, v = some (.long x) ∧ ins = .lreturn ∧ rt = some .long) ∨ (v = none ∧ ins = .return_ ∧ rt = none)) := by
  unfold pj_ret at h
  split at h
  · split at h
    · split at h
      · rename_i hc
        cases h
        exact ⟨hc.1, rfl, Or.inl ⟨_, rfl, rfl, hc.2⟩⟩
      · cases h
    · cases h
  · split at h
    · split at h
      · rename_i hc
        cases h
        exact ⟨hc.1, rfl, Or.inr (Or.inl ⟨_, rfl, rfl, hc.2⟩)⟩
      · cases h
    · cases h
  · split at h
    · split at h
      · rename_i hc
        cases h
        exact ⟨hc.1, rfl, Or.inr (Or.inr ⟨rfl, rfl, hc.2⟩)⟩
      · cases h
    · cases h
  · cases h
/-- a method's contract out of the pure run of its body -/
theorem pj_met {n : Nat} (ih : pj_Snd n) (l : Launch) {y : pj_M} (hy : y ∈ pj_ms) {as : List Value} (has : (pj_fl1 as).length ≤ y.2.2.1) {h h' : pj_H} {r : Option Value} (h0 : 1 ≤ h.1.length) (hgo : pj_go n y 0 (pj_ent as y.2.2.1) [] h = some (r, h')) (D : va_G) (g : ClassId × ClassId × ClassId) (b base L : Nat) (xs : Nat → Int32) :
    Met l y.1 (Jvm.Cond.code y.1 y.2.1 y.2.2.1 y.2.2.2.1 :: pj_T) ({ frames := y.2.2.2.2.1, cells := h'.1.length - h.1.length, slots := pj_sz h'.1 - pj_sz h.1, locals := 36 * y.2.2.2.2.1 }) (pj_Pc D g b base L xs as h) (pj_Qc D g b base L xs r h') (h'.1.length - h.1.length) (pj_sz h'.1 - pj_sz h.1) (fun z => base ≤ z) := by
  obtain ⟨ka, kb, hM⟩ := pj_mok y hy
  unfold pj_MOK at hM
  simp only [Bool.and_eq_true, decide_eq_true_eq] at hM
  obtain ⟨⟨⟨⟨⟨⟨m1, m2⟩, m3⟩, m4⟩, m5⟩, m6⟩, m7⟩ := hM
  refine Met.ofW (cc := y.2.1) (maxL := y.2.2.1) (ret := y.2.2.2.1) m5 rfl ?_
  intro p e s m args below meth c s₁ B hml hv
  obtain ⟨rfl, hG, hSt, hsz⟩ := hv
  have hts := atoms_spec (ws := Jvm.Cond.code y.1 y.2.1 y.2.2.1 y.2.2.2.1 :: pj_T) B.pre
  have hown : s.vm.findClass y.1.cls = some m.cls := findClass_of_methodNamed B.named
  rw [m7] at hown
  have hmo := pj_mono n _ _ _ _ _ _ _ hgo
  have hbs : base ≤ s.heap.size := by omega
  rw [lg_entry_eq]
  refine ih y (List.mem_append_left _ hy) 0 _ [] h r h' hgo p l e _ s m _ below meth c D g b base L xs h.1.length (pj_sz h.1) _ s.heap [] 0 0 _ ⟨B.exec, B.bytes, hml, hown, fun w hw => hts w (List.mem_cons_of_mem _ hw), hSt, hsz, h0, fun hn => by rw [(name_of_methodNamed B.named B.method).1]; exact hn⟩ hG va_S.rf (pj_ent_LR _ as _ has) (Nat.zero_add _) (Nat.zero_add _) ?_ ?_ (Nat.le_refl _) (Nat.le_refl _) ?_
  · show h'.1.length ≤ (h'.1.length - h.1.length) + h.1.length
    omega
  · show pj_sz h'.1 ≤ (pj_sz h'.1 - pj_sz h.1) + pj_sz h.1
    omega
  · intro H1 locs1 cells1 slots1 lsA1 pc1 ins st1 hd hr hG1 hS1 hc1 hs1
    obtain ⟨-, hst, hcase⟩ := pj_ret_inv hr
    have e1 : cells1 = h'.1.length - h.1.length := by omega
    have e2 : slots1 = pj_sz h'.1 - pj_sz h.1 := by omega
    intro T hT X
    have hz1 := pj_size X hT hG1 hS1 hsz h0 hc1
    suffices hw : W p l e (headSpec (Jvm.Cond.code y.1 y.2.1 y.2.2.1 y.2.2.2.1 :: pj_T) ({ frames := y.2.2.2.2.1, cells := h'.1.length - h.1.length, slots := pj_sz h'.1 - pj_sz h.1, locals := 36 * y.2.2.2.2.1 })).room s m _ below meth c H1 locs1 cells1 slots1 (MQ below (pj_Qc D g b base L xs r h') _ s (h'.1.length - h.1.length) (pj_sz h'.1 - pj_sz h.1) (fun z => base ≤ z)) (F0 m pc1 lsA1 (st1.map (pj_mv (pj_ad b base)))) from hw T hT X
    subst e1
    subst e2
    subst hst
    have fin : ∀ t : State, t.heap = H1 → s.WarmedH t.vm → pj_Qc D g b base L xs r h' (as.map (pj_mv (pj_ad b base))).toArray s (.returned (r.map (pj_mv (pj_ad b base)))) t := by
      intro t ht hW
      subst ht
      exact ⟨rfl, hG1, pj_St_warm hSt hbs hS1 hW, hz1, hS1.F rfl⟩
    have hlocks := B.notSynchronized
    rcases hcase with ⟨x, rfl, rfl, hrt⟩ | ⟨x, rfl, rfl, hrt⟩ | ⟨rfl, rfl, hrt⟩
    · rcases hrt with hrt | ⟨hrt, hx01⟩
      · exact W.iret B.exec B.bytes (by rw [B.returns]; exact hrt) fin hS1.2.2 hd hlocks
      · exact W.zret (ty := .boolean) B.exec B.bytes (by rw [B.returns]; exact hrt) (by rcases hx01 with rfl | rfl <;> rfl) fin hS1.2.2 hd hlocks
    · exact W.lret B.exec B.bytes (by rw [B.returns]; exact hrt) fin hS1.2.2 hd hlocks
    · exact W.vret B.exec B.bytes (by rw [B.returns]; exact hrt) fin hS1.2.2 hd hlocks
