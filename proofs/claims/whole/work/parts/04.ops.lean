/-! ===== the pure machine's steps are the machine's: locals, stack, jumps ===== -/
def pj_mv (ad : Nat → Nat) (v : Value) : Value := match v with
  | .ref k => .ref (ad k)
  | v => v
theorem pj_mv_cat (ad : Nat → Nat) (v : Value) : (pj_mv ad v).category = v.category := by cases v <;> rfl
theorem pj_mv_sum (ad : Nat → Nat) (l : List Value) : ((l.map (pj_mv ad)).map fun v => v.category).sum = (l.map fun v => v.category).sum := by
  rw [List.map_map]
  congr 1
  exact List.map_congr_left (fun v _ => pj_mv_cat ad v)
def pj_LR (ad : Nat → Nat) (lsA : Array Slot) (nL : Nat) (ls : pj_L) : Prop := ls.length = nL ∧ ∃ lv : List (Nat × Value), lv_has lsA nL lv ∧ ∀ (i : Nat) (v : Value), pj_get ls i = some v → (i, pj_mv ad v) ∈ lv
theorem pj_LR.look {ad : Nat → Nat} {lsA : Array Slot} {nL : Nat} {ls : pj_L} {i : Nat} {v : Value} (h : pj_LR ad lsA nL ls) (hg : pj_get ls i = some v) : lsA[i]? = some (.val (pj_mv ad v)) := by
  obtain ⟨-, lv, h1, h2⟩ := h
  exact h1.2.2 _ (h2 i v hg)
theorem pj_LR.size {ad : Nat → Nat} {lsA : Array Slot} {nL : Nat} {ls : pj_L} (h : pj_LR ad lsA nL ls) : lsA.size = nL := by
  obtain ⟨-, lv, h1, h2⟩ := h
  exact h1.1
theorem pj_get_set {ls : pj_L} {i j : Nat} {v w : Value} (hi : i < ls.length) (h : pj_get (ls.set i (some v)) j = some w) : (j = i ∧ w = v) ∨ (j ≠ i ∧ pj_get ls j = some w) := by
  unfold pj_get at h ⊢
  by_cases e : j = i
  · subst e
    rw [List.getElem?_set_self hi] at h
    exact Or.inl ⟨rfl, (Option.some.inj h).symm⟩
  · rw [List.getElem?_set_ne (Ne.symm e)] at h
    exact Or.inr ⟨e, h⟩
theorem pj_get_none {ls : pj_L} {i j : Nat} {w : Value} (h : pj_get (ls.set i none) j = some w) : j ≠ i ∧ pj_get ls j = some w := by
  unfold pj_get at h ⊢
  by_cases e : j = i
  · subst e
    by_cases hi : j < ls.length
    · rw [List.getElem?_set_self hi] at h
      cases h
    · rw [List.getElem?_eq_none (by rw [List.length_set]; omega)] at h
      cases h
  · rw [List.getElem?_set_ne (Ne.symm e)] at h
    exact ⟨e, h⟩
theorem pj_isL_no {ls : pj_L} {i j : Nat} {w : Value} (h : pj_isL ls i = false) (hg : pj_get ls j = some w) : ¬ j + 1 = i ∨ ¬ w.category = 2 := by
  by_cases e : j + 1 = i
  · right
    subst e
    simp only [pj_isL, hg] at h
    simpa using h
  · exact Or.inl e
theorem pj_LR_set {ad : Nat → Nat} {lsA : Array Slot} {nL : Nat} {ls ls' : pj_L} {i : Nat} {v : Value} (hl : pj_LR ad lsA nL ls) (hs : pj_set ls i v = some ls') : ∃ lv, lv_has lsA nL lv ∧ i < nL ∧ (∀ (j : Nat) (w : Value), pj_get ls j = some w → (j, pj_mv ad w) ∈ lv) ∧ ∀ lsA' : Array Slot, lv_has lsA' nL ((i, pj_mv ad v) :: lv.filter (fun q => !(q.1 == i) && !(q.1 + 1 == i && q.2.category == 2))) → pj_LR ad lsA' nL ls' := by
  obtain ⟨h0, lv, h1, h2⟩ := hl
  unfold pj_set at hs
  split at hs
  · rename_i hc
    cases hs
    refine ⟨lv, h1, h0 ▸ hc.1, h2, fun lsA' h => ⟨by rw [List.length_set]; exact h0, _, h, fun j w hw => ?_⟩⟩
    rcases pj_get_set hc.1 hw with ⟨rfl, rfl⟩ | ⟨hne, hg⟩
    · exact List.mem_cons_self
    · refine List.mem_cons_of_mem _ (List.mem_filter.mpr ⟨h2 j w hg, ?_⟩)
      have hq := pj_isL_no hc.2 hg
      simp only [Bool.and_eq_true, Bool.not_eq_true', beq_eq_false_iff_ne, Bool.and_eq_false_iff, pj_mv_cat]
      exact ⟨hne, hq⟩
  · cases hs
theorem pj_LR_set2 {ad : Nat → Nat} {lsA : Array Slot} {nL : Nat} {ls ls' : pj_L} {i : Nat} {v : Value} (hl : pj_LR ad lsA nL ls) (hs : pj_set2 ls i v = some ls') : ∃ lv, lv_has lsA nL lv ∧ i + 1 < nL ∧ ∀ lsA' : Array Slot, lv_has lsA' nL ((i, pj_mv ad v) :: lv.filter (fun q => !(q.1 == i) && (!(q.1 == i + 1) && !(q.1 + 1 == i && q.2.category == 2)))) → pj_LR ad lsA' nL ls' := by
  obtain ⟨h0, lv, h1, h2⟩ := hl
  unfold pj_set2 at hs
  split at hs
  · rename_i hc
    cases hs
    refine ⟨lv, h1, h0 ▸ hc.1, fun lsA' h => ⟨by rw [List.length_set, List.length_set]; exact h0, _, h, fun j w hw => ?_⟩⟩
    obtain ⟨hn2, hw⟩ := pj_get_none hw
    rcases pj_get_set (Nat.lt_of_succ_lt hc.1) hw with ⟨rfl, rfl⟩ | ⟨hne, hg⟩
    · exact List.mem_cons_self
    · refine List.mem_cons_of_mem _ (List.mem_filter.mpr ⟨h2 j w hg, ?_⟩)
      have hq := pj_isL_no hc.2 hg
      simp only [Bool.and_eq_true, Bool.not_eq_true', beq_eq_false_iff_ne, Bool.and_eq_false_iff, pj_mv_cat]
      exact ⟨hne, hn2, hq⟩
  · cases hs
/-! what a step says when it is taken -/
theorem pj_push_inv {v : Value} {n len : Nat} {ls : pj_L} {st : List Value} {a : pj_L × List Value} (h : pj_push v n len ls st = some a) : len = n ∧ a = (ls, v :: st) := by
  unfold pj_push at h
  split at h
  · rename_i e
    cases h
    exact ⟨e, rfl⟩
  · cases h
theorem pj_ii_inv {f : Int32 → Int32 → Int32} {len : Nat} {ls : pj_L} {st : List Value} {a : pj_L × List Value} (h : pj_ii f len ls st = some a) : ∃ x y r, st = .int y :: .int x :: r ∧ len = 1 ∧ a = (ls, .int (f x y) :: r) := by
  unfold pj_ii at h
  split at h
  · split at h
    · rename_i e
      cases h
      exact ⟨_, _, _, rfl, e, rfl⟩
    · cases h
  · cases h
theorem pj_id_inv {f : Int32 → Int32 → Int32} {len : Nat} {ls : pj_L} {st : List Value} {a : pj_L × List Value} (h : pj_id f len ls st = some a) : ∃ x y r, st = .int y :: .int x :: r ∧ len = 1 ∧ ¬ y = 0 ∧ a = (ls, .int (f x y) :: r) := by
  unfold pj_id at h
  split at h
  · split at h
    · rename_i e
      cases h
      exact ⟨_, _, _, rfl, e.1, e.2, rfl⟩
    · cases h
  · cases h
theorem pj_ll_inv {f : Int64 → Int64 → Int64} {len : Nat} {ls : pj_L} {st : List Value} {a : pj_L × List Value} (h : pj_ll f len ls st = some a) : ∃ x y r, st = .long y :: .long x :: r ∧ len = 1 ∧ a = (ls, .long (f x y) :: r) := by
  unfold pj_ll at h
  split at h
  · split at h
    · rename_i e
      cases h
      exact ⟨_, _, _, rfl, e, rfl⟩
    · cases h
  · cases h
theorem pj_ld_inv {f : Int64 → Int64 → Int64} {len : Nat} {ls : pj_L} {st : List Value} {a : pj_L × List Value} (h : pj_ld f len ls st = some a) : ∃ x y r, st = .long y :: .long x :: r ∧ len = 1 ∧ ¬ y = 0 ∧ a = (ls, .long (f x y) :: r) := by
  unfold pj_ld at h
  split at h
  · split at h
    · rename_i e
      cases h
      exact ⟨_, _, _, rfl, e.1, e.2, rfl⟩
    · cases h
  · cases h
theorem pj_li_inv {f : Int64 → Int32 → Int64} {len : Nat} {ls : pj_L} {st : List Value} {a : pj_L × List Value} (h : pj_li f len ls st = some a) : ∃ x y r, st = .int y :: .long x :: r ∧ len = 1 ∧ a = (ls, .long (f x y) :: r) := by
  unfold pj_li at h
  split at h
  · split at h
    · rename_i e
      cases h
      exact ⟨_, _, _, rfl, e, rfl⟩
    · cases h
  · cases h
theorem pj_iload_inv {i n len : Nat} {ls : pj_L} {st : List Value} {a : pj_L × List Value} (h : pj_iload i n len ls st = some a) : ∃ x, pj_get ls i = some (.int x) ∧ len = n ∧ a = (ls, .int x :: st) := by
  unfold pj_iload at h
  split at h
  · split at h
    · rename_i e1 e
      cases h
      exact ⟨_, e1, e, rfl⟩
    · cases h
  · cases h
theorem pj_lload_inv {i n len : Nat} {ls : pj_L} {st : List Value} {a : pj_L × List Value} (h : pj_lload i n len ls st = some a) : ∃ x, pj_get ls i = some (.long x) ∧ len = n ∧ a = (ls, .long x :: st) := by
  unfold pj_lload at h
  split at h
  · split at h
    · rename_i e1 e
      cases h
      exact ⟨_, e1, e, rfl⟩
    · cases h
  · cases h
theorem pj_aload_inv {i n len : Nat} {ls : pj_L} {st : List Value} {a : pj_L × List Value} (h : pj_aload i n len ls st = some a) : ∃ x, pj_get ls i = some (.ref x) ∧ len = n ∧ a = (ls, .ref x :: st) := by
  unfold pj_aload at h
  split at h
  · split at h
    · rename_i e1 e
      cases h
      exact ⟨_, e1, e, rfl⟩
    · cases h
  · cases h
theorem pj_istore_inv {i n len : Nat} {ls : pj_L} {st : List Value} {a : pj_L × List Value} (h : pj_istore i n len ls st = some a) : ∃ x r l, st = .int x :: r ∧ pj_set ls i (.int x) = some l ∧ len = n ∧ a = (l, r) := by
  unfold pj_istore at h
  split at h
  · split at h
    · split at h
      · rename_i e1 e
        cases h
        exact ⟨_, _, _, rfl, e1, e, rfl⟩
      · cases h
    · cases h
  · cases h
theorem pj_lstore_inv {i n len : Nat} {ls : pj_L} {st : List Value} {a : pj_L × List Value} (h : pj_lstore i n len ls st = some a) : ∃ x r l, st = .long x :: r ∧ pj_set2 ls i (.long x) = some l ∧ len = n ∧ a = (l, r) := by
  unfold pj_lstore at h
  split at h
  · split at h
    · split at h
      · rename_i e1 e
        cases h
        exact ⟨_, _, _, rfl, e1, e, rfl⟩
      · cases h
    · cases h
  · cases h
theorem pj_astore_inv {i n len : Nat} {ls : pj_L} {st : List Value} {a : pj_L × List Value} (h : pj_astore i n len ls st = some a) : ∃ x r l, st = .ref x :: r ∧ pj_set ls i (.ref x) = some l ∧ len = n ∧ a = (l, r) := by
  unfold pj_astore at h
  split at h
  · split at h
    · split at h
      · rename_i e1 e
        cases h
        exact ⟨_, _, _, rfl, e1, e, rfl⟩
      · cases h
    · cases h
  · cases h
theorem pj_iinc_inv {i len : Nat} {n : Int} {ls : pj_L} {st : List Value} {a : pj_L × List Value} (h : pj_iinc i n len ls st = some a) : ∃ x l, pj_get ls i = some (.int x) ∧ pj_set ls i (.int (x + Int32.ofInt n)) = some l ∧ len = 3 ∧ a = (l, st) := by
  unfold pj_iinc at h
  split at h
  · rename_i e0
    split at h
    · split at h
      · rename_i e1 e
        cases h
        exact ⟨_, _, e0, e1, e, rfl⟩
      · cases h
    · cases h
  · cases h
theorem pj_un_inv {f : Value → Option Value} {len : Nat} {ls : pj_L} {st : List Value} {a : pj_L × List Value} (h : pj_un f len ls st = some a) : ∃ v r w, st = v :: r ∧ f v = some w ∧ len = 1 ∧ a = (ls, w :: r) := by
  unfold pj_un at h
  split at h
  · split at h
    · split at h
      · rename_i e1 e
        cases h
        exact ⟨_, _, _, rfl, e1, e, rfl⟩
      · cases h
    · cases h
  · cases h
section PJO
variable {p : Program} {l : Launch} {e : Env} {R : Room} {s : State} {m : MethodId} {args : Array Value} {below : List Frame} {meth : Method} {c : Code} {H : Heap} {locs : List Loc} {cells slots : Nat} {Q : State → Prop}
variable {cc : ByteArray} {pc : Nat} {ad : Nat → Nat} {lsA : Array Slot} {nL : Nat}
theorem pj_cI_fact {own i : Nat} {q : Int32 × Nat} (h : pj_lk own i pj_ci = some q) : Jvm.Cond.constant (pj_cn own) i q.1 ∈ pj_T := by
  obtain ⟨hm, h1, h2⟩ := pj_lk_mem h
  have := List.all_eq_true.mp pj_ciok _ hm
  simp only [h1, h2] at this
  exact pj_chk_in this
theorem pj_cJ_fact {own i : Nat} {q : Int64 × Nat} (h : pj_lk own i pj_cj = some q) : Jvm.Cond.constantLong (pj_cn own) i q.1 ∈ pj_T := by
  obtain ⟨hm, h1, h2⟩ := pj_lk_mem h
  have := List.all_eq_true.mp pj_cjok _ hm
  simp only [h1, h2] at this
  exact pj_chk_in this
set_option maxHeartbeats 4000000 in
theorem pj_op_W (hx : p.tables.exec = Jvm.exec) (hb : c.code = cc) {own : Nat} (hown : s.vm.findClass (pj_cn own) = some m.cls) (hts : ∀ w ∈ pj_T, w.before args s = true) {ins : Instr} {len : Nat} (hd : decode cc pc = .ok (ins, len)) {ls : pj_L} {st : List Value} {a : pj_L × List Value} (ho : pj_op own ins len ls st = some a) (hl : pj_LR ad lsA nL ls)
    (k : ∀ lsA', pj_LR ad lsA' nL a.1 → W p l e R s m args below meth c H locs cells slots Q (F0 m (pc + len) lsA' (a.2.map (pj_mv ad)))) : W p l e R s m args below meth c H locs cells slots Q (F0 m pc lsA (st.map (pj_mv ad))) := by
  unfold pj_op at ho
  split at ho
  · obtain ⟨rfl, rfl⟩ := pj_push_inv ho
    exact lv_iconst hx hb hd rfl (k _ hl)
  · obtain ⟨rfl, rfl⟩ := pj_push_inv ho
    exact lv_bipush hx hb hd rfl (k _ hl)
  · obtain ⟨rfl, rfl⟩ := pj_push_inv ho
    exact lv_sipush hx hb hd rfl (k _ hl)
  · obtain ⟨rfl, rfl⟩ := pj_push_inv ho
    exact lv_lconst hx hb hd rfl (k _ hl)
  · unfold pj_cI at ho
    split at ho
    · rename_i q hq
      obtain ⟨rfl, rfl⟩ := pj_push_inv ho
      exact lv_ldc hx hb hown (hts _ (pj_cI_fact hq)) hd (k _ hl)
    · cases ho
  · unfold pj_cI at ho
    split at ho
    · rename_i q hq
      obtain ⟨rfl, rfl⟩ := pj_push_inv ho
      exact lv_ldcw hx hb hown (hts _ (pj_cI_fact hq)) hd (k _ hl)
    · cases ho
  · unfold pj_cJ at ho
    split at ho
    · rename_i q hq
      obtain ⟨rfl, rfl⟩ := pj_push_inv ho
      exact lv_ldc2 hx hb hown (hts _ (pj_cJ_fact hq)) hd (k _ hl)
    · cases ho
  · obtain ⟨x, hg, rfl, rfl⟩ := pj_iload_inv ho
    exact lv_iload_n hx hb hd rfl (hl.look hg) (k _ hl)
  · obtain ⟨x, hg, rfl, rfl⟩ := pj_iload_inv ho
    exact lv_iload hx hb hd (hl.look hg) (k _ hl)
  · obtain ⟨x, hg, rfl, rfl⟩ := pj_lload_inv ho
    exact lv_lload_n hx hb hd rfl (hl.look hg) (k _ hl)
  · obtain ⟨x, hg, rfl, rfl⟩ := pj_lload_inv ho
    exact lv_lload hx hb hd (hl.look hg) (k _ hl)
  · obtain ⟨x, hg, rfl, rfl⟩ := pj_aload_inv ho
    exact lv_aload_n hx hb hd rfl (hl.look hg) (k _ hl)
  · obtain ⟨x, hg, rfl, rfl⟩ := pj_aload_inv ho
    exact lv_aload hx hb hd (hl.look hg) (k _ hl)
  · obtain ⟨x, r, l', rfl, hs, rfl, rfl⟩ := pj_istore_inv ho
    obtain ⟨lv, h1, h2, -, h3⟩ := pj_LR_set hl hs
    exact lv_istore_n hx hb hd rfl h1 h2 rfl (fun lsA' h => k lsA' (h3 lsA' h))
  · obtain ⟨x, r, l', rfl, hs, rfl, rfl⟩ := pj_istore_inv ho
    obtain ⟨lv, h1, h2, -, h3⟩ := pj_LR_set hl hs
    exact lv_istore hx hb hd h1 h2 rfl (fun lsA' h => k lsA' (h3 lsA' h))
  · obtain ⟨x, r, l', rfl, hs, rfl, rfl⟩ := pj_lstore_inv ho
    obtain ⟨lv, h1, h2, h3⟩ := pj_LR_set2 hl hs
    exact lv_lstore_n hx hb hd rfl h1 h2 rfl (fun lsA' h => k lsA' (h3 lsA' h))
  · obtain ⟨x, r, l', rfl, hs, rfl, rfl⟩ := pj_lstore_inv ho
    obtain ⟨lv, h1, h2, h3⟩ := pj_LR_set2 hl hs
    exact lv_lstore hx hb hd h1 h2 rfl (fun lsA' h => k lsA' (h3 lsA' h))
  · obtain ⟨x, r, l', rfl, hs, rfl, rfl⟩ := pj_astore_inv ho
    obtain ⟨lv, h1, h2, -, h3⟩ := pj_LR_set hl hs
    exact lv_astore_n hx hb hd rfl h1 h2 rfl (fun lsA' h => k lsA' (h3 lsA' h))
  · obtain ⟨x, r, l', rfl, hs, rfl, rfl⟩ := pj_astore_inv ho
    obtain ⟨lv, h1, h2, -, h3⟩ := pj_LR_set hl hs
    exact lv_astore hx hb hd h1 h2 rfl (fun lsA' h => k lsA' (h3 lsA' h))
  · obtain ⟨x, l', hg, hs, rfl, rfl⟩ := pj_iinc_inv ho
    obtain ⟨lv, h1, h2, h4, h3⟩ := pj_LR_set hl hs
    obtain ⟨j, hj⟩ := List.mem_iff_getElem?.mp (h4 _ _ hg)
    exact lv_iinc hx hb hd h1 hj rfl h2 rfl (fun lsA' h => k lsA' (h3 lsA' h))
  · obtain ⟨x, y, r, rfl, rfl, rfl⟩ := pj_ii_inv ho
    exact lv_iadd hx hb hd (k _ hl)
  · obtain ⟨x, y, r, rfl, rfl, rfl⟩ := pj_ii_inv ho
    exact lv_isub hx hb hd (k _ hl)
  · obtain ⟨x, y, r, rfl, rfl, rfl⟩ := pj_ii_inv ho
    exact lv_imul hx hb hd (k _ hl)
  · obtain ⟨x, y, r, rfl, rfl, rfl⟩ := pj_ii_inv ho
    exact lv_iand hx hb hd (k _ hl)
  · obtain ⟨x, y, r, rfl, rfl, rfl⟩ := pj_ii_inv ho
    exact lv_ior hx hb hd (k _ hl)
  · obtain ⟨x, y, r, rfl, rfl, rfl⟩ := pj_ii_inv ho
    exact lv_ixor hx hb hd (k _ hl)
  · obtain ⟨x, y, r, rfl, rfl, rfl⟩ := pj_ii_inv ho
    exact lv_ishl hx hb hd (k _ hl)
  · obtain ⟨x, y, r, rfl, rfl, rfl⟩ := pj_ii_inv ho
    exact lv_ishr hx hb hd (k _ hl)
  · obtain ⟨x, y, r, rfl, rfl, rfl⟩ := pj_ii_inv ho
    exact lv_iushr hx hb hd rfl (k _ hl)
  · obtain ⟨x, y, r, rfl, rfl, hy, rfl⟩ := pj_id_inv ho
    exact lv_idiv hx hb hd hy (k _ hl)
  · obtain ⟨x, y, r, rfl, rfl, hy, rfl⟩ := pj_id_inv ho
    exact lv_irem hx hb hd hy (k _ hl)
  · obtain ⟨v, r, w, rfl, hf, rfl, rfl⟩ := pj_un_inv ho
    cases v <;> first | (cases hf; exact lv_ineg hx hb hd (k _ hl)) | cases hf
  · obtain ⟨x, y, r, rfl, rfl, rfl⟩ := pj_ll_inv ho
    exact lv_ladd hx hb hd (k _ hl)
  · obtain ⟨x, y, r, rfl, rfl, rfl⟩ := pj_ll_inv ho
    exact lv_lsub hx hb hd (k _ hl)
  · obtain ⟨x, y, r, rfl, rfl, rfl⟩ := pj_ll_inv ho
    exact lv_lmul hx hb hd (k _ hl)
  · obtain ⟨x, y, r, rfl, rfl, rfl⟩ := pj_ll_inv ho
    exact lv_land hx hb hd (k _ hl)
  · obtain ⟨x, y, r, rfl, rfl, rfl⟩ := pj_ll_inv ho
    exact lv_lor hx hb hd (k _ hl)
  · obtain ⟨x, y, r, rfl, rfl, rfl⟩ := pj_ll_inv ho
    exact lv_lxor hx hb hd (k _ hl)
  · obtain ⟨x, y, r, rfl, rfl, hy, rfl⟩ := pj_ld_inv ho
    exact lv_ldiv hx hb hd hy (k _ hl)
  · obtain ⟨x, y, r, rfl, rfl, hy, rfl⟩ := pj_ld_inv ho
    exact lv_lrem hx hb hd hy (k _ hl)
  · obtain ⟨x, y, r, rfl, rfl, rfl⟩ := pj_li_inv ho
    exact lv_lshl hx hb hd rfl (k _ hl)
  · obtain ⟨x, y, r, rfl, rfl, rfl⟩ := pj_li_inv ho
    exact lv_lushr hx hb hd rfl (k _ hl)
  · obtain ⟨v, r, w, rfl, hf, rfl, rfl⟩ := pj_un_inv ho
    cases v <;> first | (cases hf; exact lv_i2l hx hb hd rfl (k _ hl)) | cases hf
  · obtain ⟨v, r, w, rfl, hf, rfl, rfl⟩ := pj_un_inv ho
    cases v <;> first | (cases hf; exact lv_l2i hx hb hd rfl (k _ hl)) | cases hf
  · unfold pj_lcmp at ho
    split at ho
    · split at ho
      · rename_i e1
        cases ho
        subst e1
        exact W.lcmp hx hb hd (k _ hl)
      · cases ho
    · cases ho
  · unfold pj_dup at ho
    split at ho
    · split at ho
      · rename_i e1
        cases ho
        obtain ⟨rfl, e2⟩ := e1
        exact lv_dup hx hb hd (by rw [pj_mv_cat]; exact e2) (k _ hl)
      · cases ho
    · cases ho
  · unfold pj_dup2 at ho
    split at ho
    · split at ho
      · rename_i e1
        cases ho
        obtain ⟨rfl, e2, e3⟩ := e1
        exact lv_dup2_11 hx hb hd (by rw [pj_mv_cat]; exact e2) (by rw [pj_mv_cat]; exact e3) (k _ hl)
      · split at ho
        · rename_i e1
          cases ho
          obtain ⟨rfl, e2⟩ := e1
          exact lv_dup2_2 hx hb hd (by rw [pj_mv_cat]; exact e2) (k _ hl)
        · cases ho
    · split at ho
      · rename_i e1
        cases ho
        obtain ⟨rfl, e2⟩ := e1
        exact lv_dup2_2 hx hb hd (by rw [pj_mv_cat]; exact e2) (k _ hl)
      · cases ho
    · cases ho
  · unfold pj_pop at ho
    split at ho
    · split at ho
      · rename_i e1
        cases ho
        obtain ⟨rfl, e2⟩ := e1
        exact lv_pop hx hb hd (by rw [pj_mv_cat]; exact e2) (k _ hl)
      · cases ho
    · cases ho
  · cases ho
theorem pj_br_inv {b : Bool} {off : Int} {r : List Value} {a : Nat × List Value} (h : pj_br b pc off r = some a) : ∃ t : Nat, (pc : Int) + off = (t : Int) ∧ a = (if b = true then t else pc + 3, r) := by
  unfold pj_br at h
  split at h
  · rename_i t ht
    cases h
    exact ⟨t, pj_tgt_ok ht, rfl⟩
  · cases h
set_option maxHeartbeats 4000000 in
theorem pj_jmp_W (hx : p.tables.exec = Jvm.exec) (hb : c.code = cc) {ins : Instr} {len : Nat} (hd : decode cc pc = .ok (ins, len)) {st : List Value} {a : Nat × List Value} (hj : pj_jmp ins len pc st = some a)
    (k : W p l e R s m args below meth c H locs cells slots Q (F0 m a.1 lsA (a.2.map (pj_mv ad)))) : W p l e R s m args below meth c H locs cells slots Q (F0 m pc lsA (st.map (pj_mv ad))) := by
  unfold pj_jmp at hj
  split at hj
  · split at hj
    · rename_i e1
      subst e1
      split at hj
      · rename_i t ht
        cases hj
        exact lv_goto hx hb hd (pj_tgt_ok ht) k
      · cases hj
    · cases hj
  · split at hj
    · split at hj
      · rename_i e1
        subst e1
        obtain ⟨t, ht, rfl⟩ := pj_br_inv hj
        rename_i cd off _ x r
        cases cd
        · exact lv_if_eq hx hb hd ht (fun h => by rw [if_pos (by simp [pj_cond, h])] at k; exact k) (fun h => by rw [if_neg (by simp [pj_cond, h])] at k; exact k)
        · exact lv_if_ne hx hb hd ht (fun h => by rw [if_pos (by simp [pj_cond, h])] at k; exact k) (fun h => by rw [if_neg (by simpa [pj_cond] using h)] at k; exact k)
        · exact lv_if_lt hx hb hd ht (fun h => by rw [if_pos (by simp [pj_cond, h])] at k; exact k) (fun h => by rw [if_neg (by simpa [pj_cond] using h)] at k; exact k)
        · exact lv_if_ge hx hb hd ht (fun h => by rw [if_pos (by simp [pj_cond, h])] at k; exact k) (fun h => by rw [if_neg (by simpa [pj_cond] using h)] at k; exact k)
        · exact lv_if_gt hx hb hd ht (fun h => by rw [if_pos (by simp [pj_cond, h])] at k; exact k) (fun h => by rw [if_neg (by simpa [pj_cond] using h)] at k; exact k)
        · exact lv_if_le hx hb hd ht (fun h => by rw [if_pos (by simp [pj_cond, h])] at k; exact k) (fun h => by rw [if_neg (by simpa [pj_cond] using h)] at k; exact k)
      · cases hj
    · cases hj
  · split at hj
    · split at hj
      · rename_i e1
        subst e1
        obtain ⟨t, ht, rfl⟩ := pj_br_inv hj
        rename_i cd off _ y x r
        cases cd
        · exact lv_icmp_eq hx hb hd ht (fun h => by rw [if_pos (by simp [pj_cond, h])] at k; exact k) (fun h => by rw [if_neg (by simp [pj_cond, h])] at k; exact k)
        · exact lv_icmp_ne hx hb hd ht (fun h => by rw [if_pos (by simp [pj_cond, h])] at k; exact k) (fun h => by rw [if_neg (by simpa [pj_cond] using h)] at k; exact k)
        · exact lv_icmp_lt hx hb hd ht (fun h => by rw [if_pos (by simp [pj_cond, h])] at k; exact k) (fun h => by rw [if_neg (by simpa [pj_cond] using h)] at k; exact k)
        · exact lv_icmp_ge hx hb hd ht (fun h => by rw [if_pos (by simp [pj_cond, h])] at k; exact k) (fun h => by rw [if_neg (by simpa [pj_cond] using h)] at k; exact k)
        · exact lv_icmp_gt hx hb hd ht (fun h => by rw [if_pos (by simp [pj_cond, h])] at k; exact k) (fun h => by rw [if_neg (by simpa [pj_cond] using h)] at k; exact k)
        · exact lv_icmp_le hx hb hd ht (fun h => by rw [if_pos (by simp [pj_cond, h])] at k; exact k) (fun h => by rw [if_neg (by simpa [pj_cond] using h)] at k; exact k)
      · cases hj
    · cases hj
  · split at hj
    · split at hj
      · rename_i hout
        split at hj
        · rename_i t ht
          cases hj
          exact lv_tableOut hx hb hd hout (pj_tgt_ok ht) k
        · cases hj
      · rename_i hout
        split at hj
        · rename_i o ho
          split at hj
          · rename_i t ht
            cases hj
            exact lv_tableIn hx hb hd (fun q => hout (Or.inl q)) (fun q => hout (Or.inr q)) ho (pj_tgt_ok ht) k
          · cases hj
        · cases hj
    · cases hj
  · split at hj
    · split at hj
      · rename_i hs
        split at hj
        · rename_i t ht
          cases hj
          exact lv_lookup hx hb hd hs rfl (pj_tgt_ok ht) k
        · cases hj
      · cases hj
    · cases hj
  · cases hj
end PJO
